theorem tq_acI {args : Array Value} {s : State} (h : (Cond.arrayClass .int).before args s = true) : ∃ cA : ClassId, ArrOfT s cA .int ∧ va_RA s cA .int := by
  obtain ⟨cA, kA, comp, h1, h2, h3⟩ := Cond.arrayClass_spec h
  exact ⟨cA, fun n z => ⟨fun k h => (by cases h), kA, h2, comp, h3⟩, h1⟩
theorem tq_acJ {args : Array Value} {s : State} (h : (Cond.arrayClass .long).before args s = true) : ∃ cA : ClassId, ArrOfT s cA .long ∧ va_RA s cA .long := by
  obtain ⟨cA, kA, comp, h1, h2, h3⟩ := Cond.arrayClass_spec h
  exact ⟨cA, fun n z => ⟨fun k h => (by cases h), kA, h2, comp, h3⟩, h1⟩
theorem tq_acZ {args : Array Value} {s : State} (h : (Cond.arrayClass .boolean).before args s = true) : ∃ cA : ClassId, ArrOfT s cA .boolean ∧ va_RA s cA .boolean := by
  obtain ⟨cA, kA, comp, h1, h2, h3⟩ := Cond.arrayClass_spec h
  exact ⟨cA, fun n z => ⟨fun k h => (by cases h), kA, h2, comp, h3⟩, h1⟩
theorem tq_N0 {args : Array Value} {s : State} (hts : ∀ w ∈ lw_tbl, w.before args s = true) : tq_N s := by
  intro q hq
  simp only [tq_nest, List.mem_cons, List.not_mem_nil, or_false] at hq
  rcases hq with rfl | rfl | rfl | rfl | rfl | rfl | rfl | rfl | rfl | rfl
  · exact va_Nw.of rfl (hts _ (List.mem_of_getElem? (i := 107) (by decide +kernel)))
  · exact va_Nw.of rfl (hts _ (List.mem_of_getElem? (i := 150) (by decide +kernel)))
  · exact va_Nw.of rfl (hts _ (List.mem_of_getElem? (i := 349) (by decide +kernel)))
  · exact va_Nw.of rfl (hts _ (List.mem_of_getElem? (i := 371) (by decide +kernel)))
  · exact va_Nw.of rfl (hts _ (List.mem_of_getElem? (i := 408) (by decide +kernel)))
  · exact va_Nw.of rfl (hts _ (List.mem_of_getElem? (i := 445) (by decide +kernel)))
  · exact va_Nw.of rfl (hts _ (List.mem_of_getElem? (i := 486) (by decide +kernel)))
  · exact va_Nw.of rfl (hts _ (List.mem_of_getElem? (i := 495) (by decide +kernel)))
  · exact va_Nw.of rfl (hts _ (List.mem_of_getElem? (i := 529) (by decide +kernel)))
  · exact va_Nw.of rfl (hts _ (List.mem_of_getElem? (i := 573) (by decide +kernel)))
theorem tq_Z0 {args : Array Value} {s : State} {A : Nat → Prop} (hts : ∀ w ∈ lw_tbl, w.before args s = true) (hgv : (Jvm.Cond.and given_1 narrow_1).before args s = true) (hA : ∀ a : Nat, a < s.heap.size → ¬ A a) : ∃ tt : Nat, tq_Z tt A s s.heap := by
  have hs := flat_of_before _ hgv
  have harr : (Cond.arrayOf (.static "TableauNodes$Concepts" "LOW_ATOM_WORDS" "[J") .long).before args s = true := hs _ (by decide +kernel)
  have hlen : (Cond.eq (.length (.static "TableauNodes$Concepts" "LOW_ATOM_WORDS" "[J")) (.int 6)).before args s = true := hs _ (by decide +kernel)
  have h0 : (Cond.eq (.elem (.static "TableauNodes$Concepts" "LOW_ATOM_WORDS" "[J") (.int 0)) (.long (-6148914691236517206))).before args s = true := hs _ (by decide +kernel)
  have h1 : (Cond.eq (.elem (.static "TableauNodes$Concepts" "LOW_ATOM_WORDS" "[J") (.int 1)) (.long (-3689348814741910324))).before args s = true := hs _ (by decide +kernel)
  have h2 : (Cond.eq (.elem (.static "TableauNodes$Concepts" "LOW_ATOM_WORDS" "[J") (.int 2)) (.long (-1085102592571150096))).before args s = true := hs _ (by decide +kernel)
  have h3 : (Cond.eq (.elem (.static "TableauNodes$Concepts" "LOW_ATOM_WORDS" "[J") (.int 3)) (.long (-71777214294589696))).before args s = true := hs _ (by decide +kernel)
  have h4 : (Cond.eq (.elem (.static "TableauNodes$Concepts" "LOW_ATOM_WORDS" "[J") (.int 4)) (.long (-281470681808896))).before args s = true := hs _ (by decide +kernel)
  have h5 : (Cond.eq (.elem (.static "TableauNodes$Concepts" "LOW_ATOM_WORDS" "[J") (.int 5)) (.long (-4294967296))).before args s = true := hs _ (by decide +kernel)
  obtain ⟨t, ht, hT⟩ := va_Tof (tm := (.static "TableauNodes$Concepts" "LOW_ATOM_WORDS" "[J")) (ty := .long) (N := 6) (f := fun j => .long (tq_lowA j)) (A := A) (by decide) harr (va_eqt hlen) (fun j hj => by
    rcases (show j = 0 ∨ j = 1 ∨ j = 2 ∨ j = 3 ∨ j = 4 ∨ j = 5 by omega) with rfl | rfl | rfl | rfl | rfl | rfl
    · exact va_eqtl h0
    · exact va_eqtl h1
    · exact va_eqtl h2
    · exact va_eqtl h3
    · exact va_eqtl h4
    · exact va_eqtl h5
    ) hA
  exact ⟨t, va_Zref (hts _ (List.mem_of_getElem? (i := 94) (by decide +kernel))) (hts _ (List.mem_of_getElem? (i := 49) (by decide +kernel))) ht hA, hT⟩
set_option maxHeartbeats 40000000 in
set_option maxRecDepth 100000 in
theorem whole_open {p : Program} {e : Env} {s : State} {m : MethodId} {below : List Frame} {meth : Method} {c : Code} (l : Launch) {b L : Nat} {xs : Nat → Int32} (C0 : lw_At p s m meth c b L xs) (r1 r2 : Int32) (σ1 σC σR σH : tq_S) (f1 : tq_fI st_Co_make (0, [0, 0, 0], [], tq_s0) = some (r1, σ1)) (f2 : tq_fI st_Co_make (0, [1, 0, 0], [], σ1) = some (r2, σC)) (f3 : tq_fV st_Ro_close (0, [], [], tq_s0) = some ((), σR)) (f4 : tq_fV st_Th_clear (0, [], [], tq_s0) = some ((), σH)) (n0 : Nat) (σ' : tq_S) (hgo : tq_go (st_Lw_law L xs) n0 (18, [0], [], tq_m0 σC σR σH) = some (tq_rt, [1], [], σ')) : W p l e room_1 s m #[Value.ref b] below meth c s.heap [] 0 0 (lw_Z below #[Value.ref b] s) (entryFrame m ([Value.ref b] : List Value).toArray 4) := by
  obtain ⟨hx, hb, hr, hml, hown, hts0, hX, hbl, hlocks, hgv⟩ := id C0
  have hts : ∀ w ∈ tq_T, w.before #[Value.ref b] s = true := fun w h => hts0 w (List.mem_filter.mp h).1
  have hA : ∀ q : Nat, s.heap.size ≤ q → (fun q : Nat => s.heap.size ≤ q) q := fun _ h => h
  have hbA : ¬ (fun q : Nat => s.heap.size ≤ q) b := Nat.not_le.mpr hbl
  have hN := tq_N0 hts0
  obtain ⟨tt, hZ⟩ := tq_Z0 (A := fun q : Nat => s.heap.size ≤ q) hts0 hgv (fun a h => Nat.not_le.mpr h)
  obtain ⟨cI, haI, hbI⟩ := tq_acI (hts _ tw_91)
  obtain ⟨cL, haJ, hbJ⟩ := tq_acJ (hts _ tw_92)
  obtain ⟨cZ, haZ, hbZ⟩ := tq_acZ (hts _ tw_675)
  obtain ⟨c0, iS0, hKn0⟩ := u_known (C := "TableauNodes") (T := F_Tn) (N := 4) (n := 4) hts in_Tn (hts _ tw_12)
  obtain ⟨c1, iS1, hKn1⟩ := u_known (C := "TableauNodes$Concepts") (T := F_Co) (N := 9) (n := 9) hts in_Co (hts _ tw_20)
  obtain ⟨c2, iS2, hKn2⟩ := u_known (C := "TableauNodes$Roles") (T := F_Ro) (N := 2) (n := 2) hts in_Ro (hts _ tw_94)
  obtain ⟨c3, iS3, hKn3⟩ := u_known (C := "TableauNodes$GoodTypes") (T := F_Go) (N := 15) (n := 15) hts in_Go (hts _ tw_112)
  obtain ⟨c4, iS4, hKn4⟩ := u_known (C := "TableauNodes$Things") (T := F_Th) (N := 15) (n := 15) hts in_Th (hts _ tw_164)
  obtain ⟨c5, iS5, hKn5⟩ := u_known (C := "TableauNodesModel") (T := F_Mo) (N := 25) (n := 25) hts in_Mo (hts _ tw_593)
  obtain ⟨dC, dI, hKc⟩ : ∃ (dC : Nat → ClassId) (dI : Nat → Nat → Nat), ∀ (k : Nat) (q : vw_C), tq_cl[k]? = some q → u_Kn s q.1 q.2.1 q.2.2 (dC k) (dI k) := by
    refine ⟨fun k => if k = 0 then c0 else if k = 1 then c1 else if k = 2 then c2 else if k = 3 then c3 else if k = 4 then c4 else c5, fun k => if k = 0 then iS0 else if k = 1 then iS1 else if k = 2 then iS2 else if k = 3 then iS3 else if k = 4 then iS4 else iS5, ?_⟩
    intro k q hq
    match k, hq with
    | 0, hq => cases hq; exact hKn0
    | 1, hq => cases hq; exact hKn1
    | 2, hq => cases hq; exact hKn2
    | 3, hq => cases hq; exact hKn3
    | 4, hq => cases hq; exact hKn4
    | 5, hq => cases hq; exact hKn5
    | k + 6, hq => simp [tq_cl] at hq
  have hS : va_S (fun q : Nat => s.heap.size ≤ q) s.heap s.heap [] := va_S.rf
  have hK : va_K (dC, dI) tq_cl (tq_ty cI cL cZ) s := ⟨hKc, fun k q h => by
    match k, h with
    | 0, h => cases h; exact ⟨haI, hbI⟩
    | 1, h => cases h; exact ⟨haJ, hbJ⟩
    | 2, h => cases h; exact ⟨haZ, hbZ⟩
    | k + 3, h => simp at h⟩
  have hP : va_P (dC, dI) tq_cl [] s.heap := fun k q h => by simp at h
  have hD : va_D (fun q : Nat => s.heap.size ≤ q) [] := ⟨fun i j p q h => by simp at h, fun k q h => by simp at h⟩
  have hl := lv_entry ([.ref b]) (n := 4) (Nat.le_of_ble_eq_true rfl)
  rw [lg_entry_eq]
  generalize (lg_sl ([.ref b]) ++ List.replicate (4 - (lg_sl ([.ref b])).length) Slot.unset).toArray = ls at hl ⊢
  have hl : lv_has ls 4 [(0, .ref b)] := hl
  refine va_new (ci := 0) (fs := [.null, .null, .null, .null]) (C := "TableauNodes") (T := F_Tn) (N := 4) hx hb hts in_Tn ty_Tn tk_Tn hown (hts _ tw_11) (hts _ tw_12) (hts _ tw_1) hK hP hD hS hA rfl (fun j hj => by rcases (show j = 0 ∨ j = 1 ∨ j = 2 ∨ j = 3 by omega) with rfl | rfl | rfl | rfl <;> rfl) (Nat.le_of_ble_eq_true rfl) (Nat.le_of_ble_eq_true rfl) d_Lw_law_0 (fun q0 H hP hD hS => ?_)
  refine W.widen (k := 1) (n := 4) (Nat.le_of_ble_eq_true rfl) (Nat.le_of_ble_eq_true rfl) ?_
  refine lv_dup hx hb d_Lw_law_3 rfl ?_
  have hPc := hP.sub (ws' := [(q0, .inr (0, [.null, .null, .null, .null]))]) [0] rfl
  have hDc := hD.sub (ws' := [(q0, .inr (0, [.null, .null, .null, .null]))]) [0] (by decide) rfl
  have hFc := va_free (wc := [(q0, .inr (0, [.null, .null, .null, .null]))]) hD hS hA [0] rfl
  refine va_callv (va_runI (As := []) (rest := [.ref q0]) ⟨hx, hb, hml, hown, hts⟩ (c_Tn_init l dC dI cI cL cZ tt q0 H.size r1 r2 σ1 σC σR σH f1 f2 f3 f4) (cwI 0 hts (tq_gC tw_15) rfl rfl rfl (hts _ tw_1) (hts _ tw_13) (hts _ tw_14) rfl (by decide +kernel) ⟨Nat.le_of_ble_eq_true rfl, Nat.le_of_ble_eq_true rfl⟩) ⟨tq_bl, tq_prc hPc hK hDc hS hFc hZ hN⟩ rfl rfl hl.1 rfl (lv_room (Nat.le_of_ble_eq_true rfl)) d_Lw_law_4 ⟨Nat.le_of_ble_eq_true rfl, Nat.le_of_ble_eq_true rfl⟩) hS (fun q _ h => hFc q h) hFc (fun ad0 t H1 locs ht hvm hw0 hB hz1 hk1 hS => ?_)
  obtain ⟨hP1, hK1, hD1⟩ := hB
  rw [ht] at hP1
  try dsimp only at hw0
  obtain ⟨hP, hD⟩ := va_join (wr := []) (w1 := woT cI cL cZ ad0 (tq_m0 σC σR σH)) hP hD [0] [] rfl rfl (by decide) (by decide) hk1 hFc hP1 hD1
  generalize H1 = H at hP hS ⊢
  refine W.widen (k := 29) (n := 9562) (Nat.le_of_ble_eq_true rfl) (Nat.le_of_ble_eq_true rfl) ?_
  replace hP : va_P (dC, dI) tq_cl (woT cI cL cZ ad0 (tq_m0 σC σR σH)) H := hP
  replace hD : va_D (fun q : Nat => s.heap.size ≤ q) (woT cI cL cZ ad0 (tq_m0 σC σR σH)) := hD
  refine lv_astore_n (lv' := [(1, .ref q0), (0, .ref b)]) hx hb d_Lw_law_7 rfl hl (by decide) rfl (fun ls hl => ?_)
  refine va_new (ci := 5) (fs := [.null, .null, .null, .int 0, .null, .int 0, .null, .null, .int 0, .null, .null, .null, .int 0, .null, .null, .null, .int 0, .int 0, .null, .null, .null, .null, .int 0, .null, .null]) (C := "TableauNodesModel") (T := F_Mo) (N := 25) hx hb hts in_Mo ty_Mo tk_Mo hown (hts _ tw_592) (hts _ tw_593) (hts _ tw_6) hK hP hD hS hA rfl (fun j hj => by rcases (show j = 0 ∨ j = 1 ∨ j = 2 ∨ j = 3 ∨ j = 4 ∨ j = 5 ∨ j = 6 ∨ j = 7 ∨ j = 8 ∨ j = 9 ∨ j = 10 ∨ j = 11 ∨ j = 12 ∨ j = 13 ∨ j = 14 ∨ j = 15 ∨ j = 16 ∨ j = 17 ∨ j = 18 ∨ j = 19 ∨ j = 20 ∨ j = 21 ∨ j = 22 ∨ j = 23 ∨ j = 24 by omega) with rfl | rfl | rfl | rfl | rfl | rfl | rfl | rfl | rfl | rfl | rfl | rfl | rfl | rfl | rfl | rfl | rfl | rfl | rfl | rfl | rfl | rfl | rfl | rfl | rfl <;> rfl) (Nat.le_of_ble_eq_true rfl) (Nat.le_of_ble_eq_true rfl) d_Lw_law_8 (fun q1 H hP hD hS => ?_)
  refine W.widen (k := 30) (n := 9587) (Nat.le_of_ble_eq_true rfl) (Nat.le_of_ble_eq_true rfl) ?_
  refine lv_dup hx hb d_Lw_law_11 rfl ?_
  have hPc := hP.sub (ws' := [(q1, .inr (5, [.null, .null, .null, .int 0, .null, .int 0, .null, .null, .int 0, .null, .null, .null, .int 0, .null, .null, .null, .int 0, .int 0, .null, .null, .null, .null, .int 0, .null, .null]))]) [29] rfl
  have hDc := hD.sub (ws' := [(q1, .inr (5, [.null, .null, .null, .int 0, .null, .int 0, .null, .null, .int 0, .null, .null, .null, .int 0, .null, .null, .null, .int 0, .int 0, .null, .null, .null, .null, .int 0, .null, .null]))]) [29] (by decide) rfl
  have hFc := va_free (wc := [(q1, .inr (5, [.null, .null, .null, .int 0, .null, .int 0, .null, .null, .int 0, .null, .null, .null, .int 0, .null, .null, .null, .int 0, .int 0, .null, .null, .null, .null, .int 0, .null, .null]))]) hD hS hA [29] rfl
  refine va_callv (va_runI (As := []) (rest := [.ref q1]) ⟨hx, hb, hml, hown, hts⟩ (c_Mo_init l dC dI cI cL cZ tt q1 H.size ) (cwI 0 hts (tq_gC tw_596) rfl rfl rfl (hts _ tw_6) (hts _ tw_594) (hts _ tw_595) rfl (by decide +kernel) ⟨Nat.le_of_ble_eq_true rfl, Nat.le_of_ble_eq_true rfl⟩) ⟨tq_bl, tq_prc hPc hK hDc hS hFc hZ hN⟩ rfl rfl hl.1 rfl (lv_room (Nat.le_of_ble_eq_true rfl)) d_Lw_law_12 ⟨Nat.le_of_ble_eq_true rfl, Nat.le_of_ble_eq_true rfl⟩) hS (fun q _ h => hFc q h) hFc (fun ad1 t H1 locs ht hvm hw1 hB hz1 hk1 hS => ?_)
  obtain ⟨hP1, hK1, hD1⟩ := hB
  rw [ht] at hP1
  try dsimp only at hw1
  obtain ⟨hP, hD⟩ := va_join (wr := (woT cI cL cZ ad0 (tq_m0 σC σR σH))) (w1 := woM cI cL cZ ad1 (fput (iput tq_s0 17 1 1) 13 2)) hP hD [29] [0, 1, 2, 3, 4, 5, 6, 7, 8, 9, 10, 11, 12, 13, 14, 15, 16, 17, 18, 19, 20, 21, 22, 23, 24, 25, 26, 27, 28] rfl rfl (by decide) (by decide) hk1 hFc hP1 hD1
  generalize H1 = H at hP hS ⊢
  refine W.widen (k := 48) (n := 124822) (Nat.le_of_ble_eq_true rfl) (Nat.le_of_ble_eq_true rfl) ?_
  replace hP : va_P (dC, dI) tq_cl ((woT cI cL cZ ad0 (tq_m0 σC σR σH)) ++ (woM cI cL cZ ad1 (fput (iput tq_s0 17 1 1) 13 2))) H := hP
  replace hD : va_D (fun q : Nat => s.heap.size ≤ q) ((woT cI cL cZ ad0 (tq_m0 σC σR σH)) ++ (woM cI cL cZ ad1 (fput (iput tq_s0 17 1 1) 13 2))) := hD
  refine lv_astore_n (lv' := [(2, .ref q1), (1, .ref q0), (0, .ref b)]) hx hb d_Lw_law_15 rfl hl (by decide) rfl (fun ls hl => ?_)
  obtain ⟨ad, had⟩ : ∃ ad : Nat → Nat, ad = (fun k => if k = 5 then ad1 5 else if k = 30 then ad1 30 else if k = 31 then ad1 31 else if k = 32 then ad1 32 else if k = 33 then ad1 33 else if k = 34 then ad1 34 else if k = 35 then ad1 35 else if k = 36 then ad1 36 else if k = 37 then ad1 37 else if k = 38 then ad1 38 else if k = 39 then ad1 39 else if k = 40 then ad1 40 else if k = 41 then ad1 41 else if k = 42 then ad1 42 else if k = 43 then ad1 43 else if k = 44 then ad1 44 else if k = 45 then ad1 45 else if k = 46 then ad1 46 else if k = 47 then ad1 47 else ad0 k) := ⟨_, rfl⟩
  have hP := hP.sub (ws' := wo cI cL cZ ad (tq_m0 σC σR σH)) [0, 1, 2, 3, 4, 29, 5, 6, 7, 8, 9, 10, 11, 12, 13, 14, 15, 16, 17, 18, 19, 20, 21, 22, 23, 24, 25, 26, 27, 28, 30, 31, 32, 33, 34, 35, 36, 37, 38, 39, 40, 41, 42, 43, 44, 45, 46, 47] (by rw [had]; rfl)
  have hD := hD.sub (ws' := wo cI cL cZ ad (tq_m0 σC σR σH)) [0, 1, 2, 3, 4, 29, 5, 6, 7, 8, 9, 10, 11, 12, 13, 14, 15, 16, 17, 18, 19, 20, 21, 22, 23, 24, 25, 26, 27, 28, 30, 31, 32, 33, 34, 35, 36, 37, 38, 39, 40, 41, 42, 43, 44, 45, 46, 47] (by decide) (by rw [had]; rfl)
  have h0 : ad 0 = q0 := by rw [had]; exact hw0
  have h5 : ad 5 = q1 := by rw [had]; exact hw1
  rw [← h0, ← h5] at hl
  refine lv_iconst (v := 0) hx hb d_Lw_law_16 (by decide) ?_
  refine lv_istore_n (lv' := [(3, .int 0), (2, .ref (ad 5)), (1, .ref (ad 0)), (0, .ref b)]) hx hb d_Lw_law_17 rfl hl (by decide) rfl (fun ls hl => ?_)
  exact law_key C0 hK hZ hN n0 hP hD hS (lv_sub hl [3, 2, 1, 0] rfl) hgo
