theorem d_Tn_isBelow_0 : decode prog_1_method_21_code 0 = .ok (.iload_n 0, 1) := by decide +kernel
theorem d_Tn_isBelow_1 : decode prog_1_method_21_code 1 = .ok (.ifCond .lt 12, 3) := by decide +kernel
theorem d_Tn_isBelow_4 : decode prog_1_method_21_code 4 = .ok (.iload_n 0, 1) := by decide +kernel
theorem d_Tn_isBelow_5 : decode prog_1_method_21_code 5 = .ok (.iload_n 1, 1) := by decide +kernel
theorem d_Tn_isBelow_6 : decode prog_1_method_21_code 6 = .ok (.if_icmp .ge 7, 3) := by decide +kernel
theorem d_Tn_isBelow_9 : decode prog_1_method_21_code 9 = .ok (.iconst 1, 1) := by decide +kernel
theorem d_Tn_isBelow_10 : decode prog_1_method_21_code 10 = .ok (.goto 4, 3) := by decide +kernel
theorem d_Tn_isBelow_13 : decode prog_1_method_21_code 13 = .ok (.iconst 0, 1) := by decide +kernel
theorem d_Tn_isBelow_14 : decode prog_1_method_21_code 14 = .ok (.ireturn, 1) := by decide +kernel
noncomputable def bk_Tn_isBelow_0 : List Int32 → List Int64 → tq_S → Option tq_C
  | [x0, x1], [], σ => if x0 < 0 then some (tq_rt, [0], [], σ) else if x1 ≤ x0 then some (tq_rt, [0], [], σ) else some (tq_rt, [1], [], σ)
  | _, _, _ => none
noncomputable def st_Tn_isBelow (c : tq_C) : Option tq_C := if c.1 = 0 then bk_Tn_isBelow_0 c.2.1 c.2.2.1 c.2.2.2 else none
set_option maxHeartbeats 40000000 in
set_option maxRecDepth 100000 in
theorem c_Tn_isBelow (l : Launch) (dC : Nat → ClassId) (dI : Nat → Nat → Nat) (cI cL cZ : ClassId) (ad : Nat → Nat) (tt : Nat) (sz : Nat) (σ : tq_S) (a0 : Int32) (a1 : Int32) (r : Int32) (σ' : tq_S) (hf : tq_fI st_Tn_isBelow (0, [a0, a1], [], σ) = some (r, σ')) : Met l y_Tn_isBelow w_Tn_isBelow ({ frames := 0, cells := 0, slots := 0, locals := 0 } : Room) (va_Pc [.int a0, .int a1] (tq_B dC dI cI cL cZ tt (wo cI cL cZ ad σ) sz)) (va_Qi (fun (r' : Int32) (u : tq_S) => r' = r ∧ u = σ') (tq_E dC dI cI cL cZ (wo cI cL cZ ad) (va_A (wo cI cL cZ ad σ) sz)) (va_A (wo cI cL cZ ad σ) sz)) 0 0 (va_A (wo cI cL cZ ad σ) sz) := by
  obtain ⟨n0, h0⟩ := tq_fI_to hf
  refine Met.ofW (cc := prog_1_method_21_code) (maxL := 2) (ret := (some .boolean)) (by decide) rfl ?_
  intro p e s m args below meth c s₁ B hml hv
  obtain ⟨rfl, hsz, hP, hK, hD0, hZ, hN⟩ := hv
  have hx := B.exec
  have hb := B.bytes
  have hr := B.returns
  have hts : ∀ w ∈ tq_T, w.before _ s = true := fun w h => atoms_spec (ws := w_Tn_isBelow) B.pre w (List.mem_cons_of_mem _ h)
  have hown : s.vm.findClass "TableauNodes" = some m.cls := findClass_of_methodNamed B.named
  have hlocks := B.notSynchronized
  subst hsz
  have hD := hD0.self (sz := s.heap.size)
  have hS : va_S (va_A (wo cI cL cZ ad σ) s.heap.size) s.heap s.heap [] := va_S.rf
  have hA : ∀ q : Nat, s.heap.size ≤ q → va_A (wo cI cL cZ ad σ) s.heap.size q := fun q h => Or.inr h
  generalize va_A (wo cI cL cZ ad σ) s.heap.size = A at hD hS hA hZ ⊢
  have hl := lv_entry ([.int a0, .int a1]) (n := 2) (Nat.le_of_ble_eq_true rfl)
  rw [lg_entry_eq]
  generalize (lg_sl ([.int a0, .int a1]) ++ List.replicate (2 - (lg_sl ([.int a0, .int a1])).length) Slot.unset).toArray = ls at hl ⊢
  have hl : lv_has ls 2 [(0, .int a0), (1, .int a1)] := hl
  have key : ∀ n : Nat, (∀ {x0 x1 : Int32} {σ : tq_S} {H : Heap} {locs : List Loc} {ls : Array Slot}, va_P (dC, dI) tq_cl (wo cI cL cZ ad σ) H → va_D A (wo cI cL cZ ad σ) → va_S A s.heap H locs → lv_has ls 2 [(0, .int x0), (1, .int x1)] → tq_go st_Tn_isBelow n (0, [x0, x1], [], σ) = some (tq_rt, [r], [], σ') → W p l e (headSpec w_Tn_isBelow ({ frames := 0, cells := 0, slots := 0, locals := 0 } : Room)).room s m ([.int a0, .int a1] : List Value).toArray below meth c H locs 0 0 (MQ below (va_Qi (fun (r' : Int32) (u : tq_S) => r' = r ∧ u = σ') (tq_E dC dI cI cL cZ (wo cI cL cZ ad) A) A) ([.int a0, .int a1] : List Value).toArray s 0 0 A) (F0 m 0 ls [])) := by
    intro n
    induction n with
    | zero => exact fun _ _ _ _ h => by cases h
    | succ n ih =>
      intro x0 x1 σ H locs ls hP hD hS hl h9
      obtain ⟨q9, hg, hn⟩ := tq_go_s h9 (show ¬ (0 : Nat) = tq_rt by decide)
      replace hg : bk_Tn_isBelow_0 [x0, x1] [] σ = some q9 := hg
      unfold bk_Tn_isBelow_0 at hg
      refine lv_iload_n hx hb d_Tn_isBelow_0 rfl (lv_at hl 0 rfl) ?_
      refine lv_if_lt (tgt := 13) hx hb d_Tn_isBelow_1 (by decide) (fun c1 => ?_) (fun c1 => ?_)
      · replace hg := tq_if_t c1 hg
        refine lv_iconst (v := 0) hx hb d_Tn_isBelow_13 (by decide) ?_
        exact W.zret (v := 0) hx hb hr rfl (fun t ht hW => ⟨⟨0, σ, rfl, tq_grI hg hn, by rw [ht]; exact hP, va_K.moved hW.alike hK, hD⟩, hS.F ht⟩) hS.2.2 d_Tn_isBelow_14
      · replace hg := tq_if_f c1 hg
        refine lv_iload_n hx hb d_Tn_isBelow_4 rfl (lv_at hl 0 rfl) ?_
        refine lv_iload_n hx hb d_Tn_isBelow_5 rfl (lv_at hl 1 rfl) ?_
        refine lv_icmp_ge (tgt := 13) hx hb d_Tn_isBelow_6 (by decide) (fun c2 => ?_) (fun c2 => ?_)
        · replace hg := tq_if_t c2 hg
          refine lv_iconst (v := 0) hx hb d_Tn_isBelow_13 (by decide) ?_
          exact W.zret (v := 0) hx hb hr rfl (fun t ht hW => ⟨⟨0, σ, rfl, tq_grI hg hn, by rw [ht]; exact hP, va_K.moved hW.alike hK, hD⟩, hS.F ht⟩) hS.2.2 d_Tn_isBelow_14
        · replace hg := tq_if_f c2 hg
          refine lv_iconst (v := 1) hx hb d_Tn_isBelow_9 (by decide) ?_
          refine lv_goto (tgt := 14) hx hb d_Tn_isBelow_10 (by decide) ?_
          exact W.zret (v := 1) hx hb hr rfl (fun t ht hW => ⟨⟨1, σ, rfl, tq_grI hg hn, by rw [ht]; exact hP, va_K.moved hW.alike hK, hD⟩, hS.F ht⟩) hS.2.2 d_Tn_isBelow_14
  exact (key n0) hP hD hS hl h0
theorem d_Tn_hasBit_0 : decode prog_1_method_22_code 0 = .ok (.lload_n 0, 1) := by decide +kernel
theorem d_Tn_hasBit_1 : decode prog_1_method_22_code 1 = .ok (.iload_n 2, 1) := by decide +kernel
theorem d_Tn_hasBit_2 : decode prog_1_method_22_code 2 = .ok (.lushr, 1) := by decide +kernel
theorem d_Tn_hasBit_3 : decode prog_1_method_22_code 3 = .ok (.lconst 1, 1) := by decide +kernel
theorem d_Tn_hasBit_4 : decode prog_1_method_22_code 4 = .ok (.land, 1) := by decide +kernel
theorem d_Tn_hasBit_5 : decode prog_1_method_22_code 5 = .ok (.lconst 0, 1) := by decide +kernel
theorem d_Tn_hasBit_6 : decode prog_1_method_22_code 6 = .ok (.lcmp, 1) := by decide +kernel
theorem d_Tn_hasBit_7 : decode prog_1_method_22_code 7 = .ok (.ifCond .eq 7, 3) := by decide +kernel
theorem d_Tn_hasBit_10 : decode prog_1_method_22_code 10 = .ok (.iconst 1, 1) := by decide +kernel
theorem d_Tn_hasBit_11 : decode prog_1_method_22_code 11 = .ok (.goto 4, 3) := by decide +kernel
theorem d_Tn_hasBit_14 : decode prog_1_method_22_code 14 = .ok (.iconst 0, 1) := by decide +kernel
theorem d_Tn_hasBit_15 : decode prog_1_method_22_code 15 = .ok (.ireturn, 1) := by decide +kernel
noncomputable def bk_Tn_hasBit_0 : List Int32 → List Int64 → tq_S → Option tq_C
  | [x2], [y0], σ => if (lg_cmp ((jlushr y0 x2) &&& 1) 0) = 0 then some (tq_rt, [0], [], σ) else some (tq_rt, [1], [], σ)
  | _, _, _ => none
noncomputable def st_Tn_hasBit (c : tq_C) : Option tq_C := if c.1 = 0 then bk_Tn_hasBit_0 c.2.1 c.2.2.1 c.2.2.2 else none
set_option maxHeartbeats 40000000 in
set_option maxRecDepth 100000 in
theorem c_Tn_hasBit (l : Launch) (dC : Nat → ClassId) (dI : Nat → Nat → Nat) (cI cL cZ : ClassId) (ad : Nat → Nat) (tt : Nat) (sz : Nat) (σ : tq_S) (a2 : Int32) (b0 : Int64) (r : Int32) (σ' : tq_S) (hf : tq_fI st_Tn_hasBit (0, [a2], [b0], σ) = some (r, σ')) : Met l y_Tn_hasBit w_Tn_hasBit ({ frames := 0, cells := 0, slots := 0, locals := 0 } : Room) (va_Pc [.long b0, .int a2] (tq_B dC dI cI cL cZ tt (wo cI cL cZ ad σ) sz)) (va_Qi (fun (r' : Int32) (u : tq_S) => r' = r ∧ u = σ') (tq_E dC dI cI cL cZ (wo cI cL cZ ad) (va_A (wo cI cL cZ ad σ) sz)) (va_A (wo cI cL cZ ad σ) sz)) 0 0 (va_A (wo cI cL cZ ad σ) sz) := by
  obtain ⟨n0, h0⟩ := tq_fI_to hf
  refine Met.ofW (cc := prog_1_method_22_code) (maxL := 3) (ret := (some .boolean)) (by decide) rfl ?_
  intro p e s m args below meth c s₁ B hml hv
  obtain ⟨rfl, hsz, hP, hK, hD0, hZ, hN⟩ := hv
  have hx := B.exec
  have hb := B.bytes
  have hr := B.returns
  have hts : ∀ w ∈ tq_T, w.before _ s = true := fun w h => atoms_spec (ws := w_Tn_hasBit) B.pre w (List.mem_cons_of_mem _ h)
  have hown : s.vm.findClass "TableauNodes" = some m.cls := findClass_of_methodNamed B.named
  have hlocks := B.notSynchronized
  subst hsz
  have hD := hD0.self (sz := s.heap.size)
  have hS : va_S (va_A (wo cI cL cZ ad σ) s.heap.size) s.heap s.heap [] := va_S.rf
  have hA : ∀ q : Nat, s.heap.size ≤ q → va_A (wo cI cL cZ ad σ) s.heap.size q := fun q h => Or.inr h
  generalize va_A (wo cI cL cZ ad σ) s.heap.size = A at hD hS hA hZ ⊢
  have hl := lv_entry ([.long b0, .int a2]) (n := 3) (Nat.le_of_ble_eq_true rfl)
  rw [lg_entry_eq]
  generalize (lg_sl ([.long b0, .int a2]) ++ List.replicate (3 - (lg_sl ([.long b0, .int a2])).length) Slot.unset).toArray = ls at hl ⊢
  have hl : lv_has ls 3 [(0, .long b0), (2, .int a2)] := hl
  have key : ∀ n : Nat, (∀ {x2 : Int32} {y0 : Int64} {σ : tq_S} {H : Heap} {locs : List Loc} {ls : Array Slot}, va_P (dC, dI) tq_cl (wo cI cL cZ ad σ) H → va_D A (wo cI cL cZ ad σ) → va_S A s.heap H locs → lv_has ls 3 [(0, .long y0), (2, .int x2)] → tq_go st_Tn_hasBit n (0, [x2], [y0], σ) = some (tq_rt, [r], [], σ') → W p l e (headSpec w_Tn_hasBit ({ frames := 0, cells := 0, slots := 0, locals := 0 } : Room)).room s m ([.long b0, .int a2] : List Value).toArray below meth c H locs 0 0 (MQ below (va_Qi (fun (r' : Int32) (u : tq_S) => r' = r ∧ u = σ') (tq_E dC dI cI cL cZ (wo cI cL cZ ad) A) A) ([.long b0, .int a2] : List Value).toArray s 0 0 A) (F0 m 0 ls [])) := by
    intro n
    induction n with
    | zero => exact fun _ _ _ _ h => by cases h
    | succ n ih =>
      intro x2 y0 σ H locs ls hP hD hS hl h9
      obtain ⟨q9, hg, hn⟩ := tq_go_s h9 (show ¬ (0 : Nat) = tq_rt by decide)
      replace hg : bk_Tn_hasBit_0 [x2] [y0] σ = some q9 := hg
      unfold bk_Tn_hasBit_0 at hg
      refine lv_lload_n hx hb d_Tn_hasBit_0 rfl (lv_at hl 0 rfl) ?_
      refine lv_iload_n hx hb d_Tn_hasBit_1 rfl (lv_at hl 1 rfl) ?_
      refine lv_lushr hx hb d_Tn_hasBit_2 rfl ?_
      refine lv_lconst (v := 1) hx hb d_Tn_hasBit_3 (by decide) ?_
      refine lv_land hx hb d_Tn_hasBit_4 ?_
      refine lv_lconst (v := 0) hx hb d_Tn_hasBit_5 (by decide) ?_
      refine W.lcmp hx hb d_Tn_hasBit_6 ?_
      refine lv_if_eq (tgt := 14) hx hb d_Tn_hasBit_7 (by decide) (fun c1 => ?_) (fun c1 => ?_)
      · replace hg := tq_if_t c1 hg
        refine lv_iconst (v := 0) hx hb d_Tn_hasBit_14 (by decide) ?_
        exact W.zret (v := 0) hx hb hr rfl (fun t ht hW => ⟨⟨0, σ, rfl, tq_grI hg hn, by rw [ht]; exact hP, va_K.moved hW.alike hK, hD⟩, hS.F ht⟩) hS.2.2 d_Tn_hasBit_15
      · replace hg := tq_if_f c1 hg
        refine lv_iconst (v := 1) hx hb d_Tn_hasBit_10 (by decide) ?_
        refine lv_goto (tgt := 15) hx hb d_Tn_hasBit_11 (by decide) ?_
        exact W.zret (v := 1) hx hb hr rfl (fun t ht hW => ⟨⟨1, σ, rfl, tq_grI hg hn, by rw [ht]; exact hP, va_K.moved hW.alike hK, hD⟩, hS.F ht⟩) hS.2.2 d_Tn_hasBit_15
  exact (key n0) hP hD hS hl h0
theorem d_Co_isThere_0 : decode prog_2_method_7_code 0 = .ok (.iload_n 1, 1) := by decide +kernel
theorem d_Co_isThere_1 : decode prog_2_method_7_code 1 = .ok (.ifCond .lt 15, 3) := by decide +kernel
theorem d_Co_isThere_4 : decode prog_2_method_7_code 4 = .ok (.iload_n 1, 1) := by decide +kernel
theorem d_Co_isThere_5 : decode prog_2_method_7_code 5 = .ok (.aload_n 0, 1) := by decide +kernel
theorem d_Co_isThere_6 : decode prog_2_method_7_code 6 = .ok (.getfield 38, 3) := by decide +kernel
theorem d_Co_isThere_9 : decode prog_2_method_7_code 9 = .ok (.if_icmp .ge 7, 3) := by decide +kernel
theorem d_Co_isThere_12 : decode prog_2_method_7_code 12 = .ok (.iconst 1, 1) := by decide +kernel
theorem d_Co_isThere_13 : decode prog_2_method_7_code 13 = .ok (.goto 4, 3) := by decide +kernel
theorem d_Co_isThere_16 : decode prog_2_method_7_code 16 = .ok (.iconst 0, 1) := by decide +kernel
theorem d_Co_isThere_17 : decode prog_2_method_7_code 17 = .ok (.ireturn, 1) := by decide +kernel
noncomputable def bk_Co_isThere_0 : List Int32 → List Int64 → tq_S → Option tq_C
  | [x1], [], σ => if x1 < 0 then some (tq_rt, [0], [], σ) else if (σ.2.2 0) ≤ x1 then some (tq_rt, [0], [], σ) else some (tq_rt, [1], [], σ)
  | _, _, _ => none
noncomputable def st_Co_isThere (c : tq_C) : Option tq_C := if c.1 = 0 then bk_Co_isThere_0 c.2.1 c.2.2.1 c.2.2.2 else none
set_option maxHeartbeats 40000000 in
set_option maxRecDepth 100000 in
theorem c_Co_isThere (l : Launch) (dC : Nat → ClassId) (dI : Nat → Nat → Nat) (cI cL cZ : ClassId) (ad : Nat → Nat) (tt : Nat) (sz : Nat) (σ : tq_S) (a1 : Int32) (r : Int32) (σ' : tq_S) (hf : tq_fI st_Co_isThere (0, [a1], [], σ) = some (r, σ')) : Met l y_Co_isThere w_Co_isThere ({ frames := 0, cells := 0, slots := 0, locals := 0 } : Room) (va_Pc [.ref (ad 1), .int a1] (tq_B dC dI cI cL cZ tt (wo cI cL cZ ad σ) sz)) (va_Qi (fun (r' : Int32) (u : tq_S) => r' = r ∧ u = σ') (tq_E dC dI cI cL cZ (wo cI cL cZ ad) (va_A (wo cI cL cZ ad σ) sz)) (va_A (wo cI cL cZ ad σ) sz)) 0 0 (va_A (wo cI cL cZ ad σ) sz) := by
  obtain ⟨n0, h0⟩ := tq_fI_to hf
  refine Met.ofW (cc := prog_2_method_7_code) (maxL := 2) (ret := (some .boolean)) (by decide) rfl ?_
  intro p e s m args below meth c s₁ B hml hv
  obtain ⟨rfl, hsz, hP, hK, hD0, hZ, hN⟩ := hv
  have hx := B.exec
  have hb := B.bytes
  have hr := B.returns
  have hts : ∀ w ∈ tq_T, w.before _ s = true := fun w h => atoms_spec (ws := w_Co_isThere) B.pre w (List.mem_cons_of_mem _ h)
  have hown : s.vm.findClass "TableauNodes$Concepts" = some m.cls := findClass_of_methodNamed B.named
  have hlocks := B.notSynchronized
  subst hsz
  have hD := hD0.self (sz := s.heap.size)
  have hS : va_S (va_A (wo cI cL cZ ad σ) s.heap.size) s.heap s.heap [] := va_S.rf
  have hA : ∀ q : Nat, s.heap.size ≤ q → va_A (wo cI cL cZ ad σ) s.heap.size q := fun q h => Or.inr h
  generalize va_A (wo cI cL cZ ad σ) s.heap.size = A at hD hS hA hZ ⊢
  have hl := lv_entry ([.ref (ad 1), .int a1]) (n := 2) (Nat.le_of_ble_eq_true rfl)
  rw [lg_entry_eq]
  generalize (lg_sl ([.ref (ad 1), .int a1]) ++ List.replicate (2 - (lg_sl ([.ref (ad 1), .int a1])).length) Slot.unset).toArray = ls at hl ⊢
  have hl : lv_has ls 2 [(0, .ref (ad 1)), (1, .int a1)] := hl
  have key : ∀ n : Nat, (∀ {x1 : Int32} {σ : tq_S} {H : Heap} {locs : List Loc} {ls : Array Slot}, va_P (dC, dI) tq_cl (wo cI cL cZ ad σ) H → va_D A (wo cI cL cZ ad σ) → va_S A s.heap H locs → lv_has ls 2 [(0, .ref (ad 1)), (1, .int x1)] → tq_go st_Co_isThere n (0, [x1], [], σ) = some (tq_rt, [r], [], σ') → W p l e (headSpec w_Co_isThere ({ frames := 0, cells := 0, slots := 0, locals := 0 } : Room)).room s m ([.ref (ad 1), .int a1] : List Value).toArray below meth c H locs 0 0 (MQ below (va_Qi (fun (r' : Int32) (u : tq_S) => r' = r ∧ u = σ') (tq_E dC dI cI cL cZ (wo cI cL cZ ad) A) A) ([.ref (ad 1), .int a1] : List Value).toArray s 0 0 A) (F0 m 0 ls [])) := by
    intro n
    induction n with
    | zero => exact fun _ _ _ _ h => by cases h
    | succ n ih =>
      intro x1 σ H locs ls hP hD hS hl h9
      obtain ⟨q9, hg, hn⟩ := tq_go_s h9 (show ¬ (0 : Nat) = tq_rt by decide)
      replace hg : bk_Co_isThere_0 [x1] [] σ = some q9 := hg
      unfold bk_Co_isThere_0 at hg
      refine lv_iload_n hx hb d_Co_isThere_0 rfl (lv_at hl 1 rfl) ?_
      refine lv_if_lt (tgt := 16) hx hb d_Co_isThere_1 (by decide) (fun c1 => ?_) (fun c1 => ?_)
      · replace hg := tq_if_t c1 hg
        refine lv_iconst (v := 0) hx hb d_Co_isThere_16 (by decide) ?_
        exact W.zret (v := 0) hx hb hr rfl (fun t ht hW => ⟨⟨0, σ, rfl, tq_grI hg hn, by rw [ht]; exact hP, va_K.moved hW.alike hK, hD⟩, hS.F ht⟩) hS.2.2 d_Co_isThere_17
      · replace hg := tq_if_f c1 hg
        refine lv_iload_n hx hb d_Co_isThere_4 rfl (lv_at hl 1 rfl) ?_
        refine lv_aload_n hx hb d_Co_isThere_5 rfl (lv_at hl 0 rfl) ?_
        refine va_get (D := (dC, dI)) (ci := 1) (v := .int (σ.2.2 0)) (C := "TableauNodes$Concepts") (T := F_Co) (N := 9) hx hb hts in_Co hown hK hP 1 rfl rfl 7 (by decide) (hts _ tw_70) (fun _ h9 => h9) rfl d_Co_isThere_6 ?_
        refine lv_icmp_ge (tgt := 16) hx hb d_Co_isThere_9 (by decide) (fun c2 => ?_) (fun c2 => ?_)
        · replace hg := tq_if_t c2 hg
          refine lv_iconst (v := 0) hx hb d_Co_isThere_16 (by decide) ?_
          exact W.zret (v := 0) hx hb hr rfl (fun t ht hW => ⟨⟨0, σ, rfl, tq_grI hg hn, by rw [ht]; exact hP, va_K.moved hW.alike hK, hD⟩, hS.F ht⟩) hS.2.2 d_Co_isThere_17
        · replace hg := tq_if_f c2 hg
          refine lv_iconst (v := 1) hx hb d_Co_isThere_12 (by decide) ?_
          refine lv_goto (tgt := 17) hx hb d_Co_isThere_13 (by decide) ?_
          exact W.zret (v := 1) hx hb hr rfl (fun t ht hW => ⟨⟨1, σ, rfl, tq_grI hg hn, by rw [ht]; exact hP, va_K.moved hW.alike hK, hD⟩, hS.F ht⟩) hS.2.2 d_Co_isThere_17
  exact (key n0) hP hD hS hl h0
theorem d_Co_find_0 : decode prog_2_method_18_code 0 = .ok (.iconst 0, 1) := by decide +kernel
theorem d_Co_find_1 : decode prog_2_method_18_code 1 = .ok (.istore 4, 2) := by decide +kernel
theorem d_Co_find_3 : decode prog_2_method_18_code 3 = .ok (.iload 4, 2) := by decide +kernel
theorem d_Co_find_5 : decode prog_2_method_18_code 5 = .ok (.aload_n 0, 1) := by decide +kernel
theorem d_Co_find_6 : decode prog_2_method_18_code 6 = .ok (.getfield 38, 3) := by decide +kernel
theorem d_Co_find_9 : decode prog_2_method_18_code 9 = .ok (.if_icmp .ge 45, 3) := by decide +kernel
theorem d_Co_find_12 : decode prog_2_method_18_code 12 = .ok (.aload_n 0, 1) := by decide +kernel
theorem d_Co_find_13 : decode prog_2_method_18_code 13 = .ok (.getfield 9, 3) := by decide +kernel
theorem d_Co_find_16 : decode prog_2_method_18_code 16 = .ok (.iload 4, 2) := by decide +kernel
theorem d_Co_find_18 : decode prog_2_method_18_code 18 = .ok (.iaload, 1) := by decide +kernel
theorem d_Co_find_19 : decode prog_2_method_18_code 19 = .ok (.iload_n 1, 1) := by decide +kernel
theorem d_Co_find_20 : decode prog_2_method_18_code 20 = .ok (.if_icmp .ne 28, 3) := by decide +kernel
theorem d_Co_find_23 : decode prog_2_method_18_code 23 = .ok (.aload_n 0, 1) := by decide +kernel
theorem d_Co_find_24 : decode prog_2_method_18_code 24 = .ok (.getfield 15, 3) := by decide +kernel
theorem d_Co_find_27 : decode prog_2_method_18_code 27 = .ok (.iload 4, 2) := by decide +kernel
theorem d_Co_find_29 : decode prog_2_method_18_code 29 = .ok (.iaload, 1) := by decide +kernel
theorem d_Co_find_30 : decode prog_2_method_18_code 30 = .ok (.iload_n 2, 1) := by decide +kernel
theorem d_Co_find_31 : decode prog_2_method_18_code 31 = .ok (.if_icmp .ne 17, 3) := by decide +kernel
theorem d_Co_find_34 : decode prog_2_method_18_code 34 = .ok (.aload_n 0, 1) := by decide +kernel
theorem d_Co_find_35 : decode prog_2_method_18_code 35 = .ok (.getfield 18, 3) := by decide +kernel
theorem d_Co_find_38 : decode prog_2_method_18_code 38 = .ok (.iload 4, 2) := by decide +kernel
theorem d_Co_find_40 : decode prog_2_method_18_code 40 = .ok (.iaload, 1) := by decide +kernel
theorem d_Co_find_41 : decode prog_2_method_18_code 41 = .ok (.iload_n 3, 1) := by decide +kernel
theorem d_Co_find_42 : decode prog_2_method_18_code 42 = .ok (.if_icmp .ne 6, 3) := by decide +kernel
theorem d_Co_find_45 : decode prog_2_method_18_code 45 = .ok (.iload 4, 2) := by decide +kernel
theorem d_Co_find_47 : decode prog_2_method_18_code 47 = .ok (.ireturn, 1) := by decide +kernel
theorem d_Co_find_48 : decode prog_2_method_18_code 48 = .ok (.iinc 4 1, 3) := by decide +kernel
theorem d_Co_find_51 : decode prog_2_method_18_code 51 = .ok (.goto (-48), 3) := by decide +kernel
theorem d_Co_find_54 : decode prog_2_method_18_code 54 = .ok (.iconst (-1), 1) := by decide +kernel
theorem d_Co_find_55 : decode prog_2_method_18_code 55 = .ok (.ireturn, 1) := by decide +kernel
noncomputable def bk_Co_find_0 : List Int32 → List Int64 → tq_S → Option tq_C
  | [x1, x2, x3], [], σ => some (3, [x1, x2, x3, 0], [], σ)
  | _, _, _ => none
noncomputable def bk_Co_find_3 : List Int32 → List Int64 → tq_S → Option tq_C
  | [x1, x2, x3, x4], [], σ => if (σ.2.2 0) ≤ x4 then some (tq_rt, [(-1)], [], σ) else tq_gd x4 80 (if ¬ (ia σ 0 x4) = x1 then tq_lj (x4 + 1) (fun v4 => some (3, [x1, x2, x3, v4], [], σ)) else tq_gd x4 80 (if ¬ (ia σ 1 x4) = x2 then tq_lj (x4 + 1) (fun v7 => some (3, [x1, x2, x3, v7], [], σ)) else tq_gd x4 80 (if ¬ (ia σ 2 x4) = x3 then tq_lj (x4 + 1) (fun v10 => some (3, [x1, x2, x3, v10], [], σ)) else some (tq_rt, [x4], [], σ))))
  | _, _, _ => none
noncomputable def st_Co_find (c : tq_C) : Option tq_C := if c.1 = 0 then bk_Co_find_0 c.2.1 c.2.2.1 c.2.2.2 else if c.1 = 3 then bk_Co_find_3 c.2.1 c.2.2.1 c.2.2.2 else none
set_option maxHeartbeats 40000000 in
set_option maxRecDepth 100000 in
theorem c_Co_find (l : Launch) (dC : Nat → ClassId) (dI : Nat → Nat → Nat) (cI cL cZ : ClassId) (ad : Nat → Nat) (tt : Nat) (sz : Nat) (σ : tq_S) (a1 : Int32) (a2 : Int32) (a3 : Int32) (r : Int32) (σ' : tq_S) (hf : tq_fI st_Co_find (0, [a1, a2, a3], [], σ) = some (r, σ')) : Met l y_Co_find w_Co_find ({ frames := 0, cells := 0, slots := 0, locals := 0 } : Room) (va_Pc [.ref (ad 1), .int a1, .int a2, .int a3] (tq_B dC dI cI cL cZ tt (wo cI cL cZ ad σ) sz)) (va_Qi (fun (r' : Int32) (u : tq_S) => r' = r ∧ u = σ') (tq_E dC dI cI cL cZ (wo cI cL cZ ad) (va_A (wo cI cL cZ ad σ) sz)) (va_A (wo cI cL cZ ad σ) sz)) 0 0 (va_A (wo cI cL cZ ad σ) sz) := by
  obtain ⟨n0, h0⟩ := tq_fI_to hf
  refine Met.ofW (cc := prog_2_method_18_code) (maxL := 5) (ret := (some .int)) (by decide) rfl ?_
  intro p e s m args below meth c s₁ B hml hv
  obtain ⟨rfl, hsz, hP, hK, hD0, hZ, hN⟩ := hv
  have hx := B.exec
  have hb := B.bytes
  have hr := B.returns
  have hts : ∀ w ∈ tq_T, w.before _ s = true := fun w h => atoms_spec (ws := w_Co_find) B.pre w (List.mem_cons_of_mem _ h)
  have hown : s.vm.findClass "TableauNodes$Concepts" = some m.cls := findClass_of_methodNamed B.named
  have hlocks := B.notSynchronized
  subst hsz
  have hD := hD0.self (sz := s.heap.size)
  have hS : va_S (va_A (wo cI cL cZ ad σ) s.heap.size) s.heap s.heap [] := va_S.rf
  have hA : ∀ q : Nat, s.heap.size ≤ q → va_A (wo cI cL cZ ad σ) s.heap.size q := fun q h => Or.inr h
  generalize va_A (wo cI cL cZ ad σ) s.heap.size = A at hD hS hA hZ ⊢
  have hl := lv_entry ([.ref (ad 1), .int a1, .int a2, .int a3]) (n := 5) (Nat.le_of_ble_eq_true rfl)
  rw [lg_entry_eq]
  generalize (lg_sl ([.ref (ad 1), .int a1, .int a2, .int a3]) ++ List.replicate (5 - (lg_sl ([.ref (ad 1), .int a1, .int a2, .int a3])).length) Slot.unset).toArray = ls at hl ⊢
  have hl : lv_has ls 5 [(0, .ref (ad 1)), (1, .int a1), (2, .int a2), (3, .int a3)] := hl
  have key : ∀ n : Nat, (∀ {x1 x2 x3 : Int32} {σ : tq_S} {H : Heap} {locs : List Loc} {ls : Array Slot}, va_P (dC, dI) tq_cl (wo cI cL cZ ad σ) H → va_D A (wo cI cL cZ ad σ) → va_S A s.heap H locs → lv_has ls 5 [(0, .ref (ad 1)), (1, .int x1), (2, .int x2), (3, .int x3)] → tq_go st_Co_find n (0, [x1, x2, x3], [], σ) = some (tq_rt, [r], [], σ') → W p l e (headSpec w_Co_find ({ frames := 0, cells := 0, slots := 0, locals := 0 } : Room)).room s m ([.ref (ad 1), .int a1, .int a2, .int a3] : List Value).toArray below meth c H locs 0 0 (MQ below (va_Qi (fun (r' : Int32) (u : tq_S) => r' = r ∧ u = σ') (tq_E dC dI cI cL cZ (wo cI cL cZ ad) A) A) ([.ref (ad 1), .int a1, .int a2, .int a3] : List Value).toArray s 0 0 A) (F0 m 0 ls [])) ∧ (∀ {x1 x2 x3 x4 : Int32} {σ : tq_S} {H : Heap} {locs : List Loc} {ls : Array Slot}, va_P (dC, dI) tq_cl (wo cI cL cZ ad σ) H → va_D A (wo cI cL cZ ad σ) → va_S A s.heap H locs → lv_has ls 5 [(0, .ref (ad 1)), (1, .int x1), (2, .int x2), (3, .int x3), (4, .int x4)] → tq_go st_Co_find n (3, [x1, x2, x3, x4], [], σ) = some (tq_rt, [r], [], σ') → W p l e (headSpec w_Co_find ({ frames := 0, cells := 0, slots := 0, locals := 0 } : Room)).room s m ([.ref (ad 1), .int a1, .int a2, .int a3] : List Value).toArray below meth c H locs 0 0 (MQ below (va_Qi (fun (r' : Int32) (u : tq_S) => r' = r ∧ u = σ') (tq_E dC dI cI cL cZ (wo cI cL cZ ad) A) A) ([.ref (ad 1), .int a1, .int a2, .int a3] : List Value).toArray s 0 0 A) (F0 m 3 ls [])) := by
    intro n
    induction n with
    | zero => exact ⟨(fun _ _ _ _ h => by cases h), (fun _ _ _ _ h => by cases h)⟩
    | succ n ih =>
      refine ⟨?_, ?_⟩
      · intro x1 x2 x3 σ H locs ls hP hD hS hl h9
        obtain ⟨q9, hg, hn⟩ := tq_go_s h9 (show ¬ (0 : Nat) = tq_rt by decide)
        replace hg : bk_Co_find_0 [x1, x2, x3] [] σ = some q9 := hg
        unfold bk_Co_find_0 at hg
        refine lv_iconst (v := 0) hx hb d_Co_find_0 (by decide) ?_
        refine lv_istore (lv' := [(4, .int 0), (0, .ref (ad 1)), (1, .int x1), (2, .int x2), (3, .int x3)]) hx hb d_Co_find_1 hl (by decide) rfl (fun ls hl => ?_)
        exact ih.2 hP hD hS (lv_sub hl [1, 2, 3, 4, 0] rfl) (tq_gi hg hn)
      · intro x1 x2 x3 x4 σ H locs ls hP hD hS hl h9
        obtain ⟨q9, hg, hn⟩ := tq_go_s h9 (show ¬ (3 : Nat) = tq_rt by decide)
        replace hg : bk_Co_find_3 [x1, x2, x3, x4] [] σ = some q9 := hg
        unfold bk_Co_find_3 at hg
        refine lv_iload hx hb d_Co_find_3 (lv_at hl 4 rfl) ?_
        refine lv_aload_n hx hb d_Co_find_5 rfl (lv_at hl 0 rfl) ?_
        refine va_get (D := (dC, dI)) (ci := 1) (v := .int (σ.2.2 0)) (C := "TableauNodes$Concepts") (T := F_Co) (N := 9) hx hb hts in_Co hown hK hP 1 rfl rfl 7 (by decide) (hts _ tw_70) (fun _ h9 => h9) rfl d_Co_find_6 ?_
        refine lv_icmp_ge (tgt := 54) hx hb d_Co_find_9 (by decide) (fun c1 => ?_) (fun c1 => ?_)
        · replace hg := tq_if_t c1 hg
          refine lv_iconst (v := (-1)) hx hb d_Co_find_54 (by decide) ?_
          exact W.iret (v := (-1)) hx hb hr (fun t ht hW => ⟨⟨(-1), σ, rfl, tq_grI hg hn, by rw [ht]; exact hP, va_K.moved hW.alike hK, hD⟩, hS.F ht⟩) hS.2.2 d_Co_find_55
        · replace hg := tq_if_f c1 hg
          refine lv_aload_n hx hb d_Co_find_12 rfl (lv_at hl 0 rfl) ?_
          refine va_get (D := (dC, dI)) (ci := 1) (v := .ref (ad 6)) (C := "TableauNodes$Concepts") (T := F_Co) (N := 9) hx hb hts in_Co hown hK hP 1 rfl rfl 0 (by decide) (hts _ tw_63) (fun _ h9 => h9) rfl d_Co_find_13 ?_
          refine lv_iload hx hb d_Co_find_16 (lv_at hl 4 rfl) ?_
          obtain ⟨g2, hg⟩ := tq_gd_s hg
          refine va_iald hx hb hK hP 6 0 rfl rfl g2 d_Co_find_18 ?_
          refine lv_iload_n hx hb d_Co_find_19 rfl (lv_at hl 1 rfl) ?_
          refine lv_icmp_ne (tgt := 48) hx hb d_Co_find_20 (by decide) (fun c3 => ?_) (fun c3 => ?_)
          · replace hg := tq_if_t c3 hg
            obtain ⟨v4, ev4, hg⟩ := tq_lj_s hg
            refine lv_iinc (v := v4) (lv' := [(4, .int v4), (0, .ref (ad 1)), (1, .int x1), (2, .int x2), (3, .int x3)]) hx hb d_Co_find_48 hl (k := 4) rfl (by rw [ev4]; rfl) (by decide) rfl (fun ls hl => ?_)
            refine lv_goto (tgt := 3) hx hb d_Co_find_51 (by decide) ?_
            exact ih.2 hP hD hS (lv_sub hl [1, 2, 3, 4, 0] rfl) (tq_gi hg hn)
          · replace hg := tq_if_n c3 hg
            refine lv_aload_n hx hb d_Co_find_23 rfl (lv_at hl 0 rfl) ?_
            refine va_get (D := (dC, dI)) (ci := 1) (v := .ref (ad 7)) (C := "TableauNodes$Concepts") (T := F_Co) (N := 9) hx hb hts in_Co hown hK hP 1 rfl rfl 1 (by decide) (hts _ tw_64) (fun _ h9 => h9) rfl d_Co_find_24 ?_
            refine lv_iload hx hb d_Co_find_27 (lv_at hl 4 rfl) ?_
            obtain ⟨g5, hg⟩ := tq_gd_s hg
            refine va_iald hx hb hK hP 7 0 rfl rfl g5 d_Co_find_29 ?_
            refine lv_iload_n hx hb d_Co_find_30 rfl (lv_at hl 2 rfl) ?_
            refine lv_icmp_ne (tgt := 48) hx hb d_Co_find_31 (by decide) (fun c6 => ?_) (fun c6 => ?_)
            · replace hg := tq_if_t c6 hg
              obtain ⟨v7, ev7, hg⟩ := tq_lj_s hg
              refine lv_iinc (v := v7) (lv' := [(4, .int v7), (0, .ref (ad 1)), (1, .int x1), (2, .int x2), (3, .int x3)]) hx hb d_Co_find_48 hl (k := 4) rfl (by rw [ev7]; rfl) (by decide) rfl (fun ls hl => ?_)
              refine lv_goto (tgt := 3) hx hb d_Co_find_51 (by decide) ?_
              exact ih.2 hP hD hS (lv_sub hl [1, 2, 3, 4, 0] rfl) (tq_gi hg hn)
            · replace hg := tq_if_n c6 hg
              refine lv_aload_n hx hb d_Co_find_34 rfl (lv_at hl 0 rfl) ?_
              refine va_get (D := (dC, dI)) (ci := 1) (v := .ref (ad 8)) (C := "TableauNodes$Concepts") (T := F_Co) (N := 9) hx hb hts in_Co hown hK hP 1 rfl rfl 2 (by decide) (hts _ tw_65) (fun _ h9 => h9) rfl d_Co_find_35 ?_
              refine lv_iload hx hb d_Co_find_38 (lv_at hl 4 rfl) ?_
              obtain ⟨g8, hg⟩ := tq_gd_s hg
              refine va_iald hx hb hK hP 8 0 rfl rfl g8 d_Co_find_40 ?_
              refine lv_iload_n hx hb d_Co_find_41 rfl (lv_at hl 3 rfl) ?_
              refine lv_icmp_ne (tgt := 48) hx hb d_Co_find_42 (by decide) (fun c9 => ?_) (fun c9 => ?_)
              · replace hg := tq_if_t c9 hg
                obtain ⟨v10, ev10, hg⟩ := tq_lj_s hg
                refine lv_iinc (v := v10) (lv' := [(4, .int v10), (0, .ref (ad 1)), (1, .int x1), (2, .int x2), (3, .int x3)]) hx hb d_Co_find_48 hl (k := 4) rfl (by rw [ev10]; rfl) (by decide) rfl (fun ls hl => ?_)
                refine lv_goto (tgt := 3) hx hb d_Co_find_51 (by decide) ?_
                exact ih.2 hP hD hS (lv_sub hl [1, 2, 3, 4, 0] rfl) (tq_gi hg hn)
              · replace hg := tq_if_n c9 hg
                refine lv_iload hx hb d_Co_find_45 (lv_at hl 4 rfl) ?_
                exact W.iret (v := x4) hx hb hr (fun t ht hW => ⟨⟨x4, σ, rfl, tq_grI hg hn, by rw [ht]; exact hP, va_K.moved hW.alike hK, hD⟩, hS.F ht⟩) hS.2.2 d_Co_find_47
  exact (key n0).1 hP hD hS hl h0
