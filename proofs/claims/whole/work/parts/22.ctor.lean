theorem tq_prc {dC : Nat → ClassId} {dI : Nat → Nat → Nat} {cI cL cZ : ClassId} {tt : Nat} {ws : va_W} {av : List Value} {A A1 : Nat → Prop} {s : State} {H : Heap} {locs : List Loc} (hP : va_P (dC, dI) tq_cl ws H) (hK : va_K (dC, dI) tq_cl (tq_ty cI cL cZ) s) (hD : va_D A1 ws) (hS : va_S A s.heap H locs) (hF : ∀ q, va_A ws H.size q → A q) (hZ : tq_Z tt A s s.heap) (hN : tq_N s) :
    ∀ U : State, U.heap = H → s.WarmedH U.vm → va_Pc av (tq_B dC dI cI cL cZ tt ws H.size) av.toArray U := by
  intro U hU hW
  refine ⟨rfl, by rw [hU], by rw [hU]; exact hP, va_K.moved hW.alike hK, hD.weaken (fun _ _ _ _ => trivial), ?_, hN.go hW⟩
  rw [hU]
  exact hZ.go hS.2.1 hF hW.alike
section tqRf
variable {p : Program} {l : Launch} {e : Env} {R : Room} {s : State} {m : MethodId} {args : Array Value} {below : List Frame} {meth : Method} {c : Code} {H : Heap} {locs : List Loc} {cells slots : Nat} {Q : State → Prop} {pc : Nat} {ls : Array Slot} {rest : List Value}
theorem lv_rf {x y : Nat} (h : y = x) (k : W p l e R s m args below meth c H locs cells slots Q (F0 m pc ls (.ref y :: rest))) : W p l e R s m args below meth c H locs cells slots Q (F0 m pc ls (.ref x :: rest)) := h ▸ k
end tqRf
def woT (cI cL cZ : ClassId) (ad : Nat → Nat) (σ : tq_S) : va_W := [
  (ad 0, .inr (0, [.ref (ad 1), .ref (ad 2), .ref (ad 3), .ref (ad 4)])),
  (ad 1, .inr (1, [.ref (ad 6), .ref (ad 7), .ref (ad 8), .ref (ad 9), .ref (ad 10), .ref (ad 11), .ref (ad 12), .int (σ.2.2 0), .int (σ.2.2 1)])),
  (ad 2, .inr (2, [.ref (ad 13), .ref (ad 14)])),
  (ad 3, .inr (3, [.ref (ad 1), .ref (ad 2), .ref (ad 15), .ref (ad 16), .int (σ.2.2 2), .ref (ad 17), .ref (ad 18), .ref (ad 19), .ref (ad 20), .ref (ad 21), .ref (ad 22), .int (σ.2.2 3), .int (σ.2.2 4), .int (σ.2.2 5), .int (σ.2.2 6)])),
  (ad 4, .inr (4, [.ref (ad 1), .ref (ad 3), .ref (ad 23), .ref (ad 24), .ref (ad 25), .int (σ.2.2 7), .int (σ.2.2 8), .ref (ad 26), .ref (ad 27), .ref (ad 28), .int (σ.2.2 9), .ref (ad 29), .int (σ.2.2 10), .int (σ.2.2 11), .int (σ.2.2 12)])),
  (ad 6, .inl (cI, 80, .inl (σ.1 0))),
  (ad 7, .inl (cI, 80, .inl (σ.1 1))),
  (ad 8, .inl (cI, 80, .inl (σ.1 2))),
  (ad 9, .inl (cL, 1280, .inr (.inl (σ.2.1 0)))),
  (ad 10, .inl (cI, 10, .inl (σ.1 3))),
  (ad 11, .inl (cL, 160, .inr (.inl (σ.2.1 1)))),
  (ad 12, .inl (cI, 1024, .inl (σ.1 4))),
  (ad 13, .inl (cI, 4, .inl (σ.1 5))),
  (ad 14, .inl (cI, 4, .inl (σ.1 6))),
  (ad 15, .inl (cI, 30, .inl (σ.1 7))),
  (ad 16, .inl (cI, 30, .inl (σ.1 8))),
  (ad 17, .inl (cI, 4, .inl (σ.1 9))),
  (ad 18, .inl (cI, 4, .inl (σ.1 10))),
  (ad 19, .inl (cL, 16, .inr (.inl (σ.2.1 2)))),
  (ad 20, .inl (cL, 16, .inr (.inl (σ.2.1 3)))),
  (ad 21, .inl (cI, 1024, .inl (σ.1 11))),
  (ad 22, .inl (cI, 1024, .inl (σ.1 12))),
  (ad 23, .inl (cL, 80, .inr (.inl (σ.2.1 4)))),
  (ad 24, .inl (cI, 25, .inl (σ.1 13))),
  (ad 25, .inl (cI, 25, .inl (σ.1 14))),
  (ad 26, .inl (cL, 400, .inr (.inl (σ.2.1 5)))),
  (ad 27, .inl (cI, 4096, .inl (σ.1 15))),
  (ad 28, .inl (cL, 16, .inr (.inl (σ.2.1 6)))),
  (ad 29, .inl (cI, 5, .inl (σ.1 16)))]
def tq_m0 (σC σR σH : tq_S) : tq_S := (fun k => match k with
  | 0 => σC.1 0
  | 1 => σC.1 1
  | 2 => σC.1 2
  | 3 => σC.1 3
  | 4 => σC.1 4
  | 5 => σR.1 5
  | 6 => σR.1 6
  | 7 => fun _ => 0
  | 8 => fun _ => 0
  | 9 => fun _ => 0
  | 10 => fun _ => 0
  | 11 => fun _ => 0
  | 12 => fun _ => 0
  | 13 => σH.1 13
  | 14 => σH.1 14
  | 15 => σH.1 15
  | 16 => σH.1 16
  | 17 => upd (fun _ => 0) 1 1
  | 18 => fun _ => 0
  | 19 => fun _ => 0
  | 20 => fun _ => 0
  | 21 => fun _ => 0
  | 22 => fun _ => 0
  | 23 => fun _ => 0
  | 24 => fun _ => 0
  | 25 => fun _ => 0
  | 26 => fun _ => 0
  | 27 => fun _ => 0
  | 28 => fun _ => 0
  | 29 => fun _ => 0
  | 30 => fun _ => 0
  | 31 => fun _ => 0
  | 32 => fun _ => 0
  | 33 => fun _ => 0
  | 34 => fun _ => 0
  | _ => fun _ => 0, fun k => match k with
  | 0 => σC.2.1 0
  | 1 => σC.2.1 1
  | 2 => fun _ => 0
  | 3 => fun _ => 0
  | 4 => σH.2.1 4
  | 5 => σH.2.1 5
  | 6 => σH.2.1 6
  | _ => fun _ => 0, fun k => match k with
  | 0 => σC.2.2 0
  | 1 => σC.2.2 1
  | 2 => 0
  | 3 => 0
  | 4 => 1
  | 5 => 0
  | 6 => 0
  | 7 => σH.2.2 7
  | 8 => σH.2.2 8
  | 9 => σH.2.2 9
  | 10 => σH.2.2 10
  | 11 => σH.2.2 11
  | 12 => σH.2.2 12
  | 13 => 2
  | 14 => 0
  | 15 => 0
  | 16 => 0
  | 17 => 0
  | 18 => 0
  | 19 => 0
  | _ => 0)
theorem wc_G {cI cL cZ : ClassId} {ad ad' : Nat → Nat} {σ : tq_S} (h1 : ad 1 = ad' 1) (h2 : ad 2 = ad' 2) (h3 : ad 3 = ad' 3) (h15 : ad 15 = ad' 15) (h16 : ad 16 = ad' 16) (h17 : ad 17 = ad' 17) (h18 : ad 18 = ad' 18) (h19 : ad 19 = ad' 19) (h20 : ad 20 = ad' 20) (h21 : ad 21 = ad' 21) (h22 : ad 22 = ad' 22) : woG cI cL cZ ad σ = woG cI cL cZ ad' σ := by
  unfold woG
  rw [h1, h2, h3, h15, h16, h17, h18, h19, h20, h21, h22]
theorem wc_H {cI cL cZ : ClassId} {ad ad' : Nat → Nat} {σ : tq_S} (h1 : ad 1 = ad' 1) (h3 : ad 3 = ad' 3) (h4 : ad 4 = ad' 4) (h23 : ad 23 = ad' 23) (h24 : ad 24 = ad' 24) (h25 : ad 25 = ad' 25) (h26 : ad 26 = ad' 26) (h27 : ad 27 = ad' 27) (h28 : ad 28 = ad' 28) (h29 : ad 29 = ad' 29) : woH cI cL cZ ad σ = woH cI cL cZ ad' σ := by
  unfold woH
  rw [h1, h3, h4, h23, h24, h25, h26, h27, h28, h29]
theorem d_Tn_init_0 : decode prog_1_method_1_code 0 = .ok (.aload_n 0, 1) := by decide +kernel
theorem d_Tn_init_1 : decode prog_1_method_1_code 1 = .ok (.invokespecial 3, 3) := by decide +kernel
theorem d_Tn_init_4 : decode prog_1_method_1_code 4 = .ok (.aload_n 0, 1) := by decide +kernel
theorem d_Tn_init_5 : decode prog_1_method_1_code 5 = .ok (.new 9, 3) := by decide +kernel
theorem d_Tn_init_8 : decode prog_1_method_1_code 8 = .ok (.dup, 1) := by decide +kernel
theorem d_Tn_init_9 : decode prog_1_method_1_code 9 = .ok (.invokespecial 11, 3) := by decide +kernel
theorem d_Tn_init_12 : decode prog_1_method_1_code 12 = .ok (.putfield 12, 3) := by decide +kernel
theorem d_Tn_init_15 : decode prog_1_method_1_code 15 = .ok (.aload_n 0, 1) := by decide +kernel
theorem d_Tn_init_16 : decode prog_1_method_1_code 16 = .ok (.new 16, 3) := by decide +kernel
theorem d_Tn_init_19 : decode prog_1_method_1_code 19 = .ok (.dup, 1) := by decide +kernel
theorem d_Tn_init_20 : decode prog_1_method_1_code 20 = .ok (.invokespecial 18, 3) := by decide +kernel
theorem d_Tn_init_23 : decode prog_1_method_1_code 23 = .ok (.putfield 19, 3) := by decide +kernel
theorem d_Tn_init_26 : decode prog_1_method_1_code 26 = .ok (.aload_n 0, 1) := by decide +kernel
theorem d_Tn_init_27 : decode prog_1_method_1_code 27 = .ok (.new 23, 3) := by decide +kernel
theorem d_Tn_init_30 : decode prog_1_method_1_code 30 = .ok (.dup, 1) := by decide +kernel
theorem d_Tn_init_31 : decode prog_1_method_1_code 31 = .ok (.aload_n 0, 1) := by decide +kernel
theorem d_Tn_init_32 : decode prog_1_method_1_code 32 = .ok (.getfield 12, 3) := by decide +kernel
theorem d_Tn_init_35 : decode prog_1_method_1_code 35 = .ok (.aload_n 0, 1) := by decide +kernel
theorem d_Tn_init_36 : decode prog_1_method_1_code 36 = .ok (.getfield 19, 3) := by decide +kernel
theorem d_Tn_init_39 : decode prog_1_method_1_code 39 = .ok (.invokespecial 25, 3) := by decide +kernel
theorem d_Tn_init_42 : decode prog_1_method_1_code 42 = .ok (.putfield 28, 3) := by decide +kernel
theorem d_Tn_init_45 : decode prog_1_method_1_code 45 = .ok (.aload_n 0, 1) := by decide +kernel
theorem d_Tn_init_46 : decode prog_1_method_1_code 46 = .ok (.new 32, 3) := by decide +kernel
theorem d_Tn_init_49 : decode prog_1_method_1_code 49 = .ok (.dup, 1) := by decide +kernel
theorem d_Tn_init_50 : decode prog_1_method_1_code 50 = .ok (.aload_n 0, 1) := by decide +kernel
theorem d_Tn_init_51 : decode prog_1_method_1_code 51 = .ok (.getfield 12, 3) := by decide +kernel
theorem d_Tn_init_54 : decode prog_1_method_1_code 54 = .ok (.aload_n 0, 1) := by decide +kernel
theorem d_Tn_init_55 : decode prog_1_method_1_code 55 = .ok (.getfield 28, 3) := by decide +kernel
theorem d_Tn_init_58 : decode prog_1_method_1_code 58 = .ok (.invokespecial 34, 3) := by decide +kernel
theorem d_Tn_init_61 : decode prog_1_method_1_code 61 = .ok (.putfield 37, 3) := by decide +kernel
theorem d_Tn_init_64 : decode prog_1_method_1_code 64 = .ok (.return_, 1) := by decide +kernel
set_option maxHeartbeats 40000000 in
set_option maxRecDepth 100000 in
theorem c_Tn_init (l : Launch) (dC : Nat → ClassId) (dI : Nat → Nat → Nat) (cI cL cZ : ClassId) (tt : Nat) (h0 sz : Nat) (r1 r2 : Int32) (σ1 σC σR σH : tq_S) (f1 : tq_fI st_Co_make (0, [0, 0, 0], [], tq_s0) = some (r1, σ1)) (f2 : tq_fI st_Co_make (0, [1, 0, 0], [], σ1) = some (r2, σC)) (f3 : tq_fV st_Ro_close (0, [], [], tq_s0) = some ((), σR)) (f4 : tq_fV st_Th_clear (0, [], [], tq_s0) = some ((), σH)) : Met l y_Tn_init w_Tn_init ({ frames := 6, cells := 28, slots := 9558, locals := 142 } : Room) (va_Pc [.ref h0] (tq_B dC dI cI cL cZ tt [(h0, .inr (0, [.null, .null, .null, .null]))] sz)) (va_Qv (fun ad : Nat → Nat => ad 0 = h0) (fun (ad : Nat → Nat) (t : State) => va_P (dC, dI) tq_cl (woT cI cL cZ ad (tq_m0 σC σR σH)) t.heap ∧ va_K (dC, dI) tq_cl (tq_ty cI cL cZ) t ∧ va_D (va_A [(h0, .inr (0, [.null, .null, .null, .null]))] sz) (woT cI cL cZ ad (tq_m0 σC σR σH))) (va_A [(h0, .inr (0, [.null, .null, .null, .null]))] sz)) 28 9558 (va_A [(h0, .inr (0, [.null, .null, .null, .null]))] sz) := by
  refine Met.ofW (cc := prog_1_method_1_code) (maxL := 1) (ret := none) (by decide) rfl ?_
  intro p e s m args below meth c s₁ B hml hv
  obtain ⟨rfl, hsz, hP, hK, hD0, hZ, hN⟩ := hv
  have hx := B.exec
  have hb := B.bytes
  have hr := B.returns
  have hts : ∀ w ∈ tq_T, w.before _ s = true := fun w h => atoms_spec (ws := w_Tn_init) B.pre w (List.mem_cons_of_mem _ h)
  have hown : s.vm.findClass "TableauNodes" = some m.cls := findClass_of_methodNamed B.named
  have hlocks := B.notSynchronized
  have hin : meth.name = "<init>" := (name_of_methodNamed B.named B.method).1
  subst hsz
  have hD := hD0.self (sz := s.heap.size)
  have hS : va_S (va_A [(h0, .inr (0, [.null, .null, .null, .null]))] s.heap.size) s.heap s.heap [] := va_S.rf
  have hA : ∀ q : Nat, s.heap.size ≤ q → va_A [(h0, .inr (0, [.null, .null, .null, .null]))] s.heap.size q := fun q h => Or.inr h
  generalize va_A [(h0, .inr (0, [.null, .null, .null, .null]))] s.heap.size = A at hD hS hA hZ ⊢
  have hl := lv_entry ([.ref h0]) (n := 1) (Nat.le_of_ble_eq_true rfl)
  rw [lg_entry_eq]
  generalize (lg_sl ([.ref h0]) ++ List.replicate (1 - (lg_sl ([.ref h0])).length) Slot.unset).toArray = ls at hl ⊢
  have hl : lv_has ls 1 [(0, .ref h0)] := hl
  refine lv_aload_n hx hb d_Tn_init_0 rfl (lv_at hl 0 rfl) ?_
  refine W.objInit hx hb hown (hts _ tw_16) (hts _ tw_17) (hts _ tw_18) rfl (by rw [hml]; exact hl.1) rfl d_Tn_init_1 (Nat.le_of_ble_eq_true rfl) (Nat.le_of_ble_eq_true rfl) ?_
  refine W.eq (g2 := F0 m 4 ls []) rfl ?_
  refine lv_aload_n hx hb d_Tn_init_4 rfl (lv_at hl 0 rfl) ?_
  refine va_new (ci := 1) (fs := [.null, .null, .null, .null, .null, .null, .null, .int 0, .int 0]) (C := "TableauNodes$Concepts") (T := F_Co) (N := 9) hx hb hts in_Co ty_Co tk_Co hown (hts _ tw_19) (hts _ tw_20) (hts _ tw_2) hK hP hD hS hA rfl (fun j hj => by rcases (show j = 0 ∨ j = 1 ∨ j = 2 ∨ j = 3 ∨ j = 4 ∨ j = 5 ∨ j = 6 ∨ j = 7 ∨ j = 8 by omega) with rfl | rfl | rfl | rfl | rfl | rfl | rfl | rfl | rfl <;> rfl) (Nat.le_of_ble_eq_true rfl) (Nat.le_of_ble_eq_true rfl) d_Tn_init_5 (fun q0 H hP hD hS => ?_)
  refine W.widen (k := 1) (n := 9) (Nat.le_of_ble_eq_true rfl) (Nat.le_of_ble_eq_true rfl) ?_
  refine lv_dup hx hb d_Tn_init_8 rfl ?_
  have hPc := hP.sub (ws' := [(q0, .inr (1, [.null, .null, .null, .null, .null, .null, .null, .int 0, .int 0]))]) [1] rfl
  have hDc := hD.sub (ws' := [(q0, .inr (1, [.null, .null, .null, .null, .null, .null, .null, .int 0, .int 0]))]) [1] (by decide) rfl
  have hFc := va_free (wc := [(q0, .inr (1, [.null, .null, .null, .null, .null, .null, .null, .int 0, .int 0]))]) hD hS hA [1] rfl
  refine va_callv (va_runI (As := []) (rest := [.ref q0, .ref h0]) ⟨hx, hb, hml, hown, hts⟩ (c_Co_init l dC dI cI cL cZ tt q0  H.size r1 r2 σ1 σC f1 f2) (cwI 0 hts (tq_gC tw_23) rfl rfl rfl (hts _ tw_2) (hts _ tw_21) (hts _ tw_22) rfl (by decide +kernel) ⟨Nat.le_of_ble_eq_true rfl, Nat.le_of_ble_eq_true rfl⟩) ⟨tq_bl, tq_prc hPc hK hDc hS hFc hZ hN⟩ rfl rfl hl.1 rfl (lv_room (Nat.le_of_ble_eq_true rfl)) d_Tn_init_9 ⟨Nat.le_of_ble_eq_true rfl, Nat.le_of_ble_eq_true rfl⟩) hS (fun q _ h => hFc q h) hFc (fun ad0 t H1 locs ht hvm hw hB hz1 hk1 hS => ?_)
  obtain ⟨hP1, hK1, hD1⟩ := hB
  rw [ht] at hP1
  try dsimp only at hw
  obtain ⟨hP, hD⟩ := va_join (wr := [(h0, .inr (0, [.null, .null, .null, .null]))]) (w1 := woC cI cL cZ ad0 σC) hP hD [1] [0] rfl rfl (by decide) (by decide) hk1 hFc hP1 hD1
  generalize H1 = H at hP hS ⊢
  refine W.widen (k := 8) (n := 2723) (Nat.le_of_ble_eq_true rfl) (Nat.le_of_ble_eq_true rfl) ?_
  replace hP : va_P (dC, dI) tq_cl ([(h0, .inr (0, [.null, .null, .null, .null]))] ++ woC cI cL cZ ad0 σC) H := hP
  replace hD : va_D A ([(h0, .inr (0, [.null, .null, .null, .null]))] ++ woC cI cL cZ ad0 σC) := hD
  have hq0 : ad0 1 = q0 := hw
  refine lv_rf (y := ad0 1) hq0 ?_
  refine va_putF (D := (dC, dI)) (ci := 0) (v := .ref (ad0 1)) (ty := .object "TableauNodes$Concepts") (C := "TableauNodes") (T := F_Tn) (N := 4) hx hb hts in_Tn ty_Tn tk_Tn nm_Tn hown hK hP hD hS 0 rfl rfl 0 (by decide) (hts _ tw_220) (fun _ h9 => h9) rfl hin rfl (by decide +kernel) rfl rfl (Nat.le_of_ble_eq_true rfl) d_Tn_init_12 (fun H locs hP hD hS => ?_)
  replace hP : va_P (dC, dI) tq_cl ([(h0, .inr (0, [.ref (ad0 1), .null, .null, .null]))] ++ woC cI cL cZ ad0 σC) H := hP
  replace hD : va_D A ([(h0, .inr (0, [.ref (ad0 1), .null, .null, .null]))] ++ woC cI cL cZ ad0 σC) := hD
  refine lv_aload_n hx hb d_Tn_init_15 rfl (lv_at hl 0 rfl) ?_
  refine va_new (ci := 2) (fs := [.null, .null]) (C := "TableauNodes$Roles") (T := F_Ro) (N := 2) hx hb hts in_Ro ty_Ro tk_Ro hown (hts _ tw_93) (hts _ tw_94) (hts _ tw_3) hK hP hD hS hA rfl (fun j hj => by rcases (show j = 0 ∨ j = 1 by omega) with rfl | rfl <;> rfl) (Nat.le_of_ble_eq_true rfl) (Nat.le_of_ble_eq_true rfl) d_Tn_init_16 (fun q1 H hP hD hS => ?_)
  refine W.widen (k := 9) (n := 2725) (Nat.le_of_ble_eq_true rfl) (Nat.le_of_ble_eq_true rfl) ?_
  refine lv_dup hx hb d_Tn_init_19 rfl ?_
  have hPc := hP.sub (ws' := [(q1, .inr (2, [.null, .null]))]) [9] rfl
  have hDc := hD.sub (ws' := [(q1, .inr (2, [.null, .null]))]) [9] (by decide) rfl
  have hFc := va_free (wc := [(q1, .inr (2, [.null, .null]))]) hD hS hA [9] rfl
  refine va_callv (va_runI (As := []) (rest := [.ref q1, .ref h0]) ⟨hx, hb, hml, hown, hts⟩ (c_Ro_init l dC dI cI cL cZ tt q1  H.size σR f3) (cwI 0 hts (tq_gC tw_97) rfl rfl rfl (hts _ tw_3) (hts _ tw_95) (hts _ tw_96) rfl (by decide +kernel) ⟨Nat.le_of_ble_eq_true rfl, Nat.le_of_ble_eq_true rfl⟩) ⟨tq_bl, tq_prc hPc hK hDc hS hFc hZ hN⟩ rfl rfl hl.1 rfl (lv_room (Nat.le_of_ble_eq_true rfl)) d_Tn_init_20 ⟨Nat.le_of_ble_eq_true rfl, Nat.le_of_ble_eq_true rfl⟩) hS (fun q _ h => hFc q h) hFc (fun ad1 t H1 locs ht hvm hw hB hz1 hk1 hS => ?_)
  obtain ⟨hP1, hK1, hD1⟩ := hB
  rw [ht] at hP1
  try dsimp only at hw
  obtain ⟨hP, hD⟩ := va_join (wr := ([(h0, .inr (0, [.ref (ad0 1), .null, .null, .null]))] ++ woC cI cL cZ ad0 σC)) (w1 := woR cI cL cZ ad1 σR) hP hD [9] [0, 1, 2, 3, 4, 5, 6, 7, 8] rfl rfl (by decide) (by decide) hk1 hFc hP1 hD1
  generalize H1 = H at hP hS ⊢
  refine W.widen (k := 11) (n := 2733) (Nat.le_of_ble_eq_true rfl) (Nat.le_of_ble_eq_true rfl) ?_
  replace hP : va_P (dC, dI) tq_cl ([(h0, .inr (0, [.ref (ad0 1), .null, .null, .null]))] ++ woC cI cL cZ ad0 σC ++ woR cI cL cZ ad1 σR) H := hP
  replace hD : va_D A ([(h0, .inr (0, [.ref (ad0 1), .null, .null, .null]))] ++ woC cI cL cZ ad0 σC ++ woR cI cL cZ ad1 σR) := hD
  have hq1 : ad1 2 = q1 := hw
  refine lv_rf (y := ad1 2) hq1 ?_
  refine va_putF (D := (dC, dI)) (ci := 0) (v := .ref (ad1 2)) (ty := .object "TableauNodes$Roles") (C := "TableauNodes") (T := F_Tn) (N := 4) hx hb hts in_Tn ty_Tn tk_Tn nm_Tn hown hK hP hD hS 0 rfl rfl 1 (by decide) (hts _ tw_221) (fun _ h9 => h9) rfl hin rfl (by decide +kernel) rfl rfl (Nat.le_of_ble_eq_true rfl) d_Tn_init_23 (fun H locs hP hD hS => ?_)
  replace hP : va_P (dC, dI) tq_cl ([(h0, .inr (0, [.ref (ad0 1), .ref (ad1 2), .null, .null]))] ++ woC cI cL cZ ad0 σC ++ woR cI cL cZ ad1 σR) H := hP
  replace hD : va_D A ([(h0, .inr (0, [.ref (ad0 1), .ref (ad1 2), .null, .null]))] ++ woC cI cL cZ ad0 σC ++ woR cI cL cZ ad1 σR) := hD
  refine lv_aload_n hx hb d_Tn_init_26 rfl (lv_at hl 0 rfl) ?_
  refine va_new (ci := 3) (fs := [.null, .null, .null, .null, .int 0, .null, .null, .null, .null, .null, .null, .int 0, .int 0, .int 0, .int 0]) (C := "TableauNodes$GoodTypes") (T := F_Go) (N := 15) hx hb hts in_Go ty_Go tk_Go hown (hts _ tw_111) (hts _ tw_112) (hts _ tw_4) hK hP hD hS hA rfl (fun j hj => by rcases (show j = 0 ∨ j = 1 ∨ j = 2 ∨ j = 3 ∨ j = 4 ∨ j = 5 ∨ j = 6 ∨ j = 7 ∨ j = 8 ∨ j = 9 ∨ j = 10 ∨ j = 11 ∨ j = 12 ∨ j = 13 ∨ j = 14 by omega) with rfl | rfl | rfl | rfl | rfl | rfl | rfl | rfl | rfl | rfl | rfl | rfl | rfl | rfl | rfl <;> rfl) (Nat.le_of_ble_eq_true rfl) (Nat.le_of_ble_eq_true rfl) d_Tn_init_27 (fun q2 H hP hD hS => ?_)
  refine W.widen (k := 12) (n := 2748) (Nat.le_of_ble_eq_true rfl) (Nat.le_of_ble_eq_true rfl) ?_
  refine lv_dup hx hb d_Tn_init_30 rfl ?_
  refine lv_aload_n hx hb d_Tn_init_31 rfl (lv_at hl 0 rfl) ?_
  refine va_get (D := (dC, dI)) (ci := 0) (v := .ref (ad0 1)) (C := "TableauNodes") (T := F_Tn) (N := 4) hx hb hts in_Tn hown hK hP 0 rfl rfl 0 (by decide) (hts _ tw_220) (fun _ h9 => h9) rfl d_Tn_init_32 ?_
  refine lv_aload_n hx hb d_Tn_init_35 rfl (lv_at hl 0 rfl) ?_
  refine va_get (D := (dC, dI)) (ci := 0) (v := .ref (ad1 2)) (C := "TableauNodes") (T := F_Tn) (N := 4) hx hb hts in_Tn hown hK hP 0 rfl rfl 1 (by decide) (hts _ tw_221) (fun _ h9 => h9) rfl d_Tn_init_36 ?_
  have hPc := hP.sub (ws' := [(q2, .inr (3, [.null, .null, .null, .null, .int 0, .null, .null, .null, .null, .null, .null, .int 0, .int 0, .int 0, .int 0]))]) [12] rfl
  have hDc := hD.sub (ws' := [(q2, .inr (3, [.null, .null, .null, .null, .int 0, .null, .null, .null, .null, .null, .null, .int 0, .int 0, .int 0, .int 0]))]) [12] (by decide) rfl
  have hFc := va_free (wc := [(q2, .inr (3, [.null, .null, .null, .null, .int 0, .null, .null, .null, .null, .null, .null, .int 0, .int 0, .int 0, .int 0]))]) hD hS hA [12] rfl
  refine va_callv (va_runI (As := [.ref (ad0 1), .ref (ad1 2)]) (rest := [.ref q2, .ref h0]) ⟨hx, hb, hml, hown, hts⟩ (c_Go_init l dC dI cI cL cZ tt q2 (ad0 1) (ad1 2) H.size ) (cwI 2 hts (tq_gC tw_115) rfl rfl rfl (hts _ tw_4) (hts _ tw_113) (hts _ tw_114) rfl (by decide +kernel) ⟨Nat.le_of_ble_eq_true rfl, Nat.le_of_ble_eq_true rfl⟩) ⟨tq_bl, tq_prc hPc hK hDc hS hFc hZ hN⟩ rfl rfl hl.1 rfl (lv_room (Nat.le_of_ble_eq_true rfl)) d_Tn_init_39 ⟨Nat.le_of_ble_eq_true rfl, Nat.le_of_ble_eq_true rfl⟩) hS (fun q _ h => hFc q h) hFc (fun ad2 t H1 locs ht hvm hw hB hz1 hk1 hS => ?_)
  obtain ⟨hP1, hK1, hD1⟩ := hB
  rw [ht] at hP1
  try dsimp only at hw
  obtain ⟨hP, hD⟩ := va_join (wr := ([(h0, .inr (0, [.ref (ad0 1), .ref (ad1 2), .null, .null]))] ++ woC cI cL cZ ad0 σC ++ woR cI cL cZ ad1 σR)) (w1 := woG cI cL cZ ad2 (fput tq_s0 4 1)) hP hD [12] [0, 1, 2, 3, 4, 5, 6, 7, 8, 9, 10, 11] rfl rfl (by decide) (by decide) hk1 hFc hP1 hD1
  generalize H1 = H at hP hS ⊢
  refine W.widen (k := 20) (n := 4896) (Nat.le_of_ble_eq_true rfl) (Nat.le_of_ble_eq_true rfl) ?_
  replace hP : va_P (dC, dI) tq_cl ([(h0, .inr (0, [.ref (ad0 1), .ref (ad1 2), .null, .null]))] ++ woC cI cL cZ ad0 σC ++ woR cI cL cZ ad1 σR ++ woG cI cL cZ ad2 (fput tq_s0 4 1)) H := hP
  replace hD : va_D A ([(h0, .inr (0, [.ref (ad0 1), .ref (ad1 2), .null, .null]))] ++ woC cI cL cZ ad0 σC ++ woR cI cL cZ ad1 σR ++ woG cI cL cZ ad2 (fput tq_s0 4 1)) := hD
  have hq2 : ad2 3 = q2 := hw.1
  have hp2 := hw.2
  refine lv_rf (y := ad2 3) hq2 ?_
  refine va_putF (D := (dC, dI)) (ci := 0) (v := .ref (ad2 3)) (ty := .object "TableauNodes$GoodTypes") (C := "TableauNodes") (T := F_Tn) (N := 4) hx hb hts in_Tn ty_Tn tk_Tn nm_Tn hown hK hP hD hS 0 rfl rfl 2 (by decide) (hts _ tw_222) (fun _ h9 => h9) rfl hin rfl (by decide +kernel) rfl rfl (Nat.le_of_ble_eq_true rfl) d_Tn_init_42 (fun H locs hP hD hS => ?_)
  replace hP : va_P (dC, dI) tq_cl ([(h0, .inr (0, [.ref (ad0 1), .ref (ad1 2), .ref (ad2 3), .null]))] ++ woC cI cL cZ ad0 σC ++ woR cI cL cZ ad1 σR ++ woG cI cL cZ ad2 (fput tq_s0 4 1)) H := hP
  replace hD : va_D A ([(h0, .inr (0, [.ref (ad0 1), .ref (ad1 2), .ref (ad2 3), .null]))] ++ woC cI cL cZ ad0 σC ++ woR cI cL cZ ad1 σR ++ woG cI cL cZ ad2 (fput tq_s0 4 1)) := hD
  refine lv_aload_n hx hb d_Tn_init_45 rfl (lv_at hl 0 rfl) ?_
  refine va_new (ci := 4) (fs := [.null, .null, .null, .null, .null, .int 0, .int 0, .null, .null, .null, .int 0, .null, .int 0, .int 0, .int 0]) (C := "TableauNodes$Things") (T := F_Th) (N := 15) hx hb hts in_Th ty_Th tk_Th hown (hts _ tw_163) (hts _ tw_164) (hts _ tw_5) hK hP hD hS hA rfl (fun j hj => by rcases (show j = 0 ∨ j = 1 ∨ j = 2 ∨ j = 3 ∨ j = 4 ∨ j = 5 ∨ j = 6 ∨ j = 7 ∨ j = 8 ∨ j = 9 ∨ j = 10 ∨ j = 11 ∨ j = 12 ∨ j = 13 ∨ j = 14 by omega) with rfl | rfl | rfl | rfl | rfl | rfl | rfl | rfl | rfl | rfl | rfl | rfl | rfl | rfl | rfl <;> rfl) (Nat.le_of_ble_eq_true rfl) (Nat.le_of_ble_eq_true rfl) d_Tn_init_46 (fun q3 H hP hD hS => ?_)
  refine W.widen (k := 21) (n := 4911) (Nat.le_of_ble_eq_true rfl) (Nat.le_of_ble_eq_true rfl) ?_
  refine lv_dup hx hb d_Tn_init_49 rfl ?_
  refine lv_aload_n hx hb d_Tn_init_50 rfl (lv_at hl 0 rfl) ?_
  refine va_get (D := (dC, dI)) (ci := 0) (v := .ref (ad0 1)) (C := "TableauNodes") (T := F_Tn) (N := 4) hx hb hts in_Tn hown hK hP 0 rfl rfl 0 (by decide) (hts _ tw_220) (fun _ h9 => h9) rfl d_Tn_init_51 ?_
  refine lv_aload_n hx hb d_Tn_init_54 rfl (lv_at hl 0 rfl) ?_
  refine va_get (D := (dC, dI)) (ci := 0) (v := .ref (ad2 3)) (C := "TableauNodes") (T := F_Tn) (N := 4) hx hb hts in_Tn hown hK hP 0 rfl rfl 2 (by decide) (hts _ tw_222) (fun _ h9 => h9) rfl d_Tn_init_55 ?_
  have hPc := hP.sub (ws' := [(q3, .inr (4, [.null, .null, .null, .null, .null, .int 0, .int 0, .null, .null, .null, .int 0, .null, .int 0, .int 0, .int 0]))]) [21] rfl
  have hDc := hD.sub (ws' := [(q3, .inr (4, [.null, .null, .null, .null, .null, .int 0, .int 0, .null, .null, .null, .int 0, .null, .int 0, .int 0, .int 0]))]) [21] (by decide) rfl
  have hFc := va_free (wc := [(q3, .inr (4, [.null, .null, .null, .null, .null, .int 0, .int 0, .null, .null, .null, .int 0, .null, .int 0, .int 0, .int 0]))]) hD hS hA [21] rfl
  refine va_callv (va_runI (As := [.ref (ad0 1), .ref (ad2 3)]) (rest := [.ref q3, .ref h0]) ⟨hx, hb, hml, hown, hts⟩ (c_Th_init l dC dI cI cL cZ tt q3 (ad0 1) (ad2 3) H.size σH f4) (cwI 2 hts (tq_gC tw_167) rfl rfl rfl (hts _ tw_5) (hts _ tw_165) (hts _ tw_166) rfl (by decide +kernel) ⟨Nat.le_of_ble_eq_true rfl, Nat.le_of_ble_eq_true rfl⟩) ⟨tq_bl, tq_prc hPc hK hDc hS hFc hZ hN⟩ rfl rfl hl.1 rfl (lv_room (Nat.le_of_ble_eq_true rfl)) d_Tn_init_58 ⟨Nat.le_of_ble_eq_true rfl, Nat.le_of_ble_eq_true rfl⟩) hS (fun q _ h => hFc q h) hFc (fun ad3 t H1 locs ht hvm hw hB hz1 hk1 hS => ?_)
  obtain ⟨hP1, hK1, hD1⟩ := hB
  rw [ht] at hP1
  try dsimp only at hw
  obtain ⟨hP, hD⟩ := va_join (wr := ([(h0, .inr (0, [.ref (ad0 1), .ref (ad1 2), .ref (ad2 3), .null]))] ++ woC cI cL cZ ad0 σC ++ woR cI cL cZ ad1 σR ++ woG cI cL cZ ad2 (fput tq_s0 4 1))) (w1 := woH cI cL cZ ad3 σH) hP hD [21] [0, 1, 2, 3, 4, 5, 6, 7, 8, 9, 10, 11, 12, 13, 14, 15, 16, 17, 18, 19, 20] rfl rfl (by decide) (by decide) hk1 hFc hP1 hD1
  generalize H1 = H at hP hS ⊢
  refine W.widen (k := 28) (n := 9558) (Nat.le_of_ble_eq_true rfl) (Nat.le_of_ble_eq_true rfl) ?_
  replace hP : va_P (dC, dI) tq_cl ([(h0, .inr (0, [.ref (ad0 1), .ref (ad1 2), .ref (ad2 3), .null]))] ++ woC cI cL cZ ad0 σC ++ woR cI cL cZ ad1 σR ++ woG cI cL cZ ad2 (fput tq_s0 4 1) ++ woH cI cL cZ ad3 σH) H := hP
  replace hD : va_D A ([(h0, .inr (0, [.ref (ad0 1), .ref (ad1 2), .ref (ad2 3), .null]))] ++ woC cI cL cZ ad0 σC ++ woR cI cL cZ ad1 σR ++ woG cI cL cZ ad2 (fput tq_s0 4 1) ++ woH cI cL cZ ad3 σH) := hD
  have hq3 : ad3 4 = q3 := hw.1
  have hp3 := hw.2
  refine lv_rf (y := ad3 4) hq3 ?_
  refine va_putF (D := (dC, dI)) (ci := 0) (v := .ref (ad3 4)) (ty := .object "TableauNodes$Things") (C := "TableauNodes") (T := F_Tn) (N := 4) hx hb hts in_Tn ty_Tn tk_Tn nm_Tn hown hK hP hD hS 0 rfl rfl 3 (by decide) (hts _ tw_223) (fun _ h9 => h9) rfl hin rfl (by decide +kernel) rfl rfl (Nat.le_of_ble_eq_true rfl) d_Tn_init_61 (fun H locs hP hD hS => ?_)
  replace hP : va_P (dC, dI) tq_cl ([(h0, .inr (0, [.ref (ad0 1), .ref (ad1 2), .ref (ad2 3), .ref (ad3 4)]))] ++ woC cI cL cZ ad0 σC ++ woR cI cL cZ ad1 σR ++ woG cI cL cZ ad2 (fput tq_s0 4 1) ++ woH cI cL cZ ad3 σH) H := hP
  replace hD : va_D A ([(h0, .inr (0, [.ref (ad0 1), .ref (ad1 2), .ref (ad2 3), .ref (ad3 4)]))] ++ woC cI cL cZ ad0 σC ++ woR cI cL cZ ad1 σR ++ woG cI cL cZ ad2 (fput tq_s0 4 1) ++ woH cI cL cZ ad3 σH) := hD
  obtain ⟨ad, had⟩ : ∃ ad : Nat → Nat, ad = (fun k => if k = 0 then h0 else if k = 1 then ad0 1 else if k = 2 then ad1 2 else if k = 3 then ad2 3 else if k = 4 then ad3 4 else if k = 6 then ad0 6 else if k = 7 then ad0 7 else if k = 8 then ad0 8 else if k = 9 then ad0 9 else if k = 10 then ad0 10 else if k = 11 then ad0 11 else if k = 12 then ad0 12 else if k = 13 then ad1 13 else if k = 14 then ad1 14 else if k = 15 then ad2 15 else if k = 16 then ad2 16 else if k = 17 then ad2 17 else if k = 18 then ad2 18 else if k = 19 then ad2 19 else if k = 20 then ad2 20 else if k = 21 then ad2 21 else if k = 22 then ad2 22 else if k = 23 then ad3 23 else if k = 24 then ad3 24 else if k = 25 then ad3 25 else if k = 26 then ad3 26 else if k = 27 then ad3 27 else if k = 28 then ad3 28 else if k = 29 then ad3 29 else 0) := ⟨_, rfl⟩
  have e2 : woG cI cL cZ ad2 (fput tq_s0 4 1) = woG cI cL cZ ad (fput tq_s0 4 1) := wc_G (by rw [had]; exact hp2.1) (by rw [had]; exact hp2.2) (by rw [had]; exact rfl) (by rw [had]; exact rfl) (by rw [had]; exact rfl) (by rw [had]; exact rfl) (by rw [had]; exact rfl) (by rw [had]; exact rfl) (by rw [had]; exact rfl) (by rw [had]; exact rfl) (by rw [had]; exact rfl)
  have e3 : woH cI cL cZ ad3 σH = woH cI cL cZ ad σH := wc_H (by rw [had]; exact hp3.1) (by rw [had]; exact hp3.2) (by rw [had]; exact rfl) (by rw [had]; exact rfl) (by rw [had]; exact rfl) (by rw [had]; exact rfl) (by rw [had]; exact rfl) (by rw [had]; exact rfl) (by rw [had]; exact rfl) (by rw [had]; exact rfl)
  have e0 : woC cI cL cZ ad0 σC = woC cI cL cZ ad σC := by rw [had]; rfl
  have e1 : woR cI cL cZ ad1 σR = woR cI cL cZ ad σR := by rw [had]; rfl
  have h00 : ad 0 = h0 := by rw [had]; rfl
  rw [e0, e1, e2, e3] at hP hD
  have g0 : ad0 1 = ad 1 := by rw [had]; rfl
  have g1 : ad1 2 = ad 2 := by rw [had]; rfl
  have g2 : ad2 3 = ad 3 := by rw [had]; rfl
  have g3 : ad3 4 = ad 4 := by rw [had]; rfl
  rw [← h00, g0, g1, g2, g3] at hP hD
  have hP := hP.sub (ws' := woT cI cL cZ ad (tq_m0 σC σR σH)) [0, 1, 9, 12, 21, 2, 3, 4, 5, 6, 7, 8, 10, 11, 13, 14, 15, 16, 17, 18, 19, 20, 22, 23, 24, 25, 26, 27, 28] rfl
  have hD := hD.sub (ws' := woT cI cL cZ ad (tq_m0 σC σR σH)) [0, 1, 9, 12, 21, 2, 3, 4, 5, 6, 7, 8, 10, 11, 13, 14, 15, 16, 17, 18, 19, 20, 22, 23, 24, 25, 26, 27, 28] (by decide) rfl
  exact W.vret hx hb hr (fun t ht hW => ⟨⟨ad, rfl, h00, by rw [ht]; exact hP, va_K.moved hW.alike hK, hD⟩, hS.F ht⟩) hS.2.2 d_Tn_init_64
