set_option maxHeartbeats 40000000 in
set_option maxRecDepth 100000 in
theorem c_C_Tn_hasBit (l : Launch) (dC : Nat → ClassId) (dI : Nat → Nat → Nat) (cI cL cZ : ClassId) (ad : Nat → Nat) (tt : Nat) (sz : Nat) (σ : tq_S) (a2 : Int32) (b0 : Int64) (r : Int32) (σ' : tq_S) (hf : tq_fI st_Tn_hasBit (0, [a2], [b0], σ) = some (r, σ')) : Met l y_Tn_hasBit w_Tn_hasBit ({ frames := 0, cells := 0, slots := 0, locals := 0 } : Room) (va_Pc [.long b0, .int a2] (tq_B dC dI cI cL cZ tt (woC cI cL cZ ad σ) sz)) (va_Qi (fun (r' : Int32) (u : tq_S) => r' = r ∧ u = σ') (tq_E dC dI cI cL cZ (woC cI cL cZ ad) (va_A (woC cI cL cZ ad σ) sz)) (va_A (woC cI cL cZ ad σ) sz)) 0 0 (va_A (woC cI cL cZ ad σ) sz) := by
  obtain ⟨n0, h0⟩ := tq_fI_to hf
  refine Met.ofW (cc := prog_1_method_22_code) (maxL := 3) (ret := (some .boolean)) (by decide) rfl ?_
  intro p e s m args below meth c s₁ B hml hv
  obtain ⟨rfl, hsz, hP, hK, hD0, hZ, hN⟩ := hv
  have hx := B.exec
  have hb := B.bytes
  have hr := B.returns
  have hts : ∀ w ∈ tq_T, w.before _ s = true := fun w h => atoms_spec (ws := w_Tn_hasBit) B.pre w (List.mem_cons_of_mem _ h)
  have hown : s.vm.findClass "TableauNodes" = some m.cls := findClass_of_methodNamed B.named
  have hlocks := B.notSynchronized
  subst hsz
  have hD := hD0.self (sz := s.heap.size)
  have hS : va_S (va_A (woC cI cL cZ ad σ) s.heap.size) s.heap s.heap [] := va_S.rf
  have hA : ∀ q : Nat, s.heap.size ≤ q → va_A (woC cI cL cZ ad σ) s.heap.size q := fun q h => Or.inr h
  generalize va_A (woC cI cL cZ ad σ) s.heap.size = A at hD hS hA hZ ⊢
  have hl := lv_entry ([.long b0, .int a2]) (n := 3) (Nat.le_of_ble_eq_true rfl)
  rw [lg_entry_eq]
  generalize (lg_sl ([.long b0, .int a2]) ++ List.replicate (3 - (lg_sl ([.long b0, .int a2])).length) Slot.unset).toArray = ls at hl ⊢
  have hl : lv_has ls 3 [(0, .long b0), (2, .int a2)] := hl
  have key : ∀ n : Nat, (∀ {x2 : Int32} {y0 : Int64} {σ : tq_S} {H : Heap} {locs : List Loc} {ls : Array Slot}, va_P (dC, dI) tq_cl (woC cI cL cZ ad σ) H → va_D A (woC cI cL cZ ad σ) → va_S A s.heap H locs → lv_has ls 3 [(0, .long y0), (2, .int x2)] → tq_go st_Tn_hasBit n (0, [x2], [y0], σ) = some (tq_rt, [r], [], σ') → W p l e (headSpec w_Tn_hasBit ({ frames := 0, cells := 0, slots := 0, locals := 0 } : Room)).room s m ([.long b0, .int a2] : List Value).toArray below meth c H locs 0 0 (MQ below (va_Qi (fun (r' : Int32) (u : tq_S) => r' = r ∧ u = σ') (tq_E dC dI cI cL cZ (woC cI cL cZ ad) A) A) ([.long b0, .int a2] : List Value).toArray s 0 0 A) (F0 m 0 ls [])) := by
    intro n
    induction n with
    | zero => exact fun _ _ _ _ h => by cases h
    | succ n ih =>
      intro x2 y0 σ H locs ls hP hD hS hl h9
      obtain ⟨q9, hg, hn⟩ := tq_go_s h9 (show ¬ (0 : Nat) = tq_rt by decide)
      replace hg : bk_Tn_hasBit_0 [x2] [y0] σ = some q9 := hg
      unfold bk_Tn_hasBit_0 at hg
      refine lv_lload_n hx hb d_Tn_hasBit_0 rfl (lv_at hl 0 rfl) ?_
      refine lv_iload_n hx hb d_Tn_hasBit_1 rfl (lv_at hl 1 rfl) ?_
      refine lv_lushr hx hb d_Tn_hasBit_2 rfl ?_
      refine lv_lconst (v := 1) hx hb d_Tn_hasBit_3 (by decide) ?_
      refine lv_land hx hb d_Tn_hasBit_4 ?_
      refine lv_lconst (v := 0) hx hb d_Tn_hasBit_5 (by decide) ?_
      refine W.lcmp hx hb d_Tn_hasBit_6 ?_
      refine lv_if_eq (tgt := 14) hx hb d_Tn_hasBit_7 (by decide) (fun c1 => ?_) (fun c1 => ?_)
      · replace hg := tq_if_t c1 hg
        refine lv_iconst (v := 0) hx hb d_Tn_hasBit_14 (by decide) ?_
        exact W.zret (v := 0) hx hb hr rfl (fun t ht hW => ⟨⟨0, σ, rfl, tq_grI hg hn, by rw [ht]; exact hP, va_K.moved hW.alike hK, hD⟩, hS.F ht⟩) hS.2.2 d_Tn_hasBit_15
      · replace hg := tq_if_f c1 hg
        refine lv_iconst (v := 1) hx hb d_Tn_hasBit_10 (by decide) ?_
        refine lv_goto (tgt := 15) hx hb d_Tn_hasBit_11 (by decide) ?_
        exact W.zret (v := 1) hx hb hr rfl (fun t ht hW => ⟨⟨1, σ, rfl, tq_grI hg hn, by rw [ht]; exact hP, va_K.moved hW.alike hK, hD⟩, hS.F ht⟩) hS.2.2 d_Tn_hasBit_15
  exact (key n0) hP hD hS hl h0
set_option maxHeartbeats 40000000 in
set_option maxRecDepth 100000 in
theorem c_C_Co_find (l : Launch) (dC : Nat → ClassId) (dI : Nat → Nat → Nat) (cI cL cZ : ClassId) (ad : Nat → Nat) (tt : Nat) (sz : Nat) (σ : tq_S) (a1 : Int32) (a2 : Int32) (a3 : Int32) (r : Int32) (σ' : tq_S) (hf : tq_fI st_Co_find (0, [a1, a2, a3], [], σ) = some (r, σ')) : Met l y_Co_find w_Co_find ({ frames := 0, cells := 0, slots := 0, locals := 0 } : Room) (va_Pc [.ref (ad 1), .int a1, .int a2, .int a3] (tq_B dC dI cI cL cZ tt (woC cI cL cZ ad σ) sz)) (va_Qi (fun (r' : Int32) (u : tq_S) => r' = r ∧ u = σ') (tq_E dC dI cI cL cZ (woC cI cL cZ ad) (va_A (woC cI cL cZ ad σ) sz)) (va_A (woC cI cL cZ ad σ) sz)) 0 0 (va_A (woC cI cL cZ ad σ) sz) := by
  obtain ⟨n0, h0⟩ := tq_fI_to hf
  refine Met.ofW (cc := prog_2_method_18_code) (maxL := 5) (ret := (some .int)) (by decide) rfl ?_
  intro p e s m args below meth c s₁ B hml hv
  obtain ⟨rfl, hsz, hP, hK, hD0, hZ, hN⟩ := hv
  have hx := B.exec
  have hb := B.bytes
  have hr := B.returns
  have hts : ∀ w ∈ tq_T, w.before _ s = true := fun w h => atoms_spec (ws := w_Co_find) B.pre w (List.mem_cons_of_mem _ h)
  have hown : s.vm.findClass "TableauNodes$Concepts" = some m.cls := findClass_of_methodNamed B.named
  have hlocks := B.notSynchronized
  subst hsz
  have hD := hD0.self (sz := s.heap.size)
  have hS : va_S (va_A (woC cI cL cZ ad σ) s.heap.size) s.heap s.heap [] := va_S.rf
  have hA : ∀ q : Nat, s.heap.size ≤ q → va_A (woC cI cL cZ ad σ) s.heap.size q := fun q h => Or.inr h
  generalize va_A (woC cI cL cZ ad σ) s.heap.size = A at hD hS hA hZ ⊢
  have hl := lv_entry ([.ref (ad 1), .int a1, .int a2, .int a3]) (n := 5) (Nat.le_of_ble_eq_true rfl)
  rw [lg_entry_eq]
  generalize (lg_sl ([.ref (ad 1), .int a1, .int a2, .int a3]) ++ List.replicate (5 - (lg_sl ([.ref (ad 1), .int a1, .int a2, .int a3])).length) Slot.unset).toArray = ls at hl ⊢
  have hl : lv_has ls 5 [(0, .ref (ad 1)), (1, .int a1), (2, .int a2), (3, .int a3)] := hl
  have key : ∀ n : Nat, (∀ {x1 x2 x3 : Int32} {σ : tq_S} {H : Heap} {locs : List Loc} {ls : Array Slot}, va_P (dC, dI) tq_cl (woC cI cL cZ ad σ) H → va_D A (woC cI cL cZ ad σ) → va_S A s.heap H locs → lv_has ls 5 [(0, .ref (ad 1)), (1, .int x1), (2, .int x2), (3, .int x3)] → tq_go st_Co_find n (0, [x1, x2, x3], [], σ) = some (tq_rt, [r], [], σ') → W p l e (headSpec w_Co_find ({ frames := 0, cells := 0, slots := 0, locals := 0 } : Room)).room s m ([.ref (ad 1), .int a1, .int a2, .int a3] : List Value).toArray below meth c H locs 0 0 (MQ below (va_Qi (fun (r' : Int32) (u : tq_S) => r' = r ∧ u = σ') (tq_E dC dI cI cL cZ (woC cI cL cZ ad) A) A) ([.ref (ad 1), .int a1, .int a2, .int a3] : List Value).toArray s 0 0 A) (F0 m 0 ls [])) ∧ (∀ {x1 x2 x3 x4 : Int32} {σ : tq_S} {H : Heap} {locs : List Loc} {ls : Array Slot}, va_P (dC, dI) tq_cl (woC cI cL cZ ad σ) H → va_D A (woC cI cL cZ ad σ) → va_S A s.heap H locs → lv_has ls 5 [(0, .ref (ad 1)), (1, .int x1), (2, .int x2), (3, .int x3), (4, .int x4)] → tq_go st_Co_find n (3, [x1, x2, x3, x4], [], σ) = some (tq_rt, [r], [], σ') → W p l e (headSpec w_Co_find ({ frames := 0, cells := 0, slots := 0, locals := 0 } : Room)).room s m ([.ref (ad 1), .int a1, .int a2, .int a3] : List Value).toArray below meth c H locs 0 0 (MQ below (va_Qi (fun (r' : Int32) (u : tq_S) => r' = r ∧ u = σ') (tq_E dC dI cI cL cZ (woC cI cL cZ ad) A) A) ([.ref (ad 1), .int a1, .int a2, .int a3] : List Value).toArray s 0 0 A) (F0 m 3 ls [])) := by
    intro n
    induction n with
    | zero => exact ⟨(fun _ _ _ _ h => by cases h), (fun _ _ _ _ h => by cases h)⟩
    | succ n ih =>
      refine ⟨?_, ?_⟩
      · intro x1 x2 x3 σ H locs ls hP hD hS hl h9
        obtain ⟨q9, hg, hn⟩ := tq_go_s h9 (show ¬ (0 : Nat) = tq_rt by decide)
        replace hg : bk_Co_find_0 [x1, x2, x3] [] σ = some q9 := hg
        unfold bk_Co_find_0 at hg
        refine lv_iconst (v := 0) hx hb d_Co_find_0 (by decide) ?_
        refine lv_istore (lv' := [(4, .int 0), (0, .ref (ad 1)), (1, .int x1), (2, .int x2), (3, .int x3)]) hx hb d_Co_find_1 hl (by decide) rfl (fun ls hl => ?_)
        exact ih.2 hP hD hS (lv_sub hl [1, 2, 3, 4, 0] rfl) (tq_gi hg hn)
      · intro x1 x2 x3 x4 σ H locs ls hP hD hS hl h9
        obtain ⟨q9, hg, hn⟩ := tq_go_s h9 (show ¬ (3 : Nat) = tq_rt by decide)
        replace hg : bk_Co_find_3 [x1, x2, x3, x4] [] σ = some q9 := hg
        unfold bk_Co_find_3 at hg
        refine lv_iload hx hb d_Co_find_3 (lv_at hl 4 rfl) ?_
        refine lv_aload_n hx hb d_Co_find_5 rfl (lv_at hl 0 rfl) ?_
        refine va_get (D := (dC, dI)) (ci := 1) (v := .int (σ.2.2 0)) (C := "TableauNodes$Concepts") (T := F_Co) (N := 9) hx hb hts in_Co hown hK hP 0 rfl rfl 7 (by decide) (hts _ tw_70) (fun _ h9 => h9) rfl d_Co_find_6 ?_
        refine lv_icmp_ge (tgt := 54) hx hb d_Co_find_9 (by decide) (fun c1 => ?_) (fun c1 => ?_)
        · replace hg := tq_if_t c1 hg
          refine lv_iconst (v := (-1)) hx hb d_Co_find_54 (by decide) ?_
          exact W.iret (v := (-1)) hx hb hr (fun t ht hW => ⟨⟨(-1), σ, rfl, tq_grI hg hn, by rw [ht]; exact hP, va_K.moved hW.alike hK, hD⟩, hS.F ht⟩) hS.2.2 d_Co_find_55
        · replace hg := tq_if_f c1 hg
          refine lv_aload_n hx hb d_Co_find_12 rfl (lv_at hl 0 rfl) ?_
          refine va_get (D := (dC, dI)) (ci := 1) (v := .ref (ad 6)) (C := "TableauNodes$Concepts") (T := F_Co) (N := 9) hx hb hts in_Co hown hK hP 0 rfl rfl 0 (by decide) (hts _ tw_63) (fun _ h9 => h9) rfl d_Co_find_13 ?_
          refine lv_iload hx hb d_Co_find_16 (lv_at hl 4 rfl) ?_
          obtain ⟨g2, hg⟩ := tq_gd_s hg
          refine va_iald hx hb hK hP 1 0 rfl rfl g2 d_Co_find_18 ?_
          refine lv_iload_n hx hb d_Co_find_19 rfl (lv_at hl 1 rfl) ?_
          refine lv_icmp_ne (tgt := 48) hx hb d_Co_find_20 (by decide) (fun c3 => ?_) (fun c3 => ?_)
          · replace hg := tq_if_t c3 hg
            obtain ⟨v4, ev4, hg⟩ := tq_lj_s hg
            refine lv_iinc (v := v4) (lv' := [(4, .int v4), (0, .ref (ad 1)), (1, .int x1), (2, .int x2), (3, .int x3)]) hx hb d_Co_find_48 hl (k := 4) rfl (by rw [ev4]; rfl) (by decide) rfl (fun ls hl => ?_)
            refine lv_goto (tgt := 3) hx hb d_Co_find_51 (by decide) ?_
            exact ih.2 hP hD hS (lv_sub hl [1, 2, 3, 4, 0] rfl) (tq_gi hg hn)
          · replace hg := tq_if_n c3 hg
            refine lv_aload_n hx hb d_Co_find_23 rfl (lv_at hl 0 rfl) ?_
            refine va_get (D := (dC, dI)) (ci := 1) (v := .ref (ad 7)) (C := "TableauNodes$Concepts") (T := F_Co) (N := 9) hx hb hts in_Co hown hK hP 0 rfl rfl 1 (by decide) (hts _ tw_64) (fun _ h9 => h9) rfl d_Co_find_24 ?_
            refine lv_iload hx hb d_Co_find_27 (lv_at hl 4 rfl) ?_
            obtain ⟨g5, hg⟩ := tq_gd_s hg
            refine va_iald hx hb hK hP 2 0 rfl rfl g5 d_Co_find_29 ?_
            refine lv_iload_n hx hb d_Co_find_30 rfl (lv_at hl 2 rfl) ?_
            refine lv_icmp_ne (tgt := 48) hx hb d_Co_find_31 (by decide) (fun c6 => ?_) (fun c6 => ?_)
            · replace hg := tq_if_t c6 hg
              obtain ⟨v7, ev7, hg⟩ := tq_lj_s hg
              refine lv_iinc (v := v7) (lv' := [(4, .int v7), (0, .ref (ad 1)), (1, .int x1), (2, .int x2), (3, .int x3)]) hx hb d_Co_find_48 hl (k := 4) rfl (by rw [ev7]; rfl) (by decide) rfl (fun ls hl => ?_)
              refine lv_goto (tgt := 3) hx hb d_Co_find_51 (by decide) ?_
              exact ih.2 hP hD hS (lv_sub hl [1, 2, 3, 4, 0] rfl) (tq_gi hg hn)
            · replace hg := tq_if_n c6 hg
              refine lv_aload_n hx hb d_Co_find_34 rfl (lv_at hl 0 rfl) ?_
              refine va_get (D := (dC, dI)) (ci := 1) (v := .ref (ad 8)) (C := "TableauNodes$Concepts") (T := F_Co) (N := 9) hx hb hts in_Co hown hK hP 0 rfl rfl 2 (by decide) (hts _ tw_65) (fun _ h9 => h9) rfl d_Co_find_35 ?_
              refine lv_iload hx hb d_Co_find_38 (lv_at hl 4 rfl) ?_
              obtain ⟨g8, hg⟩ := tq_gd_s hg
              refine va_iald hx hb hK hP 3 0 rfl rfl g8 d_Co_find_40 ?_
              refine lv_iload_n hx hb d_Co_find_41 rfl (lv_at hl 3 rfl) ?_
              refine lv_icmp_ne (tgt := 48) hx hb d_Co_find_42 (by decide) (fun c9 => ?_) (fun c9 => ?_)
              · replace hg := tq_if_t c9 hg
                obtain ⟨v10, ev10, hg⟩ := tq_lj_s hg
                refine lv_iinc (v := v10) (lv' := [(4, .int v10), (0, .ref (ad 1)), (1, .int x1), (2, .int x2), (3, .int x3)]) hx hb d_Co_find_48 hl (k := 4) rfl (by rw [ev10]; rfl) (by decide) rfl (fun ls hl => ?_)
                refine lv_goto (tgt := 3) hx hb d_Co_find_51 (by decide) ?_
                exact ih.2 hP hD hS (lv_sub hl [1, 2, 3, 4, 0] rfl) (tq_gi hg hn)
              · replace hg := tq_if_n c9 hg
                refine lv_iload hx hb d_Co_find_45 (lv_at hl 4 rfl) ?_
                exact W.iret (v := x4) hx hb hr (fun t ht hW => ⟨⟨x4, σ, rfl, tq_grI hg hn, by rw [ht]; exact hP, va_K.moved hW.alike hK, hD⟩, hS.F ht⟩) hS.2.2 d_Co_find_47
  exact (key n0).1 hP hD hS hl h0
set_option maxHeartbeats 40000000 in
set_option maxRecDepth 100000 in
theorem c_C_Co_word (l : Launch) (dC : Nat → ClassId) (dI : Nat → Nat → Nat) (cI cL cZ : ClassId) (ad : Nat → Nat) (tt : Nat) (sz : Nat) (σ : tq_S) (a1 : Int32) (a2 : Int32) (r : Int64) (σ' : tq_S) (hf : tq_fL st_Co_word (0, [a1, a2], [], σ) = some (r, σ')) : Met l y_Co_word w_Co_word ({ frames := 0, cells := 0, slots := 0, locals := 0 } : Room) (va_Pc [.ref (ad 1), .int a1, .int a2] (tq_B dC dI cI cL cZ tt (woC cI cL cZ ad σ) sz)) (va_Ql (fun (r' : Int64) (u : tq_S) => r' = r ∧ u = σ') (tq_E dC dI cI cL cZ (woC cI cL cZ ad) (va_A (woC cI cL cZ ad σ) sz)) (va_A (woC cI cL cZ ad σ) sz)) 0 0 (va_A (woC cI cL cZ ad σ) sz) := by
  obtain ⟨n0, h0⟩ := tq_fL_to hf
  refine Met.ofW (cc := prog_2_method_11_code) (maxL := 4) (ret := (some .long)) (by decide) rfl ?_
  intro p e s m args below meth c s₁ B hml hv
  obtain ⟨rfl, hsz, hP, hK, hD0, hZ, hN⟩ := hv
  have hx := B.exec
  have hb := B.bytes
  have hr := B.returns
  have hts : ∀ w ∈ tq_T, w.before _ s = true := fun w h => atoms_spec (ws := w_Co_word) B.pre w (List.mem_cons_of_mem _ h)
  have hown : s.vm.findClass "TableauNodes$Concepts" = some m.cls := findClass_of_methodNamed B.named
  have hlocks := B.notSynchronized
  subst hsz
  have hD := hD0.self (sz := s.heap.size)
  have hS : va_S (va_A (woC cI cL cZ ad σ) s.heap.size) s.heap s.heap [] := va_S.rf
  have hA : ∀ q : Nat, s.heap.size ≤ q → va_A (woC cI cL cZ ad σ) s.heap.size q := fun q h => Or.inr h
  generalize va_A (woC cI cL cZ ad σ) s.heap.size = A at hD hS hA hZ ⊢
  have hl := lv_entry ([.ref (ad 1), .int a1, .int a2]) (n := 4) (Nat.le_of_ble_eq_true rfl)
  rw [lg_entry_eq]
  generalize (lg_sl ([.ref (ad 1), .int a1, .int a2]) ++ List.replicate (4 - (lg_sl ([.ref (ad 1), .int a1, .int a2])).length) Slot.unset).toArray = ls at hl ⊢
  have hl : lv_has ls 4 [(0, .ref (ad 1)), (1, .int a1), (2, .int a2)] := hl
  have key : ∀ n : Nat, (∀ {x1 x2 : Int32} {σ : tq_S} {H : Heap} {locs : List Loc} {ls : Array Slot}, va_P (dC, dI) tq_cl (woC cI cL cZ ad σ) H → va_D A (woC cI cL cZ ad σ) → va_S A s.heap H locs → lv_has ls 4 [(0, .ref (ad 1)), (1, .int x1), (2, .int x2)] → tq_go st_Co_word n (0, [x1, x2], [], σ) = some (tq_rt, [], [r], σ') → W p l e (headSpec w_Co_word ({ frames := 0, cells := 0, slots := 0, locals := 0 } : Room)).room s m ([.ref (ad 1), .int a1, .int a2] : List Value).toArray below meth c H locs 0 0 (MQ below (va_Ql (fun (r' : Int64) (u : tq_S) => r' = r ∧ u = σ') (tq_E dC dI cI cL cZ (woC cI cL cZ ad) A) A) ([.ref (ad 1), .int a1, .int a2] : List Value).toArray s 0 0 A) (F0 m 0 ls [])) ∧ (∀ {x1 x2 : Int32} {σ : tq_S} {H : Heap} {locs : List Loc} {ls : Array Slot}, va_P (dC, dI) tq_cl (woC cI cL cZ ad σ) H → va_D A (woC cI cL cZ ad σ) → va_S A s.heap H locs → lv_has ls 4 [(0, .ref (ad 1)), (1, .int x1), (2, .int x2)] → tq_go st_Co_word n (26, [x1, x2], [], σ) = some (tq_rt, [], [r], σ') → W p l e (headSpec w_Co_word ({ frames := 0, cells := 0, slots := 0, locals := 0 } : Room)).room s m ([.ref (ad 1), .int a1, .int a2] : List Value).toArray below meth c H locs 0 0 (MQ below (va_Ql (fun (r' : Int64) (u : tq_S) => r' = r ∧ u = σ') (tq_E dC dI cI cL cZ (woC cI cL cZ ad) A) A) ([.ref (ad 1), .int a1, .int a2] : List Value).toArray s 0 0 A) (F0 m 26 ls [])) := by
    intro n
    induction n with
    | zero => exact ⟨(fun _ _ _ _ h => by cases h), (fun _ _ _ _ h => by cases h)⟩
    | succ n ih =>
      refine ⟨?_, ?_⟩
      · intro x1 x2 σ H locs ls hP hD hS hl h9
        obtain ⟨q9, hg, hn⟩ := tq_go_s h9 (show ¬ (0 : Nat) = tq_rt by decide)
        replace hg : bk_Co_word_0 [x1, x2] [] σ = some q9 := hg
        unfold bk_Co_word_0 at hg
        refine lv_iload_n hx hb d_Co_word_0 rfl (lv_at hl 1 rfl) ?_
        refine lv_if_lt (tgt := 26) hx hb d_Co_word_1 (by decide) (fun c1 => ?_) (fun c1 => ?_)
        · replace hg := tq_if_t c1 hg
          exact ih.2 hP hD hS (lv_sub hl [0, 1, 2] rfl) (tq_gi hg hn)
        · replace hg := tq_if_f c1 hg
          refine lv_iload_n hx hb d_Co_word_4 rfl (lv_at hl 1 rfl) ?_
          refine lv_aload_n hx hb d_Co_word_5 rfl (lv_at hl 0 rfl) ?_
          refine va_get (D := (dC, dI)) (ci := 1) (v := .int (σ.2.2 0)) (C := "TableauNodes$Concepts") (T := F_Co) (N := 9) hx hb hts in_Co hown hK hP 0 rfl rfl 7 (by decide) (hts _ tw_70) (fun _ h9 => h9) rfl d_Co_word_6 ?_
          refine lv_icmp_ge (tgt := 26) hx hb d_Co_word_9 (by decide) (fun c2 => ?_) (fun c2 => ?_)
          · replace hg := tq_if_t c2 hg
            exact ih.2 hP hD hS (lv_sub hl [0, 1, 2] rfl) (tq_gi hg hn)
          · replace hg := tq_if_f c2 hg
            refine lv_iload_n hx hb d_Co_word_12 rfl (lv_at hl 2 rfl) ?_
            refine lv_if_lt (tgt := 26) hx hb d_Co_word_13 (by decide) (fun c3 => ?_) (fun c3 => ?_)
            · replace hg := tq_if_t c3 hg
              exact ih.2 hP hD hS (lv_sub hl [0, 1, 2] rfl) (tq_gi hg hn)
            · replace hg := tq_if_f c3 hg
              refine lv_iload_n hx hb d_Co_word_16 rfl (lv_at hl 2 rfl) ?_
              refine lv_bipush (v := 16) hx hb d_Co_word_17 (by decide) ?_
              refine lv_icmp_ge (tgt := 26) hx hb d_Co_word_19 (by decide) (fun c4 => ?_) (fun c4 => ?_)
              · replace hg := tq_if_t c4 hg
                exact ih.2 hP hD hS (lv_sub hl [0, 1, 2] rfl) (tq_gi hg hn)
              · replace hg := tq_if_f c4 hg
                refine lv_iconst (v := 1) hx hb d_Co_word_22 (by decide) ?_
                refine lv_goto (tgt := 27) hx hb d_Co_word_23 (by decide) ?_
                refine lv_istore_n (lv' := [(3, .int 1), (0, .ref (ad 1)), (1, .int x1), (2, .int x2)]) hx hb d_Co_word_27 rfl hl (by decide) rfl (fun ls hl => ?_)
                refine lv_iload_n hx hb d_Co_word_28 rfl (lv_at hl 0 rfl) ?_
                refine lv_if_eq (tgt := 46) hx hb d_Co_word_29 (by decide) (fun c => False.elim (by revert c; decide)) (fun _ => ?_)
                refine lv_aload_n hx hb d_Co_word_32 rfl (lv_at hl 1 rfl) ?_
                refine va_get (D := (dC, dI)) (ci := 1) (v := .ref (ad 9)) (C := "TableauNodes$Concepts") (T := F_Co) (N := 9) hx hb hts in_Co hown hK hP 0 rfl rfl 3 (by decide) (hts _ tw_66) (fun _ h9 => h9) rfl d_Co_word_33 ?_
                refine lv_iload_n hx hb d_Co_word_36 rfl (lv_at hl 2 rfl) ?_
                refine lv_bipush (v := 16) hx hb d_Co_word_37 (by decide) ?_
                refine lv_imul hx hb d_Co_word_39 ?_
                refine lv_iload_n hx hb d_Co_word_40 rfl (lv_at hl 3 rfl) ?_
                refine lv_iadd hx hb d_Co_word_41 ?_
                obtain ⟨g6, hg⟩ := tq_gd_s hg
                refine va_lald hx hb hK hP 4 1 rfl rfl g6 d_Co_word_42 ?_
                refine lv_goto (tgt := 47) hx hb d_Co_word_43 (by decide) ?_
                exact W.lret (v := (la σ 0 ((x1 * 16) + x2))) hx hb hr (fun t ht hW => ⟨⟨(la σ 0 ((x1 * 16) + x2)), σ, rfl, tq_grL hg hn, by rw [ht]; exact hP, va_K.moved hW.alike hK, hD⟩, hS.F ht⟩) hS.2.2 d_Co_word_47
      · intro x1 x2 σ H locs ls hP hD hS hl h9
        obtain ⟨q9, hg, hn⟩ := tq_go_s h9 (show ¬ (26 : Nat) = tq_rt by decide)
        replace hg : bk_Co_word_26 [x1, x2] [] σ = some q9 := hg
        unfold bk_Co_word_26 at hg
        refine lv_iconst (v := 0) hx hb d_Co_word_26 (by decide) ?_
        refine lv_istore_n (lv' := [(3, .int 0), (0, .ref (ad 1)), (1, .int x1), (2, .int x2)]) hx hb d_Co_word_27 rfl hl (by decide) rfl (fun ls hl => ?_)
        refine lv_iload_n hx hb d_Co_word_28 rfl (lv_at hl 0 rfl) ?_
        refine lv_if_eq (tgt := 46) hx hb d_Co_word_29 (by decide) (fun _ => ?_) (fun c => False.elim (by revert c; decide))
        refine lv_lconst (v := 0) hx hb d_Co_word_46 (by decide) ?_
        exact W.lret (v := 0) hx hb hr (fun t ht hW => ⟨⟨0, σ, rfl, tq_grL hg hn, by rw [ht]; exact hP, va_K.moved hW.alike hK, hD⟩, hS.F ht⟩) hS.2.2 d_Co_word_47
  exact (key n0).1 hP hD hS hl h0
set_option maxHeartbeats 40000000 in
set_option maxRecDepth 100000 in
theorem c_C_Co_atomWord (l : Launch) (dC : Nat → ClassId) (dI : Nat → Nat → Nat) (cI cL cZ : ClassId) (ad : Nat → Nat) (tt : Nat) (sz : Nat) (σ : tq_S) (a1 : Int32) (a2 : Int32) (r : Int64) (σ' : tq_S) (hf : tq_fL st_Co_atomWord (0, [a1, a2], [], σ) = some (r, σ')) : Met l y_Co_atomWord w_Co_atomWord ({ frames := 0, cells := 0, slots := 0, locals := 0 } : Room) (va_Pc [.ref (ad 1), .int a1, .int a2] (tq_B dC dI cI cL cZ tt (woC cI cL cZ ad σ) sz)) (va_Ql (fun (r' : Int64) (u : tq_S) => r' = r ∧ u = σ') (tq_E dC dI cI cL cZ (woC cI cL cZ ad) (va_A (woC cI cL cZ ad σ) sz)) (va_A (woC cI cL cZ ad σ) sz)) 0 0 (va_A (woC cI cL cZ ad σ) sz) := by
  obtain ⟨n0, h0⟩ := tq_fL_to hf
  refine Met.ofW (cc := prog_2_method_13_code) (maxL := 3) (ret := (some .long)) (by decide) rfl ?_
  intro p e s m args below meth c s₁ B hml hv
  obtain ⟨rfl, hsz, hP, hK, hD0, hZ, hN⟩ := hv
  have hx := B.exec
  have hb := B.bytes
  have hr := B.returns
  have hts : ∀ w ∈ tq_T, w.before _ s = true := fun w h => atoms_spec (ws := w_Co_atomWord) B.pre w (List.mem_cons_of_mem _ h)
  have hown : s.vm.findClass "TableauNodes$Concepts" = some m.cls := findClass_of_methodNamed B.named
  have hlocks := B.notSynchronized
  subst hsz
  have hD := hD0.self (sz := s.heap.size)
  have hS : va_S (va_A (woC cI cL cZ ad σ) s.heap.size) s.heap s.heap [] := va_S.rf
  have hA : ∀ q : Nat, s.heap.size ≤ q → va_A (woC cI cL cZ ad σ) s.heap.size q := fun q h => Or.inr h
  generalize va_A (woC cI cL cZ ad σ) s.heap.size = A at hD hS hA hZ ⊢
  have hl := lv_entry ([.ref (ad 1), .int a1, .int a2]) (n := 3) (Nat.le_of_ble_eq_true rfl)
  rw [lg_entry_eq]
  generalize (lg_sl ([.ref (ad 1), .int a1, .int a2]) ++ List.replicate (3 - (lg_sl ([.ref (ad 1), .int a1, .int a2])).length) Slot.unset).toArray = ls at hl ⊢
  have hl : lv_has ls 3 [(0, .ref (ad 1)), (1, .int a1), (2, .int a2)] := hl
  have key : ∀ n : Nat, (∀ {x1 x2 : Int32} {σ : tq_S} {H : Heap} {locs : List Loc} {ls : Array Slot}, va_P (dC, dI) tq_cl (woC cI cL cZ ad σ) H → va_D A (woC cI cL cZ ad σ) → va_S A s.heap H locs → lv_has ls 3 [(0, .ref (ad 1)), (1, .int x1), (2, .int x2)] → tq_go st_Co_atomWord n (0, [x1, x2], [], σ) = some (tq_rt, [], [r], σ') → W p l e (headSpec w_Co_atomWord ({ frames := 0, cells := 0, slots := 0, locals := 0 } : Room)).room s m ([.ref (ad 1), .int a1, .int a2] : List Value).toArray below meth c H locs 0 0 (MQ below (va_Ql (fun (r' : Int64) (u : tq_S) => r' = r ∧ u = σ') (tq_E dC dI cI cL cZ (woC cI cL cZ ad) A) A) ([.ref (ad 1), .int a1, .int a2] : List Value).toArray s 0 0 A) (F0 m 0 ls [])) ∧ (∀ {x1 x2 : Int32} {σ : tq_S} {H : Heap} {locs : List Loc} {ls : Array Slot}, va_P (dC, dI) tq_cl (woC cI cL cZ ad σ) H → va_D A (woC cI cL cZ ad σ) → va_S A s.heap H locs → lv_has ls 3 [(1, .int x1), (2, .int x2)] → tq_go st_Co_atomWord n (16, [x1, x2], [], σ) = some (tq_rt, [], [r], σ') → W p l e (headSpec w_Co_atomWord ({ frames := 0, cells := 0, slots := 0, locals := 0 } : Room)).room s m ([.ref (ad 1), .int a1, .int a2] : List Value).toArray below meth c H locs 0 0 (MQ below (va_Ql (fun (r' : Int64) (u : tq_S) => r' = r ∧ u = σ') (tq_E dC dI cI cL cZ (woC cI cL cZ ad) A) A) ([.ref (ad 1), .int a1, .int a2] : List Value).toArray s 0 0 A) (F0 m 16 ls [])) := by
    intro n
    induction n with
    | zero => exact ⟨(fun _ _ _ _ h => by cases h), (fun _ _ _ _ h => by cases h)⟩
    | succ n ih =>
      refine ⟨?_, ?_⟩
      · intro x1 x2 σ H locs ls hP hD hS hl h9
        obtain ⟨q9, hg, hn⟩ := tq_go_s h9 (show ¬ (0 : Nat) = tq_rt by decide)
        replace hg : bk_Co_atomWord_0 [x1, x2] [] σ = some q9 := hg
        unfold bk_Co_atomWord_0 at hg
        refine lv_iload_n hx hb d_Co_atomWord_0 rfl (lv_at hl 1 rfl) ?_
        refine lv_if_lt (tgt := 16) hx hb d_Co_atomWord_1 (by decide) (fun c1 => ?_) (fun c1 => ?_)
        · replace hg := tq_if_t c1 hg
          exact ih.2 hP hD hS (lv_sub hl [1, 2] rfl) (tq_gi hg hn)
        · replace hg := tq_if_f c1 hg
          refine lv_iload_n hx hb d_Co_atomWord_4 rfl (lv_at hl 1 rfl) ?_
          refine lv_bipush (v := 6) hx hb d_Co_atomWord_5 (by decide) ?_
          refine lv_icmp_ge (tgt := 16) hx hb d_Co_atomWord_7 (by decide) (fun c2 => ?_) (fun c2 => ?_)
          · replace hg := tq_if_t c2 hg
            exact ih.2 hP hD hS (lv_sub hl [1, 2] rfl) (tq_gi hg hn)
          · replace hg := tq_if_f c2 hg
            refine va_gets hx hb hZ.1 hS hown (hts _ tw_46) (fun _ h9 => h9) d_Co_atomWord_10 ?_
            refine lv_iload_n hx hb d_Co_atomWord_13 rfl (lv_at hl 1 rfl) ?_
            obtain ⟨g3, hg⟩ := tq_gd_s hg
            refine va_tl hx hb hZ.2 hS g3 rfl d_Co_atomWord_14 ?_
            exact W.lret (v := (tq_lowA x1.toNatClampNeg)) hx hb hr (fun t ht hW => ⟨⟨(tq_lowA x1.toNatClampNeg), σ, rfl, tq_grL hg hn, by rw [ht]; exact hP, va_K.moved hW.alike hK, hD⟩, hS.F ht⟩) hS.2.2 d_Co_atomWord_15
      · intro x1 x2 σ H locs ls hP hD hS hl h9
        obtain ⟨q9, hg, hn⟩ := tq_go_s h9 (show ¬ (16 : Nat) = tq_rt by decide)
        replace hg : bk_Co_atomWord_16 [x1, x2] [] σ = some q9 := hg
        unfold bk_Co_atomWord_16 at hg
        refine lv_iload_n hx hb d_Co_atomWord_16 rfl (lv_at hl 1 rfl) ?_
        refine lv_iload_n hx hb d_Co_atomWord_17 rfl (lv_at hl 0 rfl) ?_
        refine lv_bipush (v := 6) hx hb d_Co_atomWord_18 (by decide) ?_
        refine lv_isub hx hb d_Co_atomWord_20 ?_
        refine lv_ishr hx hb d_Co_atomWord_21 ?_
        refine lv_iconst (v := 1) hx hb d_Co_atomWord_22 (by decide) ?_
        refine lv_iand hx hb d_Co_atomWord_23 ?_
        refine lv_if_eq (tgt := 33) hx hb d_Co_atomWord_24 (by decide) (fun c4 => ?_) (fun c4 => ?_)
        · replace hg := tq_if_t c4 hg
          refine lv_lconst (v := 0) hx hb d_Co_atomWord_33 (by decide) ?_
          exact W.lret (v := 0) hx hb hr (fun t ht hW => ⟨⟨0, σ, rfl, tq_grL hg hn, by rw [ht]; exact hP, va_K.moved hW.alike hK, hD⟩, hS.F ht⟩) hS.2.2 d_Co_atomWord_34
        · replace hg := tq_if_f c4 hg
          refine lv_ldc2 (v := (-1)) hx hb hown (hts _ tw_41) d_Co_atomWord_27 ?_
          refine lv_goto (tgt := 34) hx hb d_Co_atomWord_30 (by decide) ?_
          exact W.lret (v := (-1)) hx hb hr (fun t ht hW => ⟨⟨(-1), σ, rfl, tq_grL hg hn, by rw [ht]; exact hP, va_K.moved hW.alike hK, hD⟩, hS.F ht⟩) hS.2.2 d_Co_atomWord_34
  exact (key n0).1 hP hD hS hl h0
set_option maxHeartbeats 40000000 in
set_option maxRecDepth 100000 in
theorem c_C_Co_newWord (l : Launch) (dC : Nat → ClassId) (dI : Nat → Nat → Nat) (cI cL cZ : ClassId) (ad : Nat → Nat) (tt : Nat) (sz : Nat) (σ : tq_S) (a1 : Int32) (a2 : Int32) (a3 : Int32) (a4 : Int32) (r : Int64) (σ' : tq_S) (hf : tq_fL st_Co_newWord (0, [a1, a2, a3, a4], [], σ) = some (r, σ')) : Met l y_Co_newWord w_Co_newWord ({ frames := 1, cells := 0, slots := 0, locals := 23 } : Room) (va_Pc [.ref (ad 1), .int a1, .int a2, .int a3, .int a4] (tq_B dC dI cI cL cZ tt (woC cI cL cZ ad σ) sz)) (va_Ql (fun (r' : Int64) (u : tq_S) => r' = r ∧ u = σ') (tq_E dC dI cI cL cZ (woC cI cL cZ ad) (va_A (woC cI cL cZ ad σ) sz)) (va_A (woC cI cL cZ ad σ) sz)) 0 0 (va_A (woC cI cL cZ ad σ) sz) := by
  obtain ⟨n0, h0⟩ := tq_fL_to hf
  refine Met.ofW (cc := prog_2_method_20_code) (maxL := 5) (ret := (some .long)) (by decide) rfl ?_
  intro p e s m args below meth c s₁ B hml hv
  obtain ⟨rfl, hsz, hP, hK, hD0, hZ, hN⟩ := hv
  have hx := B.exec
  have hb := B.bytes
  have hr := B.returns
  have hts : ∀ w ∈ tq_T, w.before _ s = true := fun w h => atoms_spec (ws := w_Co_newWord) B.pre w (List.mem_cons_of_mem _ h)
  have hown : s.vm.findClass "TableauNodes$Concepts" = some m.cls := findClass_of_methodNamed B.named
  have hlocks := B.notSynchronized
  subst hsz
  have hD := hD0.self (sz := s.heap.size)
  have hS : va_S (va_A (woC cI cL cZ ad σ) s.heap.size) s.heap s.heap [] := va_S.rf
  have hA : ∀ q : Nat, s.heap.size ≤ q → va_A (woC cI cL cZ ad σ) s.heap.size q := fun q h => Or.inr h
  generalize va_A (woC cI cL cZ ad σ) s.heap.size = A at hD hS hA hZ ⊢
  have hl := lv_entry ([.ref (ad 1), .int a1, .int a2, .int a3, .int a4]) (n := 5) (Nat.le_of_ble_eq_true rfl)
  rw [lg_entry_eq]
  generalize (lg_sl ([.ref (ad 1), .int a1, .int a2, .int a3, .int a4]) ++ List.replicate (5 - (lg_sl ([.ref (ad 1), .int a1, .int a2, .int a3, .int a4])).length) Slot.unset).toArray = ls at hl ⊢
  have hl : lv_has ls 5 [(0, .ref (ad 1)), (1, .int a1), (2, .int a2), (3, .int a3), (4, .int a4)] := hl
  have key : ∀ n : Nat, (∀ {x1 x2 x3 x4 : Int32} {σ : tq_S} {H : Heap} {locs : List Loc} {ls : Array Slot}, va_P (dC, dI) tq_cl (woC cI cL cZ ad σ) H → va_D A (woC cI cL cZ ad σ) → va_S A s.heap H locs → lv_has ls 5 [(0, .ref (ad 1)), (1, .int x1), (2, .int x2), (3, .int x3), (4, .int x4)] → tq_go st_Co_newWord n (0, [x1, x2, x3, x4], [], σ) = some (tq_rt, [], [r], σ') → W p l e (headSpec w_Co_newWord ({ frames := 1, cells := 0, slots := 0, locals := 23 } : Room)).room s m ([.ref (ad 1), .int a1, .int a2, .int a3, .int a4] : List Value).toArray below meth c H locs 0 0 (MQ below (va_Ql (fun (r' : Int64) (u : tq_S) => r' = r ∧ u = σ') (tq_E dC dI cI cL cZ (woC cI cL cZ ad) A) A) ([.ref (ad 1), .int a1, .int a2, .int a3, .int a4] : List Value).toArray s 0 0 A) (F0 m 0 ls [])) := by
    intro n
    induction n with
    | zero => exact fun _ _ _ _ h => by cases h
    | succ n ih =>
      intro x1 x2 x3 x4 σ H locs ls hP hD hS hl h9
      obtain ⟨q9, hg, hn⟩ := tq_go_s h9 (show ¬ (0 : Nat) = tq_rt by decide)
      replace hg : bk_Co_newWord_0 [x1, x2, x3, x4] [] σ = some q9 := hg
      unfold bk_Co_newWord_0 at hg
      refine lv_iload_n hx hb d_Co_newWord_0 rfl (lv_at hl 1 rfl) ?_
      by_cases w25_0 : x1 = 0
      · replace hg := tq_if_t w25_0 hg
        refine lv_tableIn (tgt := 48) hx hb d_Co_newWord_1 (by rw [w25_0]; decide) (by rw [w25_0]; decide) (by rw [w25_0]; rfl) (by decide) ?_
        refine lv_ldc2 (v := (-1)) hx hb hown (hts _ tw_41) d_Co_newWord_48 ?_
        exact W.lret (v := (-1)) hx hb hr (fun t ht hW => ⟨⟨(-1), σ, rfl, tq_grL hg hn, by rw [ht]; exact hP, va_K.moved hW.alike hK, hD⟩, hS.F ht⟩) hS.2.2 d_Co_newWord_51
      replace hg := tq_if_f w25_0 hg
      by_cases w25_1 : x1 = 1
      · replace hg := tq_if_t w25_1 hg
        refine lv_tableIn (tgt := 107) hx hb d_Co_newWord_1 (by rw [w25_1]; decide) (by rw [w25_1]; decide) (by rw [w25_1]; rfl) (by decide) ?_
        refine lv_lconst (v := 0) hx hb d_Co_newWord_107 (by decide) ?_
        exact W.lret (v := 0) hx hb hr (fun t ht hW => ⟨⟨0, σ, rfl, tq_grL hg hn, by rw [ht]; exact hP, va_K.moved hW.alike hK, hD⟩, hS.F ht⟩) hS.2.2 d_Co_newWord_108
      replace hg := tq_if_f w25_1 hg
      by_cases w25_2 : x1 = 2
      · replace hg := tq_if_t w25_2 hg
        refine lv_tableIn (tgt := 52) hx hb d_Co_newWord_1 (by rw [w25_2]; decide) (by rw [w25_2]; decide) (by rw [w25_2]; rfl) (by decide) ?_
        refine lv_aload_n hx hb d_Co_newWord_52 rfl (lv_at hl 0 rfl) ?_
        refine lv_aload_n hx hb d_Co_newWord_53 rfl (lv_at hl 0 rfl) ?_
        refine va_get (D := (dC, dI)) (ci := 1) (v := .int (σ.2.2 1)) (C := "TableauNodes$Concepts") (T := F_Co) (N := 9) hx hb hts in_Co hown hK hP 0 rfl rfl 8 (by decide) (hts _ tw_71) (fun _ h9 => h9) rfl d_Co_newWord_54 ?_
        refine lv_iload hx hb d_Co_newWord_57 (lv_at hl 4 rfl) ?_
        obtain ⟨r2, σ3, f1, hg⟩ := tq_ob_s hg
        refine tq_aL (va_runV (As := [.int (σ.2.2 1), .int x4]) (rest := []) ⟨hx, hb, hml, hown, hts⟩ (c_C_Co_atomWord l dC dI cI cL cZ ad tt H.size σ (σ.2.2 1) x4  r2 σ3 f1) (cwV 2 hts (tq_gV tw_42 tw_43 tw_44 tw_2 tw_45) rfl rfl rfl (by decide +kernel) ⟨Nat.le_of_ble_eq_true rfl, Nat.le_of_ble_eq_true rfl⟩) ⟨tq_bl, va_recv hK hP (ci := 1) (q0 := 0) rfl rfl, (tq_pr hP hK hD hS hA hZ hN)⟩ rfl rfl hl.1 rfl (lv_room (Nat.le_of_ble_eq_true rfl)) d_Co_newWord_59 ⟨Nat.zero_le _, Nat.zero_le _⟩) hD hS hA (fun H locs hP hD hS => ?_)
        exact W.lret (v := r2) hx hb hr (fun t ht hW => ⟨⟨r2, σ3, rfl, tq_grL hg hn, by rw [ht]; exact hP, va_K.moved hW.alike hK, hD⟩, hS.F ht⟩) hS.2.2 d_Co_newWord_62
      replace hg := tq_if_f w25_2 hg
      by_cases w25_3 : x1 = 3
      · replace hg := tq_if_t w25_3 hg
        refine lv_tableIn (tgt := 63) hx hb d_Co_newWord_1 (by rw [w25_3]; decide) (by rw [w25_3]; decide) (by rw [w25_3]; rfl) (by decide) ?_
        refine lv_aload_n hx hb d_Co_newWord_63 rfl (lv_at hl 0 rfl) ?_
        refine lv_iload_n hx hb d_Co_newWord_64 rfl (lv_at hl 2 rfl) ?_
        refine lv_iload hx hb d_Co_newWord_65 (lv_at hl 4 rfl) ?_
        obtain ⟨r5, σ6, f4, hg⟩ := tq_ob_s hg
        refine tq_aL (va_runV (As := [.int x2, .int x4]) (rest := []) ⟨hx, hb, hml, hown, hts⟩ (c_C_Co_word l dC dI cI cL cZ ad tt H.size σ x2 x4  r5 σ6 f4) (cwV 2 hts (tq_gV tw_48 tw_49 tw_50 tw_2 tw_51) rfl rfl rfl (by decide +kernel) ⟨Nat.le_of_ble_eq_true rfl, Nat.le_of_ble_eq_true rfl⟩) ⟨tq_bl, va_recv hK hP (ci := 1) (q0 := 0) rfl rfl, (tq_pr hP hK hD hS hA hZ hN)⟩ rfl rfl hl.1 rfl (lv_room (Nat.le_of_ble_eq_true rfl)) d_Co_newWord_67 ⟨Nat.zero_le _, Nat.zero_le _⟩) hD hS hA (fun H locs hP hD hS => ?_)
        refine lv_ldc2 (v := (-1)) hx hb hown (hts _ tw_41) d_Co_newWord_70 ?_
        refine lv_lxor hx hb d_Co_newWord_73 ?_
        exact W.lret (v := (r5 ^^^ (-1))) hx hb hr (fun t ht hW => ⟨⟨(r5 ^^^ (-1)), σ6, rfl, tq_grL hg hn, by rw [ht]; exact hP, va_K.moved hW.alike hK, hD⟩, hS.F ht⟩) hS.2.2 d_Co_newWord_74
      replace hg := tq_if_f w25_3 hg
      by_cases w25_4 : x1 = 4
      · replace hg := tq_if_t w25_4 hg
        refine lv_tableIn (tgt := 75) hx hb d_Co_newWord_1 (by rw [w25_4]; decide) (by rw [w25_4]; decide) (by rw [w25_4]; rfl) (by decide) ?_
        refine lv_aload_n hx hb d_Co_newWord_75 rfl (lv_at hl 0 rfl) ?_
        refine lv_iload_n hx hb d_Co_newWord_76 rfl (lv_at hl 2 rfl) ?_
        refine lv_iload hx hb d_Co_newWord_77 (lv_at hl 4 rfl) ?_
        obtain ⟨r8, σ9, f7, hg⟩ := tq_ob_s hg
        refine tq_aL (va_runV (As := [.int x2, .int x4]) (rest := []) ⟨hx, hb, hml, hown, hts⟩ (c_C_Co_word l dC dI cI cL cZ ad tt H.size σ x2 x4  r8 σ9 f7) (cwV 2 hts (tq_gV tw_48 tw_49 tw_50 tw_2 tw_51) rfl rfl rfl (by decide +kernel) ⟨Nat.le_of_ble_eq_true rfl, Nat.le_of_ble_eq_true rfl⟩) ⟨tq_bl, va_recv hK hP (ci := 1) (q0 := 0) rfl rfl, (tq_pr hP hK hD hS hA hZ hN)⟩ rfl rfl hl.1 rfl (lv_room (Nat.le_of_ble_eq_true rfl)) d_Co_newWord_79 ⟨Nat.zero_le _, Nat.zero_le _⟩) hD hS hA (fun H locs hP hD hS => ?_)
        refine lv_aload_n hx hb d_Co_newWord_82 rfl (lv_at hl 0 rfl) ?_
        refine lv_iload_n hx hb d_Co_newWord_83 rfl (lv_at hl 3 rfl) ?_
        refine lv_iload hx hb d_Co_newWord_84 (lv_at hl 4 rfl) ?_
        obtain ⟨r11, σ12, f10, hg⟩ := tq_ob_s hg
        refine tq_aL (va_runV (As := [.int x3, .int x4]) (rest := [.long r8]) ⟨hx, hb, hml, hown, hts⟩ (c_C_Co_word l dC dI cI cL cZ ad tt H.size σ9 x3 x4  r11 σ12 f10) (cwV 2 hts (tq_gV tw_48 tw_49 tw_50 tw_2 tw_51) rfl rfl rfl (by decide +kernel) ⟨Nat.le_of_ble_eq_true rfl, Nat.le_of_ble_eq_true rfl⟩) ⟨tq_bl, va_recv hK hP (ci := 1) (q0 := 0) rfl rfl, (tq_pr hP hK hD hS hA hZ hN)⟩ rfl rfl hl.1 rfl (lv_room (Nat.le_of_ble_eq_true rfl)) d_Co_newWord_86 ⟨Nat.zero_le _, Nat.zero_le _⟩) hD hS hA (fun H locs hP hD hS => ?_)
        refine lv_land hx hb d_Co_newWord_89 ?_
        exact W.lret (v := (r8 &&& r11)) hx hb hr (fun t ht hW => ⟨⟨(r8 &&& r11), σ12, rfl, tq_grL hg hn, by rw [ht]; exact hP, va_K.moved hW.alike hK, hD⟩, hS.F ht⟩) hS.2.2 d_Co_newWord_90
      replace hg := tq_if_f w25_4 hg
      by_cases w25_5 : x1 = 5
      · replace hg := tq_if_t w25_5 hg
        refine lv_tableIn (tgt := 91) hx hb d_Co_newWord_1 (by rw [w25_5]; decide) (by rw [w25_5]; decide) (by rw [w25_5]; rfl) (by decide) ?_
        refine lv_aload_n hx hb d_Co_newWord_91 rfl (lv_at hl 0 rfl) ?_
        refine lv_iload_n hx hb d_Co_newWord_92 rfl (lv_at hl 2 rfl) ?_
        refine lv_iload hx hb d_Co_newWord_93 (lv_at hl 4 rfl) ?_
        obtain ⟨r14, σ15, f13, hg⟩ := tq_ob_s hg
        refine tq_aL (va_runV (As := [.int x2, .int x4]) (rest := []) ⟨hx, hb, hml, hown, hts⟩ (c_C_Co_word l dC dI cI cL cZ ad tt H.size σ x2 x4  r14 σ15 f13) (cwV 2 hts (tq_gV tw_48 tw_49 tw_50 tw_2 tw_51) rfl rfl rfl (by decide +kernel) ⟨Nat.le_of_ble_eq_true rfl, Nat.le_of_ble_eq_true rfl⟩) ⟨tq_bl, va_recv hK hP (ci := 1) (q0 := 0) rfl rfl, (tq_pr hP hK hD hS hA hZ hN)⟩ rfl rfl hl.1 rfl (lv_room (Nat.le_of_ble_eq_true rfl)) d_Co_newWord_95 ⟨Nat.zero_le _, Nat.zero_le _⟩) hD hS hA (fun H locs hP hD hS => ?_)
        refine lv_aload_n hx hb d_Co_newWord_98 rfl (lv_at hl 0 rfl) ?_
        refine lv_iload_n hx hb d_Co_newWord_99 rfl (lv_at hl 3 rfl) ?_
        refine lv_iload hx hb d_Co_newWord_100 (lv_at hl 4 rfl) ?_
        obtain ⟨r17, σ18, f16, hg⟩ := tq_ob_s hg
        refine tq_aL (va_runV (As := [.int x3, .int x4]) (rest := [.long r14]) ⟨hx, hb, hml, hown, hts⟩ (c_C_Co_word l dC dI cI cL cZ ad tt H.size σ15 x3 x4  r17 σ18 f16) (cwV 2 hts (tq_gV tw_48 tw_49 tw_50 tw_2 tw_51) rfl rfl rfl (by decide +kernel) ⟨Nat.le_of_ble_eq_true rfl, Nat.le_of_ble_eq_true rfl⟩) ⟨tq_bl, va_recv hK hP (ci := 1) (q0 := 0) rfl rfl, (tq_pr hP hK hD hS hA hZ hN)⟩ rfl rfl hl.1 rfl (lv_room (Nat.le_of_ble_eq_true rfl)) d_Co_newWord_102 ⟨Nat.zero_le _, Nat.zero_le _⟩) hD hS hA (fun H locs hP hD hS => ?_)
        refine lv_lor hx hb d_Co_newWord_105 ?_
        exact W.lret (v := (r14 ||| r17)) hx hb hr (fun t ht hW => ⟨⟨(r14 ||| r17), σ18, rfl, tq_grL hg hn, by rw [ht]; exact hP, va_K.moved hW.alike hK, hD⟩, hS.F ht⟩) hS.2.2 d_Co_newWord_106
      replace hg := tq_if_f w25_5 hg
      by_cases w25_6 : x1 = 6
      · replace hg := tq_if_t w25_6 hg
        refine lv_tableIn (tgt := 52) hx hb d_Co_newWord_1 (by rw [w25_6]; decide) (by rw [w25_6]; decide) (by rw [w25_6]; rfl) (by decide) ?_
        refine lv_aload_n hx hb d_Co_newWord_52 rfl (lv_at hl 0 rfl) ?_
        refine lv_aload_n hx hb d_Co_newWord_53 rfl (lv_at hl 0 rfl) ?_
        refine va_get (D := (dC, dI)) (ci := 1) (v := .int (σ.2.2 1)) (C := "TableauNodes$Concepts") (T := F_Co) (N := 9) hx hb hts in_Co hown hK hP 0 rfl rfl 8 (by decide) (hts _ tw_71) (fun _ h9 => h9) rfl d_Co_newWord_54 ?_
        refine lv_iload hx hb d_Co_newWord_57 (lv_at hl 4 rfl) ?_
        obtain ⟨r20, σ21, f19, hg⟩ := tq_ob_s hg
        refine tq_aL (va_runV (As := [.int (σ.2.2 1), .int x4]) (rest := []) ⟨hx, hb, hml, hown, hts⟩ (c_C_Co_atomWord l dC dI cI cL cZ ad tt H.size σ (σ.2.2 1) x4  r20 σ21 f19) (cwV 2 hts (tq_gV tw_42 tw_43 tw_44 tw_2 tw_45) rfl rfl rfl (by decide +kernel) ⟨Nat.le_of_ble_eq_true rfl, Nat.le_of_ble_eq_true rfl⟩) ⟨tq_bl, va_recv hK hP (ci := 1) (q0 := 0) rfl rfl, (tq_pr hP hK hD hS hA hZ hN)⟩ rfl rfl hl.1 rfl (lv_room (Nat.le_of_ble_eq_true rfl)) d_Co_newWord_59 ⟨Nat.zero_le _, Nat.zero_le _⟩) hD hS hA (fun H locs hP hD hS => ?_)
        exact W.lret (v := r20) hx hb hr (fun t ht hW => ⟨⟨r20, σ21, rfl, tq_grL hg hn, by rw [ht]; exact hP, va_K.moved hW.alike hK, hD⟩, hS.F ht⟩) hS.2.2 d_Co_newWord_62
      replace hg := tq_if_f w25_6 hg
      by_cases w25_7 : x1 = 7
      · replace hg := tq_if_t w25_7 hg
        refine lv_tableIn (tgt := 63) hx hb d_Co_newWord_1 (by rw [w25_7]; decide) (by rw [w25_7]; decide) (by rw [w25_7]; rfl) (by decide) ?_
        refine lv_aload_n hx hb d_Co_newWord_63 rfl (lv_at hl 0 rfl) ?_
        refine lv_iload_n hx hb d_Co_newWord_64 rfl (lv_at hl 2 rfl) ?_
        refine lv_iload hx hb d_Co_newWord_65 (lv_at hl 4 rfl) ?_
        obtain ⟨r23, σ24, f22, hg⟩ := tq_ob_s hg
        refine tq_aL (va_runV (As := [.int x2, .int x4]) (rest := []) ⟨hx, hb, hml, hown, hts⟩ (c_C_Co_word l dC dI cI cL cZ ad tt H.size σ x2 x4  r23 σ24 f22) (cwV 2 hts (tq_gV tw_48 tw_49 tw_50 tw_2 tw_51) rfl rfl rfl (by decide +kernel) ⟨Nat.le_of_ble_eq_true rfl, Nat.le_of_ble_eq_true rfl⟩) ⟨tq_bl, va_recv hK hP (ci := 1) (q0 := 0) rfl rfl, (tq_pr hP hK hD hS hA hZ hN)⟩ rfl rfl hl.1 rfl (lv_room (Nat.le_of_ble_eq_true rfl)) d_Co_newWord_67 ⟨Nat.zero_le _, Nat.zero_le _⟩) hD hS hA (fun H locs hP hD hS => ?_)
        refine lv_ldc2 (v := (-1)) hx hb hown (hts _ tw_41) d_Co_newWord_70 ?_
        refine lv_lxor hx hb d_Co_newWord_73 ?_
        exact W.lret (v := (r23 ^^^ (-1))) hx hb hr (fun t ht hW => ⟨⟨(r23 ^^^ (-1)), σ24, rfl, tq_grL hg hn, by rw [ht]; exact hP, va_K.moved hW.alike hK, hD⟩, hS.F ht⟩) hS.2.2 d_Co_newWord_74
      replace hg := tq_if_f w25_7 hg
      refine lv_tableOut (tgt := 107) hx hb d_Co_newWord_1 (by have q0 := tq_ni w25_0 (a := 0) (by decide); have q1 := tq_ni w25_1 (a := 1) (by decide); have q2 := tq_ni w25_2 (a := 2) (by decide); have q3 := tq_ni w25_3 (a := 3) (by decide); have q4 := tq_ni w25_4 (a := 4) (by decide); have q5 := tq_ni w25_5 (a := 5) (by decide); have q6 := tq_ni w25_6 (a := 6) (by decide); have q7 := tq_ni w25_7 (a := 7) (by decide); omega) (by decide) ?_
      refine lv_lconst (v := 0) hx hb d_Co_newWord_107 (by decide) ?_
      exact W.lret (v := 0) hx hb hr (fun t ht hW => ⟨⟨0, σ, rfl, tq_grL hg hn, by rw [ht]; exact hP, va_K.moved hW.alike hK, hD⟩, hS.F ht⟩) hS.2.2 d_Co_newWord_108
  exact (key n0) hP hD hS hl h0
set_option maxHeartbeats 40000000 in
set_option maxRecDepth 100000 in
theorem c_C_Co_noteInner (l : Launch) (dC : Nat → ClassId) (dI : Nat → Nat → Nat) (cI cL cZ : ClassId) (ad : Nat → Nat) (tt : Nat) (sz : Nat) (σ : tq_S) (a1 : Int32) (a2 : Int32) (σ' : tq_S) (hf : tq_fV st_Co_noteInner (0, [a1, a2], [], σ) = some ((), σ')) : Met l y_Co_noteInner w_Co_noteInner ({ frames := 1, cells := 0, slots := 0, locals := 23 } : Room) (va_Pc [.ref (ad 1), .int a1, .int a2] (tq_B dC dI cI cL cZ tt (woC cI cL cZ ad σ) sz)) (va_Qv (fun (u : tq_S) => u = σ') (tq_E dC dI cI cL cZ (woC cI cL cZ ad) (va_A (woC cI cL cZ ad σ) sz)) (va_A (woC cI cL cZ ad σ) sz)) 0 0 (va_A (woC cI cL cZ ad σ) sz) := by
  obtain ⟨n0, h0⟩ := tq_fV_to hf
  refine Met.ofW (cc := prog_2_method_22_code) (maxL := 7) (ret := none) (by decide) rfl ?_
  intro p e s m args below meth c s₁ B hml hv
  obtain ⟨rfl, hsz, hP, hK, hD0, hZ, hN⟩ := hv
  have hx := B.exec
  have hb := B.bytes
  have hr := B.returns
  have hts : ∀ w ∈ tq_T, w.before _ s = true := fun w h => atoms_spec (ws := w_Co_noteInner) B.pre w (List.mem_cons_of_mem _ h)
  have hown : s.vm.findClass "TableauNodes$Concepts" = some m.cls := findClass_of_methodNamed B.named
  have hlocks := B.notSynchronized
  subst hsz
  have hD := hD0.self (sz := s.heap.size)
  have hS : va_S (va_A (woC cI cL cZ ad σ) s.heap.size) s.heap s.heap [] := va_S.rf
  have hA : ∀ q : Nat, s.heap.size ≤ q → va_A (woC cI cL cZ ad σ) s.heap.size q := fun q h => Or.inr h
  generalize va_A (woC cI cL cZ ad σ) s.heap.size = A at hD hS hA hZ ⊢
  have hl := lv_entry ([.ref (ad 1), .int a1, .int a2]) (n := 7) (Nat.le_of_ble_eq_true rfl)
  rw [lg_entry_eq]
  generalize (lg_sl ([.ref (ad 1), .int a1, .int a2]) ++ List.replicate (7 - (lg_sl ([.ref (ad 1), .int a1, .int a2])).length) Slot.unset).toArray = ls at hl ⊢
  have hl : lv_has ls 7 [(0, .ref (ad 1)), (1, .int a1), (2, .int a2)] := hl
  have key : ∀ n : Nat, (∀ {x1 x2 : Int32} {σ : tq_S} {H : Heap} {locs : List Loc} {ls : Array Slot}, va_P (dC, dI) tq_cl (woC cI cL cZ ad σ) H → va_D A (woC cI cL cZ ad σ) → va_S A s.heap H locs → lv_has ls 7 [(0, .ref (ad 1)), (1, .int x1), (2, .int x2)] → tq_go st_Co_noteInner n (0, [x1, x2], [], σ) = some (tq_rt, [], [], σ') → W p l e (headSpec w_Co_noteInner ({ frames := 1, cells := 0, slots := 0, locals := 23 } : Room)).room s m ([.ref (ad 1), .int a1, .int a2] : List Value).toArray below meth c H locs 0 0 (MQ below (va_Qv (fun (u : tq_S) => u = σ') (tq_E dC dI cI cL cZ (woC cI cL cZ ad) A) A) ([.ref (ad 1), .int a1, .int a2] : List Value).toArray s 0 0 A) (F0 m 0 ls [])) ∧ (∀ {x1 x2 x3 : Int32} {σ : tq_S} {H : Heap} {locs : List Loc} {ls : Array Slot}, va_P (dC, dI) tq_cl (woC cI cL cZ ad σ) H → va_D A (woC cI cL cZ ad σ) → va_S A s.heap H locs → lv_has ls 7 [(0, .ref (ad 1)), (1, .int x1), (2, .int x2), (3, .int x3)] → tq_go st_Co_noteInner n (2, [x1, x2, x3], [], σ) = some (tq_rt, [], [], σ') → W p l e (headSpec w_Co_noteInner ({ frames := 1, cells := 0, slots := 0, locals := 23 } : Room)).room s m ([.ref (ad 1), .int a1, .int a2] : List Value).toArray below meth c H locs 0 0 (MQ below (va_Qv (fun (u : tq_S) => u = σ') (tq_E dC dI cI cL cZ (woC cI cL cZ ad) A) A) ([.ref (ad 1), .int a1, .int a2] : List Value).toArray s 0 0 A) (F0 m 2 ls [])) ∧ (∀ {x1 x2 x3 x6 : Int32} {y4 : Int64} {σ : tq_S} {H : Heap} {locs : List Loc} {ls : Array Slot}, va_P (dC, dI) tq_cl (woC cI cL cZ ad σ) H → va_D A (woC cI cL cZ ad σ) → va_S A s.heap H locs → lv_has ls 7 [(0, .ref (ad 1)), (1, .int x1), (2, .int x2), (3, .int x3), (4, .long y4), (6, .int x6)] → tq_go st_Co_noteInner n (32, [x1, x2, x3, x6], [y4], σ) = some (tq_rt, [], [], σ') → W p l e (headSpec w_Co_noteInner ({ frames := 1, cells := 0, slots := 0, locals := 23 } : Room)).room s m ([.ref (ad 1), .int a1, .int a2] : List Value).toArray below meth c H locs 0 0 (MQ below (va_Qv (fun (u : tq_S) => u = σ') (tq_E dC dI cI cL cZ (woC cI cL cZ ad) A) A) ([.ref (ad 1), .int a1, .int a2] : List Value).toArray s 0 0 A) (F0 m 32 ls [])) := by
    intro n
    induction n with
    | zero => exact ⟨(fun _ _ _ _ h => by cases h), (fun _ _ _ _ h => by cases h), (fun _ _ _ _ h => by cases h)⟩
    | succ n ih =>
      refine ⟨?_, ?_, ?_⟩
      · intro x1 x2 σ H locs ls hP hD hS hl h9
        obtain ⟨q9, hg, hn⟩ := tq_go_s h9 (show ¬ (0 : Nat) = tq_rt by decide)
        replace hg : bk_Co_noteInner_0 [x1, x2] [] σ = some q9 := hg
        unfold bk_Co_noteInner_0 at hg
        refine lv_iconst (v := 0) hx hb d_Co_noteInner_0 (by decide) ?_
        refine lv_istore_n (lv' := [(3, .int 0), (0, .ref (ad 1)), (1, .int x1), (2, .int x2)]) hx hb d_Co_noteInner_1 rfl hl (by decide) rfl (fun ls hl => ?_)
        exact ih.2.1 hP hD hS (lv_sub hl [1, 2, 3, 0] rfl) (tq_gi hg hn)
      · intro x1 x2 x3 σ H locs ls hP hD hS hl h9
        obtain ⟨q9, hg, hn⟩ := tq_go_s h9 (show ¬ (2 : Nat) = tq_rt by decide)
        replace hg : bk_Co_noteInner_2 [x1, x2, x3] [] σ = some q9 := hg
        unfold bk_Co_noteInner_2 at hg
        refine lv_iload_n hx hb d_Co_noteInner_2 rfl (lv_at hl 3 rfl) ?_
        refine lv_bipush (v := 16) hx hb d_Co_noteInner_3 (by decide) ?_
        refine lv_icmp_ge (tgt := 83) hx hb d_Co_noteInner_5 (by decide) (fun c1 => ?_) (fun c1 => ?_)
        · replace hg := tq_if_t c1 hg
          exact W.vret hx hb hr (fun t ht hW => ⟨⟨σ, rfl, tq_grV hg hn, by rw [ht]; exact hP, va_K.moved hW.alike hK, hD⟩, hS.F ht⟩) hS.2.2 d_Co_noteInner_83
        · replace hg := tq_if_f c1 hg
          refine lv_aload_n hx hb d_Co_noteInner_8 rfl (lv_at hl 0 rfl) ?_
          refine lv_iload_n hx hb d_Co_noteInner_9 rfl (lv_at hl 2 rfl) ?_
          refine lv_iload_n hx hb d_Co_noteInner_10 rfl (lv_at hl 3 rfl) ?_
          obtain ⟨r3, σ4, f2, hg⟩ := tq_ob_s hg
          refine tq_aL (va_runV (As := [.int x2, .int x3]) (rest := []) ⟨hx, hb, hml, hown, hts⟩ (c_C_Co_word l dC dI cI cL cZ ad tt H.size σ x2 x3  r3 σ4 f2) (cwV 2 hts (tq_gV tw_48 tw_49 tw_50 tw_2 tw_51) rfl rfl rfl (by decide +kernel) ⟨Nat.le_of_ble_eq_true rfl, Nat.le_of_ble_eq_true rfl⟩) ⟨tq_bl, va_recv hK hP (ci := 1) (q0 := 0) rfl rfl, (tq_pr hP hK hD hS hA hZ hN)⟩ rfl rfl hl.1 rfl (lv_room (Nat.le_of_ble_eq_true rfl)) d_Co_noteInner_11 ⟨Nat.zero_le _, Nat.zero_le _⟩) hD hS hA (fun H locs hP hD hS => ?_)
          refine lv_lstore (lv' := [(4, .long r3), (0, .ref (ad 1)), (1, .int x1), (2, .int x2), (3, .int x3)]) hx hb d_Co_noteInner_14 hl (by decide) rfl (fun ls hl => ?_)
          refine lv_aload_n hx hb d_Co_noteInner_16 rfl (lv_at hl 1 rfl) ?_
          refine va_get (D := (dC, dI)) (ci := 1) (v := .ref (ad 11)) (C := "TableauNodes$Concepts") (T := F_Co) (N := 9) hx hb hts in_Co hown hK hP 0 rfl rfl 5 (by decide) (hts _ tw_68) (fun _ h9 => h9) rfl d_Co_noteInner_17 ?_
          refine lv_iload_n hx hb d_Co_noteInner_20 rfl (lv_at hl 2 rfl) ?_
          refine lv_bipush (v := 16) hx hb d_Co_noteInner_21 (by decide) ?_
          refine lv_imul hx hb d_Co_noteInner_23 ?_
          refine lv_iload_n hx hb d_Co_noteInner_24 rfl (lv_at hl 4 rfl) ?_
          refine lv_iadd hx hb d_Co_noteInner_25 ?_
          refine lv_lload hx hb d_Co_noteInner_26 (lv_at hl 0 rfl) ?_
          obtain ⟨g5, hg⟩ := tq_gd_s hg
          refine va_last hx hb hK hP hD hS 6 1 rfl rfl g5 d_Co_noteInner_28 (fun H locs hP hD hS => ?_)
          obtain ⟨σ6, eσ6, hg⟩ := tq_lj_s hg
          replace hP : va_P (dC, dI) tq_cl (woC cI cL cZ ad σ6) H := by rw [eσ6, ← wsC_l1]; exact hP
          replace hD : va_D A (woC cI cL cZ ad σ6) := by rw [eσ6, ← wsC_l1]; exact hD
          refine lv_iconst (v := 0) hx hb d_Co_noteInner_29 (by decide) ?_
          refine lv_istore (lv' := [(6, .int 0), (4, .long r3), (0, .ref (ad 1)), (1, .int x1), (2, .int x2), (3, .int x3)]) hx hb d_Co_noteInner_30 hl (by decide) rfl (fun ls hl => ?_)
          exact ih.2.2 hP hD hS (lv_sub hl [2, 3, 4, 5, 1, 0] rfl) (tq_gi hg hn)
      · intro x1 x2 x3 x6 y4 σ H locs ls hP hD hS hl h9
        obtain ⟨q9, hg, hn⟩ := tq_go_s h9 (show ¬ (32 : Nat) = tq_rt by decide)
        replace hg : bk_Co_noteInner_32 [x1, x2, x3, x6] [y4] σ = some q9 := hg
        unfold bk_Co_noteInner_32 at hg
        refine lv_iload hx hb d_Co_noteInner_32 (lv_at hl 5 rfl) ?_
        refine lv_bipush (v := 64) hx hb d_Co_noteInner_34 (by decide) ?_
        refine lv_icmp_ge (tgt := 77) hx hb d_Co_noteInner_36 (by decide) (fun c7 => ?_) (fun c7 => ?_)
        · replace hg := tq_if_t c7 hg
          obtain ⟨v8, ev8, hg⟩ := tq_lj_s hg
          refine lv_iinc (v := v8) (lv' := [(3, .int v8), (0, .ref (ad 1)), (1, .int x1), (2, .int x2), (4, .long y4), (6, .int x6)]) hx hb d_Co_noteInner_77 hl (k := 3) rfl (by rw [ev8]; rfl) (by decide) rfl (fun ls hl => ?_)
          refine lv_goto (tgt := 2) hx hb d_Co_noteInner_80 (by decide) ?_
          exact ih.2.1 hP hD hS (lv_sub hl [1, 2, 3, 0] rfl) (tq_gi hg hn)
        · replace hg := tq_if_f c7 hg
          refine lv_aload_n hx hb d_Co_noteInner_39 rfl (lv_at hl 0 rfl) ?_
          refine va_get (D := (dC, dI)) (ci := 1) (v := .ref (ad 12)) (C := "TableauNodes$Concepts") (T := F_Co) (N := 9) hx hb hts in_Co hown hK hP 0 rfl rfl 6 (by decide) (hts _ tw_69) (fun _ h9 => h9) rfl d_Co_noteInner_40 ?_
          refine lv_iload_n hx hb d_Co_noteInner_43 rfl (lv_at hl 3 rfl) ?_
          refine lv_bipush (v := 64) hx hb d_Co_noteInner_44 (by decide) ?_
          refine lv_imul hx hb d_Co_noteInner_46 ?_
          refine lv_iload hx hb d_Co_noteInner_47 (lv_at hl 5 rfl) ?_
          refine lv_iadd hx hb d_Co_noteInner_49 ?_
          refine lv_dup2_11 hx hb d_Co_noteInner_50 rfl rfl ?_
          obtain ⟨g9, hg⟩ := tq_gd_s hg
          refine va_iald hx hb hK hP 7 0 rfl rfl g9 d_Co_noteInner_51 ?_
          refine lv_lload hx hb d_Co_noteInner_52 (lv_at hl 4 rfl) ?_
          refine lv_iload hx hb d_Co_noteInner_54 (lv_at hl 5 rfl) ?_
          obtain ⟨r11, σ12, f10, hg⟩ := tq_ob_s hg
          refine tq_aI (va_runSN (As := [.long y4, .int x6]) (rest := [.int (ia σ 4 ((x3 * 64) + x6)), .int ((x3 * 64) + x6), .ref (ad 12)]) ⟨hx, hb, hml, hown, hts⟩ (c_C_Tn_hasBit l dC dI cI cL cZ ad tt H.size σ x6 y4 r11 σ12 f10) ⟨va_cnB 2 hts (tq_gC tw_62) rfl rfl rfl (hN _ (List.mem_of_getElem? (i := 0) rfl)) (hts _ tw_1) (by decide +kernel) ⟨Nat.le_of_ble_eq_true rfl, Nat.le_of_ble_eq_true rfl⟩, hts _ tw_61, trivial⟩ ⟨tq_bl, (tq_pr hP hK hD hS hA hZ hN)⟩ rfl rfl hl.1 rfl (lv_room (Nat.le_of_ble_eq_true rfl)) d_Co_noteInner_56 ⟨Nat.zero_le _, Nat.zero_le _⟩) hD hS hA (fun H locs hP hD hS => ?_)
          refine lv_if_eq (tgt := 68) hx hb d_Co_noteInner_59 (by decide) (fun c13 => ?_) (fun c13 => ?_)
          · replace hg := tq_if_t c13 hg
            refine lv_iconst (v := 0) hx hb d_Co_noteInner_68 (by decide) ?_
            refine lv_ior hx hb d_Co_noteInner_69 ?_
            obtain ⟨g14, hg⟩ := tq_gd_s hg
            refine va_iast hx hb hK hP hD hS 7 0 rfl rfl g14 d_Co_noteInner_70 (fun H locs hP hD hS => ?_)
            obtain ⟨σ15, eσ15, hg⟩ := tq_lj_s hg
            replace hP : va_P (dC, dI) tq_cl (woC cI cL cZ ad σ15) H := by rw [eσ15, ← wsC_i4]; exact hP
            replace hD : va_D A (woC cI cL cZ ad σ15) := by rw [eσ15, ← wsC_i4]; exact hD
            obtain ⟨v16, ev16, hg⟩ := tq_lj_s hg
            refine lv_iinc (v := v16) (lv' := [(6, .int v16), (0, .ref (ad 1)), (1, .int x1), (2, .int x2), (3, .int x3), (4, .long y4)]) hx hb d_Co_noteInner_71 hl (k := 5) rfl (by rw [ev16]; rfl) (by decide) rfl (fun ls hl => ?_)
            refine lv_goto (tgt := 32) hx hb d_Co_noteInner_74 (by decide) ?_
            exact ih.2.2 hP hD hS (lv_sub hl [1, 2, 3, 4, 5, 0] rfl) (tq_gi hg hn)
          · replace hg := tq_if_f c13 hg
            refine lv_iconst (v := 1) hx hb d_Co_noteInner_62 (by decide) ?_
            refine lv_iload_n hx hb d_Co_noteInner_63 rfl (lv_at hl 1 rfl) ?_
            refine lv_ishl hx hb d_Co_noteInner_64 ?_
            refine lv_goto (tgt := 69) hx hb d_Co_noteInner_65 (by decide) ?_
            refine lv_ior hx hb d_Co_noteInner_69 ?_
            obtain ⟨g17, hg⟩ := tq_gd_s hg
            refine va_iast hx hb hK hP hD hS 7 0 rfl rfl g17 d_Co_noteInner_70 (fun H locs hP hD hS => ?_)
            obtain ⟨σ18, eσ18, hg⟩ := tq_lj_s hg
            replace hP : va_P (dC, dI) tq_cl (woC cI cL cZ ad σ18) H := by rw [eσ18, ← wsC_i4]; exact hP
            replace hD : va_D A (woC cI cL cZ ad σ18) := by rw [eσ18, ← wsC_i4]; exact hD
            obtain ⟨v19, ev19, hg⟩ := tq_lj_s hg
            refine lv_iinc (v := v19) (lv' := [(6, .int v19), (0, .ref (ad 1)), (1, .int x1), (2, .int x2), (3, .int x3), (4, .long y4)]) hx hb d_Co_noteInner_71 hl (k := 5) rfl (by rw [ev19]; rfl) (by decide) rfl (fun ls hl => ?_)
            refine lv_goto (tgt := 32) hx hb d_Co_noteInner_74 (by decide) ?_
            exact ih.2.2 hP hD hS (lv_sub hl [1, 2, 3, 4, 5, 0] rfl) (tq_gi hg hn)
  exact (key n0).1 hP hD hS hl h0
set_option maxHeartbeats 40000000 in
set_option maxRecDepth 100000 in
theorem c_C_Co_addAtom (l : Launch) (dC : Nat → ClassId) (dI : Nat → Nat → Nat) (cI cL cZ : ClassId) (ad : Nat → Nat) (tt : Nat) (sz : Nat) (σ : tq_S) (a1 : Int32) (σ' : tq_S) (hf : tq_fV st_Co_addAtom (0, [a1], [], σ) = some ((), σ')) : Met l y_Co_addAtom w_Co_addAtom ({ frames := 2, cells := 0, slots := 0, locals := 49 } : Room) (va_Pc [.ref (ad 1), .int a1] (tq_B dC dI cI cL cZ tt (woC cI cL cZ ad σ) sz)) (va_Qv (fun (u : tq_S) => u = σ') (tq_E dC dI cI cL cZ (woC cI cL cZ ad) (va_A (woC cI cL cZ ad σ) sz)) (va_A (woC cI cL cZ ad σ) sz)) 0 0 (va_A (woC cI cL cZ ad σ) sz) := by
  obtain ⟨n0, h0⟩ := tq_fV_to hf
  refine Met.ofW (cc := prog_2_method_21_code) (maxL := 3) (ret := none) (by decide) rfl ?_
  intro p e s m args below meth c s₁ B hml hv
  obtain ⟨rfl, hsz, hP, hK, hD0, hZ, hN⟩ := hv
  have hx := B.exec
  have hb := B.bytes
  have hr := B.returns
  have hts : ∀ w ∈ tq_T, w.before _ s = true := fun w h => atoms_spec (ws := w_Co_addAtom) B.pre w (List.mem_cons_of_mem _ h)
  have hown : s.vm.findClass "TableauNodes$Concepts" = some m.cls := findClass_of_methodNamed B.named
  have hlocks := B.notSynchronized
  subst hsz
  have hD := hD0.self (sz := s.heap.size)
  have hS : va_S (va_A (woC cI cL cZ ad σ) s.heap.size) s.heap s.heap [] := va_S.rf
  have hA : ∀ q : Nat, s.heap.size ≤ q → va_A (woC cI cL cZ ad σ) s.heap.size q := fun q h => Or.inr h
  generalize va_A (woC cI cL cZ ad σ) s.heap.size = A at hD hS hA hZ ⊢
  have hl := lv_entry ([.ref (ad 1), .int a1]) (n := 3) (Nat.le_of_ble_eq_true rfl)
  rw [lg_entry_eq]
  generalize (lg_sl ([.ref (ad 1), .int a1]) ++ List.replicate (3 - (lg_sl ([.ref (ad 1), .int a1])).length) Slot.unset).toArray = ls at hl ⊢
  have hl : lv_has ls 3 [(0, .ref (ad 1)), (1, .int a1)] := hl
  have key : ∀ n : Nat, (∀ {x1 : Int32} {σ : tq_S} {H : Heap} {locs : List Loc} {ls : Array Slot}, va_P (dC, dI) tq_cl (woC cI cL cZ ad σ) H → va_D A (woC cI cL cZ ad σ) → va_S A s.heap H locs → lv_has ls 3 [(0, .ref (ad 1)), (1, .int x1)] → tq_go st_Co_addAtom n (0, [x1], [], σ) = some (tq_rt, [], [], σ') → W p l e (headSpec w_Co_addAtom ({ frames := 2, cells := 0, slots := 0, locals := 49 } : Room)).room s m ([.ref (ad 1), .int a1] : List Value).toArray below meth c H locs 0 0 (MQ below (va_Qv (fun (u : tq_S) => u = σ') (tq_E dC dI cI cL cZ (woC cI cL cZ ad) A) A) ([.ref (ad 1), .int a1] : List Value).toArray s 0 0 A) (F0 m 0 ls [])) := by
    intro n
    induction n with
    | zero => exact fun _ _ _ _ h => by cases h
    | succ n ih =>
      intro x1 σ H locs ls hP hD hS hl h9
      obtain ⟨q9, hg, hn⟩ := tq_go_s h9 (show ¬ (0 : Nat) = tq_rt by decide)
      replace hg : bk_Co_addAtom_0 [x1] [] σ = some q9 := hg
      unfold bk_Co_addAtom_0 at hg
      refine lv_aload_n hx hb d_Co_addAtom_0 rfl (lv_at hl 0 rfl) ?_
      refine va_get (D := (dC, dI)) (ci := 1) (v := .int (σ.2.2 1)) (C := "TableauNodes$Concepts") (T := F_Co) (N := 9) hx hb hts in_Co hown hK hP 0 rfl rfl 8 (by decide) (hts _ tw_71) (fun _ h9 => h9) rfl d_Co_addAtom_1 ?_
      obtain ⟨v1, ev1, hg⟩ := tq_lj_s hg
      refine tq_nmi ev1 ?_
      refine lv_istore_n (lv' := [(2, .int v1), (0, .ref (ad 1)), (1, .int x1)]) hx hb d_Co_addAtom_4 rfl hl (by decide) rfl (fun ls hl => ?_)
      refine lv_aload_n hx hb d_Co_addAtom_5 rfl (lv_at hl 1 rfl) ?_
      refine va_get (D := (dC, dI)) (ci := 1) (v := .ref (ad 10)) (C := "TableauNodes$Concepts") (T := F_Co) (N := 9) hx hb hts in_Co hown hK hP 0 rfl rfl 4 (by decide) (hts _ tw_67) (fun _ h9 => h9) rfl d_Co_addAtom_6 ?_
      refine lv_iload_n hx hb d_Co_addAtom_9 rfl (lv_at hl 0 rfl) ?_
      refine lv_iload_n hx hb d_Co_addAtom_10 rfl (lv_at hl 2 rfl) ?_
      obtain ⟨g2, hg⟩ := tq_gd_s hg
      refine va_iast hx hb hK hP hD hS 5 0 rfl rfl g2 d_Co_addAtom_11 (fun H locs hP hD hS => ?_)
      obtain ⟨σ3, eσ3, hg⟩ := tq_lj_s hg
      replace hP : va_P (dC, dI) tq_cl (woC cI cL cZ ad σ3) H := by rw [eσ3, ← wsC_i3]; exact hP
      replace hD : va_D A (woC cI cL cZ ad σ3) := by rw [eσ3, ← wsC_i3]; exact hD
      refine lv_aload_n hx hb d_Co_addAtom_12 rfl (lv_at hl 1 rfl) ?_
      refine lv_dup hx hb d_Co_addAtom_13 rfl ?_
      refine va_get (D := (dC, dI)) (ci := 1) (v := .int (σ3.2.2 1)) (C := "TableauNodes$Concepts") (T := F_Co) (N := 9) hx hb hts in_Co hown hK hP 0 rfl rfl 8 (by decide) (hts _ tw_71) (fun _ h9 => h9) rfl d_Co_addAtom_14 ?_
      refine lv_iconst (v := 1) hx hb d_Co_addAtom_17 (by decide) ?_
      refine lv_iadd hx hb d_Co_addAtom_18 ?_
      refine va_put (D := (dC, dI)) (ci := 1) (v := .int ((σ3.2.2 1) + 1)) (ty := .int) (C := "TableauNodes$Concepts") (T := F_Co) (N := 9) hx hb hts in_Co ty_Co tk_Co nm_Co hown hK hP hD hS 0 rfl rfl 8 (by decide) (hts _ tw_71) (fun _ h9 => h9) rfl (by decide +kernel) rfl rfl (Nat.le_of_ble_eq_true rfl) d_Co_addAtom_19 (fun H locs hP hD hS => ?_)
      obtain ⟨σ4, eσ4, hg⟩ := tq_lj_s hg
      replace hP : va_P (dC, dI) tq_cl (woC cI cL cZ ad σ4) H := by rw [eσ4, ← wsC_f1]; exact hP
      replace hD : va_D A (woC cI cL cZ ad σ4) := by rw [eσ4, ← wsC_f1]; exact hD
      refine lv_aload_n hx hb d_Co_addAtom_22 rfl (lv_at hl 1 rfl) ?_
      refine va_get (D := (dC, dI)) (ci := 1) (v := .ref (ad 6)) (C := "TableauNodes$Concepts") (T := F_Co) (N := 9) hx hb hts in_Co hown hK hP 0 rfl rfl 0 (by decide) (hts _ tw_63) (fun _ h9 => h9) rfl d_Co_addAtom_23 ?_
      refine lv_iload_n hx hb d_Co_addAtom_26 rfl (lv_at hl 2 rfl) ?_
      obtain ⟨g5, hg⟩ := tq_gd_s hg
      refine va_iald hx hb hK hP 1 0 rfl rfl g5 d_Co_addAtom_27 ?_
      refine lv_bipush (v := 6) hx hb d_Co_addAtom_28 (by decide) ?_
      refine lv_icmp_ne (tgt := 44) hx hb d_Co_addAtom_30 (by decide) (fun c6 => ?_) (fun c6 => ?_)
      · replace hg := tq_if_t c6 hg
        exact W.vret hx hb hr (fun t ht hW => ⟨⟨σ4, rfl, tq_grV hg hn, by rw [ht]; exact hP, va_K.moved hW.alike hK, hD⟩, hS.F ht⟩) hS.2.2 d_Co_addAtom_44
      · replace hg := tq_if_n c6 hg
        refine lv_aload_n hx hb d_Co_addAtom_33 rfl (lv_at hl 1 rfl) ?_
        refine lv_iload_n hx hb d_Co_addAtom_34 rfl (lv_at hl 0 rfl) ?_
        refine lv_aload_n hx hb d_Co_addAtom_35 rfl (lv_at hl 1 rfl) ?_
        refine va_get (D := (dC, dI)) (ci := 1) (v := .ref (ad 8)) (C := "TableauNodes$Concepts") (T := F_Co) (N := 9) hx hb hts in_Co hown hK hP 0 rfl rfl 2 (by decide) (hts _ tw_65) (fun _ h9 => h9) rfl d_Co_addAtom_36 ?_
        refine lv_iload_n hx hb d_Co_addAtom_39 rfl (lv_at hl 2 rfl) ?_
        obtain ⟨g7, hg⟩ := tq_gd_s hg
        refine va_iald hx hb hK hP 3 0 rfl rfl g7 d_Co_addAtom_40 ?_
        obtain ⟨⟨⟩, σ10, f8, hg⟩ := tq_ob_s hg
        refine tq_aV (va_runV (As := [.int v1, .int (ia σ4 2 x1)]) (rest := []) ⟨hx, hb, hml, hown, hts⟩ (c_C_Co_noteInner l dC dI cI cL cZ ad tt H.size σ4 v1 (ia σ4 2 x1)   σ10 f8) (cwV 2 hts (tq_gV tw_56 tw_58 ts_4 tw_2 tw_59) rfl rfl rfl (by decide +kernel) ⟨Nat.le_of_ble_eq_true rfl, Nat.le_of_ble_eq_true rfl⟩) ⟨tq_bl, va_recv hK hP (ci := 1) (q0 := 0) rfl rfl, (tq_pr hP hK hD hS hA hZ hN)⟩ rfl rfl hl.1 rfl (lv_room (Nat.le_of_ble_eq_true rfl)) d_Co_addAtom_41 ⟨Nat.zero_le _, Nat.zero_le _⟩) hD hS hA (fun H locs hP hD hS => ?_)
        exact W.vret hx hb hr (fun t ht hW => ⟨⟨σ10, rfl, tq_grV hg hn, by rw [ht]; exact hP, va_K.moved hW.alike hK, hD⟩, hS.F ht⟩) hS.2.2 d_Co_addAtom_44
  exact (key n0) hP hD hS hl h0
set_option maxHeartbeats 40000000 in
set_option maxRecDepth 100000 in
theorem c_C_Co_add (l : Launch) (dC : Nat → ClassId) (dI : Nat → Nat → Nat) (cI cL cZ : ClassId) (ad : Nat → Nat) (tt : Nat) (sz : Nat) (σ : tq_S) (a1 : Int32) (a2 : Int32) (a3 : Int32) (r : Int32) (σ' : tq_S) (hf : tq_fI st_Co_add (0, [a1, a2, a3], [], σ) = some (r, σ')) : Met l y_Co_add w_Co_add ({ frames := 3, cells := 0, slots := 0, locals := 71 } : Room) (va_Pc [.ref (ad 1), .int a1, .int a2, .int a3] (tq_B dC dI cI cL cZ tt (woC cI cL cZ ad σ) sz)) (va_Qi (fun (r' : Int32) (u : tq_S) => r' = r ∧ u = σ') (tq_E dC dI cI cL cZ (woC cI cL cZ ad) (va_A (woC cI cL cZ ad σ) sz)) (va_A (woC cI cL cZ ad σ) sz)) 0 0 (va_A (woC cI cL cZ ad σ) sz) := by
  obtain ⟨n0, h0⟩ := tq_fI_to hf
  refine Met.ofW (cc := prog_2_method_19_code) (maxL := 8) (ret := (some .int)) (by decide) rfl ?_
  intro p e s m args below meth c s₁ B hml hv
  obtain ⟨rfl, hsz, hP, hK, hD0, hZ, hN⟩ := hv
  have hx := B.exec
  have hb := B.bytes
  have hr := B.returns
  have hts : ∀ w ∈ tq_T, w.before _ s = true := fun w h => atoms_spec (ws := w_Co_add) B.pre w (List.mem_cons_of_mem _ h)
  have hown : s.vm.findClass "TableauNodes$Concepts" = some m.cls := findClass_of_methodNamed B.named
  have hlocks := B.notSynchronized
  subst hsz
  have hD := hD0.self (sz := s.heap.size)
  have hS : va_S (va_A (woC cI cL cZ ad σ) s.heap.size) s.heap s.heap [] := va_S.rf
  have hA : ∀ q : Nat, s.heap.size ≤ q → va_A (woC cI cL cZ ad σ) s.heap.size q := fun q h => Or.inr h
  generalize va_A (woC cI cL cZ ad σ) s.heap.size = A at hD hS hA hZ ⊢
  have hl := lv_entry ([.ref (ad 1), .int a1, .int a2, .int a3]) (n := 8) (Nat.le_of_ble_eq_true rfl)
  rw [lg_entry_eq]
  generalize (lg_sl ([.ref (ad 1), .int a1, .int a2, .int a3]) ++ List.replicate (8 - (lg_sl ([.ref (ad 1), .int a1, .int a2, .int a3])).length) Slot.unset).toArray = ls at hl ⊢
  have hl : lv_has ls 8 [(0, .ref (ad 1)), (1, .int a1), (2, .int a2), (3, .int a3)] := hl
  have key : ∀ n : Nat, (∀ {x1 x2 x3 : Int32} {σ : tq_S} {H : Heap} {locs : List Loc} {ls : Array Slot}, va_P (dC, dI) tq_cl (woC cI cL cZ ad σ) H → va_D A (woC cI cL cZ ad σ) → va_S A s.heap H locs → lv_has ls 8 [(0, .ref (ad 1)), (1, .int x1), (2, .int x2), (3, .int x3)] → tq_go st_Co_add n (0, [x1, x2, x3], [], σ) = some (tq_rt, [r], [], σ') → W p l e (headSpec w_Co_add ({ frames := 3, cells := 0, slots := 0, locals := 71 } : Room)).room s m ([.ref (ad 1), .int a1, .int a2, .int a3] : List Value).toArray below meth c H locs 0 0 (MQ below (va_Qi (fun (r' : Int32) (u : tq_S) => r' = r ∧ u = σ') (tq_E dC dI cI cL cZ (woC cI cL cZ ad) A) A) ([.ref (ad 1), .int a1, .int a2, .int a3] : List Value).toArray s 0 0 A) (F0 m 0 ls [])) ∧ (∀ {x1 x2 x3 : Int32} {σ : tq_S} {H : Heap} {locs : List Loc} {ls : Array Slot}, va_P (dC, dI) tq_cl (woC cI cL cZ ad σ) H → va_D A (woC cI cL cZ ad σ) → va_S A s.heap H locs → lv_has ls 8 [(0, .ref (ad 1)), (1, .int x1), (2, .int x2), (3, .int x3)] → tq_go st_Co_add n (11, [x1, x2, x3], [], σ) = some (tq_rt, [r], [], σ') → W p l e (headSpec w_Co_add ({ frames := 3, cells := 0, slots := 0, locals := 71 } : Room)).room s m ([.ref (ad 1), .int a1, .int a2, .int a3] : List Value).toArray below meth c H locs 0 0 (MQ below (va_Qi (fun (r' : Int32) (u : tq_S) => r' = r ∧ u = σ') (tq_E dC dI cI cL cZ (woC cI cL cZ ad) A) A) ([.ref (ad 1), .int a1, .int a2, .int a3] : List Value).toArray s 0 0 A) (F0 m 11 ls [])) ∧ (∀ {x1 x2 x3 x4 : Int32} {σ : tq_S} {H : Heap} {locs : List Loc} {ls : Array Slot}, va_P (dC, dI) tq_cl (woC cI cL cZ ad σ) H → va_D A (woC cI cL cZ ad σ) → va_S A s.heap H locs → lv_has ls 8 [(0, .ref (ad 1)), (1, .int x1), (2, .int x2), (3, .int x3), (4, .int x4)] → tq_go st_Co_add n (44, [x1, x2, x3, x4], [], σ) = some (tq_rt, [r], [], σ') → W p l e (headSpec w_Co_add ({ frames := 3, cells := 0, slots := 0, locals := 71 } : Room)).room s m ([.ref (ad 1), .int a1, .int a2, .int a3] : List Value).toArray below meth c H locs 0 0 (MQ below (va_Qi (fun (r' : Int32) (u : tq_S) => r' = r ∧ u = σ') (tq_E dC dI cI cL cZ (woC cI cL cZ ad) A) A) ([.ref (ad 1), .int a1, .int a2, .int a3] : List Value).toArray s 0 0 A) (F0 m 44 ls [])) ∧ (∀ {x1 x3 x4 x5 x6 x7 : Int32} {σ : tq_S} {H : Heap} {locs : List Loc} {ls : Array Slot}, va_P (dC, dI) tq_cl (woC cI cL cZ ad σ) H → va_D A (woC cI cL cZ ad σ) → va_S A s.heap H locs → lv_has ls 8 [(0, .ref (ad 1)), (1, .int x1), (3, .int x3), (4, .int x4), (5, .int x5), (6, .int x6), (7, .int x7)] → tq_go st_Co_add n (103, [x1, x3, x4, x5, x6, x7], [], σ) = some (tq_rt, [r], [], σ') → W p l e (headSpec w_Co_add ({ frames := 3, cells := 0, slots := 0, locals := 71 } : Room)).room s m ([.ref (ad 1), .int a1, .int a2, .int a3] : List Value).toArray below meth c H locs 0 0 (MQ below (va_Qi (fun (r' : Int32) (u : tq_S) => r' = r ∧ u = σ') (tq_E dC dI cI cL cZ (woC cI cL cZ ad) A) A) ([.ref (ad 1), .int a1, .int a2, .int a3] : List Value).toArray s 0 0 A) (F0 m 103 ls [])) := by
    intro n
    induction n with
    | zero => exact ⟨(fun _ _ _ _ h => by cases h), (fun _ _ _ _ h => by cases h), (fun _ _ _ _ h => by cases h), (fun _ _ _ _ h => by cases h)⟩
    | succ n ih =>
      refine ⟨?_, ?_, ?_, ?_⟩
      · intro x1 x2 x3 σ H locs ls hP hD hS hl h9
        obtain ⟨q9, hg, hn⟩ := tq_go_s h9 (show ¬ (0 : Nat) = tq_rt by decide)
        replace hg : bk_Co_add_0 [x1, x2, x3] [] σ = some q9 := hg
        unfold bk_Co_add_0 at hg
        refine lv_iload_n hx hb d_Co_add_0 rfl (lv_at hl 1 rfl) ?_
        refine lv_iconst (v := 2) hx hb d_Co_add_1 (by decide) ?_
        refine lv_icmp_eq (tgt := 11) hx hb d_Co_add_2 (by decide) (fun c1 => ?_) (fun c1 => ?_)
        · replace hg := tq_if_t c1 hg
          exact ih.2.1 hP hD hS (lv_sub hl [0, 1, 2, 3] rfl) (tq_gi hg hn)
        · replace hg := tq_if_f c1 hg
          refine lv_iload_n hx hb d_Co_add_5 rfl (lv_at hl 1 rfl) ?_
          refine lv_bipush (v := 6) hx hb d_Co_add_6 (by decide) ?_
          refine lv_icmp_ne (tgt := 15) hx hb d_Co_add_8 (by decide) (fun c2 => ?_) (fun c2 => ?_)
          · replace hg := tq_if_t c2 hg
            refine lv_iconst (v := 0) hx hb d_Co_add_15 (by decide) ?_
            refine lv_istore (lv' := [(4, .int 0), (0, .ref (ad 1)), (1, .int x1), (2, .int x2), (3, .int x3)]) hx hb d_Co_add_16 hl (by decide) rfl (fun ls hl => ?_)
            refine lv_aload_n hx hb d_Co_add_18 rfl (lv_at hl 1 rfl) ?_
            refine va_get (D := (dC, dI)) (ci := 1) (v := .int (σ.2.2 0)) (C := "TableauNodes$Concepts") (T := F_Co) (N := 9) hx hb hts in_Co hown hK hP 0 rfl rfl 7 (by decide) (hts _ tw_70) (fun _ h9 => h9) rfl d_Co_add_19 ?_
            refine lv_bipush (v := 80) hx hb d_Co_add_22 (by decide) ?_
            refine lv_icmp_ge (tgt := 41) hx hb d_Co_add_24 (by decide) (fun c3 => ?_) (fun c3 => ?_)
            · replace hg := tq_if_t c3 hg
              refine lv_bipush (v := (-3)) hx hb d_Co_add_41 (by decide) ?_
              exact W.iret (v := (-3)) hx hb hr (fun t ht hW => ⟨⟨(-3), σ, rfl, tq_grI hg hn, by rw [ht]; exact hP, va_K.moved hW.alike hK, hD⟩, hS.F ht⟩) hS.2.2 d_Co_add_43
            · replace hg := tq_if_f c3 hg
              refine lv_iload hx hb d_Co_add_27 (lv_at hl 0 rfl) ?_
              refine lv_if_eq (tgt := 44) hx hb d_Co_add_29 (by decide) (fun _ => ?_) (fun c => False.elim (by revert c; decide))
              exact ih.2.2.1 hP hD hS (lv_sub hl [1, 2, 3, 4, 0] rfl) (tq_gi hg hn)
          · replace hg := tq_if_n c2 hg
            exact ih.2.1 hP hD hS (lv_sub hl [0, 1, 2, 3] rfl) (tq_gi hg hn)
      · intro x1 x2 x3 σ H locs ls hP hD hS hl h9
        obtain ⟨q9, hg, hn⟩ := tq_go_s h9 (show ¬ (11 : Nat) = tq_rt by decide)
        replace hg : bk_Co_add_11 [x1, x2, x3] [] σ = some q9 := hg
        unfold bk_Co_add_11 at hg
        refine lv_iconst (v := 1) hx hb d_Co_add_11 (by decide) ?_
        refine lv_goto (tgt := 16) hx hb d_Co_add_12 (by decide) ?_
        refine lv_istore (lv' := [(4, .int 1), (0, .ref (ad 1)), (1, .int x1), (2, .int x2), (3, .int x3)]) hx hb d_Co_add_16 hl (by decide) rfl (fun ls hl => ?_)
        refine lv_aload_n hx hb d_Co_add_18 rfl (lv_at hl 1 rfl) ?_
        refine va_get (D := (dC, dI)) (ci := 1) (v := .int (σ.2.2 0)) (C := "TableauNodes$Concepts") (T := F_Co) (N := 9) hx hb hts in_Co hown hK hP 0 rfl rfl 7 (by decide) (hts _ tw_70) (fun _ h9 => h9) rfl d_Co_add_19 ?_
        refine lv_bipush (v := 80) hx hb d_Co_add_22 (by decide) ?_
        refine lv_icmp_ge (tgt := 41) hx hb d_Co_add_24 (by decide) (fun c5 => ?_) (fun c5 => ?_)
        · replace hg := tq_if_t c5 hg
          refine lv_bipush (v := (-3)) hx hb d_Co_add_41 (by decide) ?_
          exact W.iret (v := (-3)) hx hb hr (fun t ht hW => ⟨⟨(-3), σ, rfl, tq_grI hg hn, by rw [ht]; exact hP, va_K.moved hW.alike hK, hD⟩, hS.F ht⟩) hS.2.2 d_Co_add_43
        · replace hg := tq_if_f c5 hg
          refine lv_iload hx hb d_Co_add_27 (lv_at hl 0 rfl) ?_
          refine lv_if_eq (tgt := 44) hx hb d_Co_add_29 (by decide) (fun c => False.elim (by revert c; decide)) (fun _ => ?_)
          refine lv_aload_n hx hb d_Co_add_32 rfl (lv_at hl 1 rfl) ?_
          refine va_get (D := (dC, dI)) (ci := 1) (v := .int (σ.2.2 1)) (C := "TableauNodes$Concepts") (T := F_Co) (N := 9) hx hb hts in_Co hown hK hP 0 rfl rfl 8 (by decide) (hts _ tw_71) (fun _ h9 => h9) rfl d_Co_add_33 ?_
          refine lv_bipush (v := 10) hx hb d_Co_add_36 (by decide) ?_
          refine lv_icmp_lt (tgt := 44) hx hb d_Co_add_38 (by decide) (fun c7 => ?_) (fun c7 => ?_)
          · replace hg := tq_if_t c7 hg
            exact ih.2.2.1 hP hD hS (lv_sub hl [1, 2, 3, 4, 0] rfl) (tq_gi hg hn)
          · replace hg := tq_if_f c7 hg
            refine lv_bipush (v := (-3)) hx hb d_Co_add_41 (by decide) ?_
            exact W.iret (v := (-3)) hx hb hr (fun t ht hW => ⟨⟨(-3), σ, rfl, tq_grI hg hn, by rw [ht]; exact hP, va_K.moved hW.alike hK, hD⟩, hS.F ht⟩) hS.2.2 d_Co_add_43
      · intro x1 x2 x3 x4 σ H locs ls hP hD hS hl h9
        obtain ⟨q9, hg, hn⟩ := tq_go_s h9 (show ¬ (44 : Nat) = tq_rt by decide)
        replace hg : bk_Co_add_44 [x1, x2, x3, x4] [] σ = some q9 := hg
        unfold bk_Co_add_44 at hg
        refine lv_aload_n hx hb d_Co_add_44 rfl (lv_at hl 0 rfl) ?_
        refine va_get (D := (dC, dI)) (ci := 1) (v := .int (σ.2.2 0)) (C := "TableauNodes$Concepts") (T := F_Co) (N := 9) hx hb hts in_Co hown hK hP 0 rfl rfl 7 (by decide) (hts _ tw_70) (fun _ h9 => h9) rfl d_Co_add_45 ?_
        obtain ⟨v8, ev8, hg⟩ := tq_lj_s hg
        refine tq_nmi ev8 ?_
        refine lv_istore (lv' := [(5, .int v8), (0, .ref (ad 1)), (1, .int x1), (2, .int x2), (3, .int x3), (4, .int x4)]) hx hb d_Co_add_48 hl (by decide) rfl (fun ls hl => ?_)
        refine lv_aload_n hx hb d_Co_add_50 rfl (lv_at hl 1 rfl) ?_
        refine va_get (D := (dC, dI)) (ci := 1) (v := .ref (ad 6)) (C := "TableauNodes$Concepts") (T := F_Co) (N := 9) hx hb hts in_Co hown hK hP 0 rfl rfl 0 (by decide) (hts _ tw_63) (fun _ h9 => h9) rfl d_Co_add_51 ?_
        refine lv_iload hx hb d_Co_add_54 (lv_at hl 0 rfl) ?_
        refine lv_iload_n hx hb d_Co_add_56 rfl (lv_at hl 2 rfl) ?_
        obtain ⟨g9, hg⟩ := tq_gd_s hg
        refine va_iast hx hb hK hP hD hS 1 0 rfl rfl g9 d_Co_add_57 (fun H locs hP hD hS => ?_)
        obtain ⟨σ10, eσ10, hg⟩ := tq_lj_s hg
        replace hP : va_P (dC, dI) tq_cl (woC cI cL cZ ad σ10) H := by rw [eσ10, ← wsC_i0]; exact hP
        replace hD : va_D A (woC cI cL cZ ad σ10) := by rw [eσ10, ← wsC_i0]; exact hD
        refine lv_aload_n hx hb d_Co_add_58 rfl (lv_at hl 1 rfl) ?_
        refine va_get (D := (dC, dI)) (ci := 1) (v := .ref (ad 7)) (C := "TableauNodes$Concepts") (T := F_Co) (N := 9) hx hb hts in_Co hown hK hP 0 rfl rfl 1 (by decide) (hts _ tw_64) (fun _ h9 => h9) rfl d_Co_add_59 ?_
        refine lv_iload hx hb d_Co_add_62 (lv_at hl 0 rfl) ?_
        refine lv_iload_n hx hb d_Co_add_64 rfl (lv_at hl 3 rfl) ?_
        obtain ⟨g11, hg⟩ := tq_gd_s hg
        refine va_iast hx hb hK hP hD hS 2 0 rfl rfl g11 d_Co_add_65 (fun H locs hP hD hS => ?_)
        obtain ⟨σ12, eσ12, hg⟩ := tq_lj_s hg
        replace hP : va_P (dC, dI) tq_cl (woC cI cL cZ ad σ12) H := by rw [eσ12, ← wsC_i1]; exact hP
        replace hD : va_D A (woC cI cL cZ ad σ12) := by rw [eσ12, ← wsC_i1]; exact hD
        refine lv_aload_n hx hb d_Co_add_66 rfl (lv_at hl 1 rfl) ?_
        refine va_get (D := (dC, dI)) (ci := 1) (v := .ref (ad 8)) (C := "TableauNodes$Concepts") (T := F_Co) (N := 9) hx hb hts in_Co hown hK hP 0 rfl rfl 2 (by decide) (hts _ tw_65) (fun _ h9 => h9) rfl d_Co_add_67 ?_
        refine lv_iload hx hb d_Co_add_70 (lv_at hl 0 rfl) ?_
        refine lv_iload_n hx hb d_Co_add_72 rfl (lv_at hl 4 rfl) ?_
        obtain ⟨g13, hg⟩ := tq_gd_s hg
        refine va_iast hx hb hK hP hD hS 3 0 rfl rfl g13 d_Co_add_73 (fun H locs hP hD hS => ?_)
        obtain ⟨σ14, eσ14, hg⟩ := tq_lj_s hg
        replace hP : va_P (dC, dI) tq_cl (woC cI cL cZ ad σ14) H := by rw [eσ14, ← wsC_i2]; exact hP
        replace hD : va_D A (woC cI cL cZ ad σ14) := by rw [eσ14, ← wsC_i2]; exact hD
        refine lv_iload_n hx hb d_Co_add_74 rfl (lv_at hl 2 rfl) ?_
        refine lv_bipush (v := 7) hx hb d_Co_add_75 (by decide) ?_
        refine lv_icmp_ne (tgt := 97) hx hb d_Co_add_77 (by decide) (fun c15 => ?_) (fun c15 => ?_)
        · replace hg := tq_if_t c15 hg
          refine lv_iload_n hx hb d_Co_add_97 rfl (lv_at hl 3 rfl) ?_
          refine lv_istore (lv' := [(6, .int x2), (5, .int v8), (0, .ref (ad 1)), (1, .int x1), (2, .int x2), (3, .int x3), (4, .int x4)]) hx hb d_Co_add_98 hl (by decide) rfl (fun ls hl => ?_)
          refine lv_iconst (v := 0) hx hb d_Co_add_100 (by decide) ?_
          refine lv_istore (lv' := [(7, .int 0), (6, .int x2), (5, .int v8), (0, .ref (ad 1)), (1, .int x1), (2, .int x2), (3, .int x3), (4, .int x4)]) hx hb d_Co_add_101 hl (by decide) rfl (fun ls hl => ?_)
          exact ih.2.2.2 hP hD hS (lv_sub hl [3, 4, 6, 7, 2, 1, 0] rfl) (tq_gi hg hn)
        · replace hg := tq_if_n c15 hg
          refine lv_aload_n hx hb d_Co_add_80 rfl (lv_at hl 1 rfl) ?_
          refine lv_bipush (v := 6) hx hb d_Co_add_81 (by decide) ?_
          refine lv_iload_n hx hb d_Co_add_83 rfl (lv_at hl 3 rfl) ?_
          refine lv_aload_n hx hb d_Co_add_84 rfl (lv_at hl 1 rfl) ?_
          refine lv_iconst (v := 3) hx hb d_Co_add_85 (by decide) ?_
          refine lv_iload_n hx hb d_Co_add_86 rfl (lv_at hl 4 rfl) ?_
          refine lv_iconst (v := 0) hx hb d_Co_add_87 (by decide) ?_
          obtain ⟨r17, σ18, f16, hg⟩ := tq_ob_s hg
          refine tq_aI (va_runV (As := [.int 3, .int x3, .int 0]) (rest := [.int x2, .int 6, .ref (ad 1)]) ⟨hx, hb, hml, hown, hts⟩ (c_C_Co_find l dC dI cI cL cZ ad tt H.size σ14 3 x3 0  r17 σ18 f16) (cwV 3 hts (tq_gV tw_29 tw_31 ts_0 tw_2 tw_32) rfl rfl rfl (by decide +kernel) ⟨Nat.le_of_ble_eq_true rfl, Nat.le_of_ble_eq_true rfl⟩) ⟨tq_bl, va_recv hK hP (ci := 1) (q0 := 0) rfl rfl, (tq_pr hP hK hD hS hA hZ hN)⟩ rfl rfl hl.1 rfl (lv_room (Nat.le_of_ble_eq_true rfl)) d_Co_add_88 ⟨Nat.zero_le _, Nat.zero_le _⟩) hD hS hA (fun H locs hP hD hS => ?_)
          obtain ⟨r20, σ21, f19, hg⟩ := tq_ob_s hg
          refine tq_aI (va_runV (As := [.int 6, .int x2, .int r17]) (rest := []) ⟨hx, hb, hml, hown, hts⟩ (c_C_Co_find l dC dI cI cL cZ ad tt H.size σ18 6 x2 r17  r20 σ21 f19) (cwV 3 hts (tq_gV tw_29 tw_31 ts_0 tw_2 tw_32) rfl rfl rfl (by decide +kernel) ⟨Nat.le_of_ble_eq_true rfl, Nat.le_of_ble_eq_true rfl⟩) ⟨tq_bl, va_recv hK hP (ci := 1) (q0 := 0) rfl rfl, (tq_pr hP hK hD hS hA hZ hN)⟩ rfl rfl hl.1 rfl (lv_room (Nat.le_of_ble_eq_true rfl)) d_Co_add_91 ⟨Nat.zero_le _, Nat.zero_le _⟩) hD hS hA (fun H locs hP hD hS => ?_)
          refine lv_goto (tgt := 98) hx hb d_Co_add_94 (by decide) ?_
          refine lv_istore (lv' := [(6, .int r20), (5, .int v8), (0, .ref (ad 1)), (1, .int x1), (2, .int x2), (3, .int x3), (4, .int x4)]) hx hb d_Co_add_98 hl (by decide) rfl (fun ls hl => ?_)
          refine lv_iconst (v := 0) hx hb d_Co_add_100 (by decide) ?_
          refine lv_istore (lv' := [(7, .int 0), (6, .int r20), (5, .int v8), (0, .ref (ad 1)), (1, .int x1), (2, .int x2), (3, .int x3), (4, .int x4)]) hx hb d_Co_add_101 hl (by decide) rfl (fun ls hl => ?_)
          exact ih.2.2.2 hP hD hS (lv_sub hl [3, 4, 6, 7, 2, 1, 0] rfl) (tq_gi hg hn)
      · intro x1 x3 x4 x5 x6 x7 σ H locs ls hP hD hS hl h9
        obtain ⟨q9, hg, hn⟩ := tq_go_s h9 (show ¬ (103 : Nat) = tq_rt by decide)
        replace hg : bk_Co_add_103 [x1, x3, x4, x5, x6, x7] [] σ = some q9 := hg
        unfold bk_Co_add_103 at hg
        refine lv_iload hx hb d_Co_add_103 (lv_at hl 6 rfl) ?_
        refine lv_bipush (v := 16) hx hb d_Co_add_105 (by decide) ?_
        refine lv_icmp_ge (tgt := 139) hx hb d_Co_add_107 (by decide) (fun c22 => ?_) (fun c22 => ?_)
        · replace hg := tq_if_t c22 hg
          refine lv_aload_n hx hb d_Co_add_139 rfl (lv_at hl 0 rfl) ?_
          refine lv_dup hx hb d_Co_add_140 rfl ?_
          refine va_get (D := (dC, dI)) (ci := 1) (v := .int (σ.2.2 0)) (C := "TableauNodes$Concepts") (T := F_Co) (N := 9) hx hb hts in_Co hown hK hP 0 rfl rfl 7 (by decide) (hts _ tw_70) (fun _ h9 => h9) rfl d_Co_add_141 ?_
          refine lv_iconst (v := 1) hx hb d_Co_add_144 (by decide) ?_
          refine lv_iadd hx hb d_Co_add_145 ?_
          refine va_put (D := (dC, dI)) (ci := 1) (v := .int ((σ.2.2 0) + 1)) (ty := .int) (C := "TableauNodes$Concepts") (T := F_Co) (N := 9) hx hb hts in_Co ty_Co tk_Co nm_Co hown hK hP hD hS 0 rfl rfl 7 (by decide) (hts _ tw_70) (fun _ h9 => h9) rfl (by decide +kernel) rfl rfl (Nat.le_of_ble_eq_true rfl) d_Co_add_146 (fun H locs hP hD hS => ?_)
          obtain ⟨σ23, eσ23, hg⟩ := tq_lj_s hg
          replace hP : va_P (dC, dI) tq_cl (woC cI cL cZ ad σ23) H := by rw [eσ23, ← wsC_f0]; exact hP
          replace hD : va_D A (woC cI cL cZ ad σ23) := by rw [eσ23, ← wsC_f0]; exact hD
          refine lv_iload hx hb d_Co_add_149 (lv_at hl 3 rfl) ?_
          refine lv_if_eq (tgt := 160) hx hb d_Co_add_151 (by decide) (fun c24 => ?_) (fun c24 => ?_)
          · replace hg := tq_if_t c24 hg
            refine lv_iload hx hb d_Co_add_160 (lv_at hl 4 rfl) ?_
            exact W.iret (v := x5) hx hb hr (fun t ht hW => ⟨⟨x5, σ23, rfl, tq_grI hg hn, by rw [ht]; exact hP, va_K.moved hW.alike hK, hD⟩, hS.F ht⟩) hS.2.2 d_Co_add_162
          · replace hg := tq_if_f c24 hg
            refine lv_aload_n hx hb d_Co_add_154 rfl (lv_at hl 0 rfl) ?_
            refine lv_iload hx hb d_Co_add_155 (lv_at hl 4 rfl) ?_
            obtain ⟨⟨⟩, σ27, f25, hg⟩ := tq_ob_s hg
            refine tq_aV (va_runV (As := [.int x5]) (rest := []) ⟨hx, hb, hml, hown, hts⟩ (c_C_Co_addAtom l dC dI cI cL cZ ad tt H.size σ23 x5   σ27 f25) (cwV 1 hts (tq_gV tw_52 tw_54 ts_3 tw_2 tw_55) rfl rfl rfl (by decide +kernel) ⟨Nat.le_of_ble_eq_true rfl, Nat.le_of_ble_eq_true rfl⟩) ⟨tq_bl, va_recv hK hP (ci := 1) (q0 := 0) rfl rfl, (tq_pr hP hK hD hS hA hZ hN)⟩ rfl rfl hl.1 rfl (lv_room (Nat.le_of_ble_eq_true rfl)) d_Co_add_157 ⟨Nat.zero_le _, Nat.zero_le _⟩) hD hS hA (fun H locs hP hD hS => ?_)
            refine lv_iload hx hb d_Co_add_160 (lv_at hl 4 rfl) ?_
            exact W.iret (v := x5) hx hb hr (fun t ht hW => ⟨⟨x5, σ27, rfl, tq_grI hg hn, by rw [ht]; exact hP, va_K.moved hW.alike hK, hD⟩, hS.F ht⟩) hS.2.2 d_Co_add_162
        · replace hg := tq_if_f c22 hg
          refine lv_aload_n hx hb d_Co_add_110 rfl (lv_at hl 0 rfl) ?_
          refine va_get (D := (dC, dI)) (ci := 1) (v := .ref (ad 9)) (C := "TableauNodes$Concepts") (T := F_Co) (N := 9) hx hb hts in_Co hown hK hP 0 rfl rfl 3 (by decide) (hts _ tw_66) (fun _ h9 => h9) rfl d_Co_add_111 ?_
          refine lv_iload hx hb d_Co_add_114 (lv_at hl 4 rfl) ?_
          refine lv_bipush (v := 16) hx hb d_Co_add_116 (by decide) ?_
          refine lv_imul hx hb d_Co_add_118 ?_
          refine lv_iload hx hb d_Co_add_119 (lv_at hl 6 rfl) ?_
          refine lv_iadd hx hb d_Co_add_121 ?_
          refine lv_aload_n hx hb d_Co_add_122 rfl (lv_at hl 0 rfl) ?_
          refine lv_iload_n hx hb d_Co_add_123 rfl (lv_at hl 1 rfl) ?_
          refine lv_iload hx hb d_Co_add_124 (lv_at hl 5 rfl) ?_
          refine lv_iload_n hx hb d_Co_add_126 rfl (lv_at hl 2 rfl) ?_
          refine lv_iload hx hb d_Co_add_127 (lv_at hl 6 rfl) ?_
          obtain ⟨r29, σ30, f28, hg⟩ := tq_ob_s hg
          refine tq_aL (va_runV (As := [.int x1, .int x6, .int x3, .int x7]) (rest := [.int ((x5 * 16) + x7), .ref (ad 9)]) ⟨hx, hb, hml, hown, hts⟩ (c_C_Co_newWord l dC dI cI cL cZ ad tt H.size σ x1 x6 x3 x7  r29 σ30 f28) (cwV 4 hts (tq_gV tw_37 tw_39 ts_2 tw_2 tw_40) rfl rfl rfl (by decide +kernel) ⟨Nat.le_of_ble_eq_true rfl, Nat.le_of_ble_eq_true rfl⟩) ⟨tq_bl, va_recv hK hP (ci := 1) (q0 := 0) rfl rfl, (tq_pr hP hK hD hS hA hZ hN)⟩ rfl rfl hl.1 rfl (lv_room (Nat.le_of_ble_eq_true rfl)) d_Co_add_129 ⟨Nat.zero_le _, Nat.zero_le _⟩) hD hS hA (fun H locs hP hD hS => ?_)
          obtain ⟨g31, hg⟩ := tq_gd_s hg
          refine va_last hx hb hK hP hD hS 4 1 rfl rfl g31 d_Co_add_132 (fun H locs hP hD hS => ?_)
          obtain ⟨σ32, eσ32, hg⟩ := tq_lj_s hg
          replace hP : va_P (dC, dI) tq_cl (woC cI cL cZ ad σ32) H := by rw [eσ32, ← wsC_l0]; exact hP
          replace hD : va_D A (woC cI cL cZ ad σ32) := by rw [eσ32, ← wsC_l0]; exact hD
          obtain ⟨v33, ev33, hg⟩ := tq_lj_s hg
          refine lv_iinc (v := v33) (lv' := [(7, .int v33), (0, .ref (ad 1)), (1, .int x1), (3, .int x3), (4, .int x4), (5, .int x5), (6, .int x6)]) hx hb d_Co_add_133 hl (k := 6) rfl (by rw [ev33]; rfl) (by decide) rfl (fun ls hl => ?_)
          refine lv_goto (tgt := 103) hx hb d_Co_add_136 (by decide) ?_
          exact ih.2.2.2 hP hD hS (lv_sub hl [1, 2, 3, 4, 5, 6, 0] rfl) (tq_gi hg hn)
  exact (key n0).1 hP hD hS hl h0
set_option maxHeartbeats 40000000 in
set_option maxRecDepth 100000 in
theorem c_C_Co_make (l : Launch) (dC : Nat → ClassId) (dI : Nat → Nat → Nat) (cI cL cZ : ClassId) (ad : Nat → Nat) (tt : Nat) (sz : Nat) (σ : tq_S) (a1 : Int32) (a2 : Int32) (a3 : Int32) (r : Int32) (σ' : tq_S) (hf : tq_fI st_Co_make (0, [a1, a2, a3], [], σ) = some (r, σ')) : Met l y_Co_make w_Co_make ({ frames := 4, cells := 0, slots := 0, locals := 98 } : Room) (va_Pc [.ref (ad 1), .int a1, .int a2, .int a3] (tq_B dC dI cI cL cZ tt (woC cI cL cZ ad σ) sz)) (va_Qi (fun (r' : Int32) (u : tq_S) => r' = r ∧ u = σ') (tq_E dC dI cI cL cZ (woC cI cL cZ ad) (va_A (woC cI cL cZ ad σ) sz)) (va_A (woC cI cL cZ ad σ) sz)) 0 0 (va_A (woC cI cL cZ ad σ) sz) := by
  obtain ⟨n0, h0⟩ := tq_fI_to hf
  refine Met.ofW (cc := prog_2_method_9_code) (maxL := 5) (ret := (some .int)) (by decide) rfl ?_
  intro p e s m args below meth c s₁ B hml hv
  obtain ⟨rfl, hsz, hP, hK, hD0, hZ, hN⟩ := hv
  have hx := B.exec
  have hb := B.bytes
  have hr := B.returns
  have hts : ∀ w ∈ tq_T, w.before _ s = true := fun w h => atoms_spec (ws := w_Co_make) B.pre w (List.mem_cons_of_mem _ h)
  have hown : s.vm.findClass "TableauNodes$Concepts" = some m.cls := findClass_of_methodNamed B.named
  have hlocks := B.notSynchronized
  subst hsz
  have hD := hD0.self (sz := s.heap.size)
  have hS : va_S (va_A (woC cI cL cZ ad σ) s.heap.size) s.heap s.heap [] := va_S.rf
  have hA : ∀ q : Nat, s.heap.size ≤ q → va_A (woC cI cL cZ ad σ) s.heap.size q := fun q h => Or.inr h
  generalize va_A (woC cI cL cZ ad σ) s.heap.size = A at hD hS hA hZ ⊢
  have hl := lv_entry ([.ref (ad 1), .int a1, .int a2, .int a3]) (n := 5) (Nat.le_of_ble_eq_true rfl)
  rw [lg_entry_eq]
  generalize (lg_sl ([.ref (ad 1), .int a1, .int a2, .int a3]) ++ List.replicate (5 - (lg_sl ([.ref (ad 1), .int a1, .int a2, .int a3])).length) Slot.unset).toArray = ls at hl ⊢
  have hl : lv_has ls 5 [(0, .ref (ad 1)), (1, .int a1), (2, .int a2), (3, .int a3)] := hl
  have key : ∀ n : Nat, (∀ {x1 x2 x3 : Int32} {σ : tq_S} {H : Heap} {locs : List Loc} {ls : Array Slot}, va_P (dC, dI) tq_cl (woC cI cL cZ ad σ) H → va_D A (woC cI cL cZ ad σ) → va_S A s.heap H locs → lv_has ls 5 [(0, .ref (ad 1)), (1, .int x1), (2, .int x2), (3, .int x3)] → tq_go st_Co_make n (0, [x1, x2, x3], [], σ) = some (tq_rt, [r], [], σ') → W p l e (headSpec w_Co_make ({ frames := 4, cells := 0, slots := 0, locals := 98 } : Room)).room s m ([.ref (ad 1), .int a1, .int a2, .int a3] : List Value).toArray below meth c H locs 0 0 (MQ below (va_Qi (fun (r' : Int32) (u : tq_S) => r' = r ∧ u = σ') (tq_E dC dI cI cL cZ (woC cI cL cZ ad) A) A) ([.ref (ad 1), .int a1, .int a2, .int a3] : List Value).toArray s 0 0 A) (F0 m 0 ls [])) := by
    intro n
    induction n with
    | zero => exact fun _ _ _ _ h => by cases h
    | succ n ih =>
      intro x1 x2 x3 σ H locs ls hP hD hS hl h9
      obtain ⟨q9, hg, hn⟩ := tq_go_s h9 (show ¬ (0 : Nat) = tq_rt by decide)
      replace hg : bk_Co_make_0 [x1, x2, x3] [] σ = some q9 := hg
      unfold bk_Co_make_0 at hg
      refine lv_aload_n hx hb d_Co_make_0 rfl (lv_at hl 0 rfl) ?_
      refine lv_iload_n hx hb d_Co_make_1 rfl (lv_at hl 1 rfl) ?_
      refine lv_iload_n hx hb d_Co_make_2 rfl (lv_at hl 2 rfl) ?_
      refine lv_iload_n hx hb d_Co_make_3 rfl (lv_at hl 3 rfl) ?_
      obtain ⟨r2, σ3, f1, hg⟩ := tq_ob_s hg
      refine tq_aI (va_runV (As := [.int x1, .int x2, .int x3]) (rest := []) ⟨hx, hb, hml, hown, hts⟩ (c_C_Co_find l dC dI cI cL cZ ad tt H.size σ x1 x2 x3  r2 σ3 f1) (cwV 3 hts (tq_gV tw_29 tw_31 ts_0 tw_2 tw_32) rfl rfl rfl (by decide +kernel) ⟨Nat.le_of_ble_eq_true rfl, Nat.le_of_ble_eq_true rfl⟩) ⟨tq_bl, va_recv hK hP (ci := 1) (q0 := 0) rfl rfl, (tq_pr hP hK hD hS hA hZ hN)⟩ rfl rfl hl.1 rfl (lv_room (Nat.le_of_ble_eq_true rfl)) d_Co_make_4 ⟨Nat.zero_le _, Nat.zero_le _⟩) hD hS hA (fun H locs hP hD hS => ?_)
      refine lv_istore (lv' := [(4, .int r2), (0, .ref (ad 1)), (1, .int x1), (2, .int x2), (3, .int x3)]) hx hb d_Co_make_7 hl (by decide) rfl (fun ls hl => ?_)
      refine lv_iload hx hb d_Co_make_9 (lv_at hl 0 rfl) ?_
      refine lv_iconst (v := (-1)) hx hb d_Co_make_11 (by decide) ?_
      refine lv_icmp_ne (tgt := 25) hx hb d_Co_make_12 (by decide) (fun c4 => ?_) (fun c4 => ?_)
      · replace hg := tq_if_t c4 hg
        refine lv_iload hx hb d_Co_make_25 (lv_at hl 0 rfl) ?_
        exact W.iret (v := r2) hx hb hr (fun t ht hW => ⟨⟨r2, σ3, rfl, tq_grI hg hn, by rw [ht]; exact hP, va_K.moved hW.alike hK, hD⟩, hS.F ht⟩) hS.2.2 d_Co_make_27
      · replace hg := tq_if_n c4 hg
        refine lv_aload_n hx hb d_Co_make_15 rfl (lv_at hl 1 rfl) ?_
        refine lv_iload_n hx hb d_Co_make_16 rfl (lv_at hl 2 rfl) ?_
        refine lv_iload_n hx hb d_Co_make_17 rfl (lv_at hl 3 rfl) ?_
        refine lv_iload_n hx hb d_Co_make_18 rfl (lv_at hl 4 rfl) ?_
        obtain ⟨r6, σ7, f5, hg⟩ := tq_ob_s hg
        refine tq_aI (va_runV (As := [.int x1, .int x2, .int x3]) (rest := []) ⟨hx, hb, hml, hown, hts⟩ (c_C_Co_add l dC dI cI cL cZ ad tt H.size σ3 x1 x2 x3  r6 σ7 f5) (cwV 3 hts (tq_gV tw_33 tw_35 ts_1 tw_2 tw_36) rfl rfl rfl (by decide +kernel) ⟨Nat.le_of_ble_eq_true rfl, Nat.le_of_ble_eq_true rfl⟩) ⟨tq_bl, va_recv hK hP (ci := 1) (q0 := 0) rfl rfl, (tq_pr hP hK hD hS hA hZ hN)⟩ rfl rfl hl.1 rfl (lv_room (Nat.le_of_ble_eq_true rfl)) d_Co_make_19 ⟨Nat.zero_le _, Nat.zero_le _⟩) hD hS hA (fun H locs hP hD hS => ?_)
        refine lv_goto (tgt := 27) hx hb d_Co_make_22 (by decide) ?_
        exact W.iret (v := r6) hx hb hr (fun t ht hW => ⟨⟨r6, σ7, rfl, tq_grI hg hn, by rw [ht]; exact hP, va_K.moved hW.alike hK, hD⟩, hS.F ht⟩) hS.2.2 d_Co_make_27
  exact (key n0) hP hD hS hl h0
set_option maxHeartbeats 40000000 in
set_option maxRecDepth 100000 in
theorem c_R_Tn_hasBit (l : Launch) (dC : Nat → ClassId) (dI : Nat → Nat → Nat) (cI cL cZ : ClassId) (ad : Nat → Nat) (tt : Nat) (sz : Nat) (σ : tq_S) (a2 : Int32) (b0 : Int64) (r : Int32) (σ' : tq_S) (hf : tq_fI st_Tn_hasBit (0, [a2], [b0], σ) = some (r, σ')) : Met l y_Tn_hasBit w_Tn_hasBit ({ frames := 0, cells := 0, slots := 0, locals := 0 } : Room) (va_Pc [.long b0, .int a2] (tq_B dC dI cI cL cZ tt (woR cI cL cZ ad σ) sz)) (va_Qi (fun (r' : Int32) (u : tq_S) => r' = r ∧ u = σ') (tq_E dC dI cI cL cZ (woR cI cL cZ ad) (va_A (woR cI cL cZ ad σ) sz)) (va_A (woR cI cL cZ ad σ) sz)) 0 0 (va_A (woR cI cL cZ ad σ) sz) := by
  obtain ⟨n0, h0⟩ := tq_fI_to hf
  refine Met.ofW (cc := prog_1_method_22_code) (maxL := 3) (ret := (some .boolean)) (by decide) rfl ?_
  intro p e s m args below meth c s₁ B hml hv
  obtain ⟨rfl, hsz, hP, hK, hD0, hZ, hN⟩ := hv
  have hx := B.exec
  have hb := B.bytes
  have hr := B.returns
  have hts : ∀ w ∈ tq_T, w.before _ s = true := fun w h => atoms_spec (ws := w_Tn_hasBit) B.pre w (List.mem_cons_of_mem _ h)
  have hown : s.vm.findClass "TableauNodes" = some m.cls := findClass_of_methodNamed B.named
  have hlocks := B.notSynchronized
  subst hsz
  have hD := hD0.self (sz := s.heap.size)
  have hS : va_S (va_A (woR cI cL cZ ad σ) s.heap.size) s.heap s.heap [] := va_S.rf
  have hA : ∀ q : Nat, s.heap.size ≤ q → va_A (woR cI cL cZ ad σ) s.heap.size q := fun q h => Or.inr h
  generalize va_A (woR cI cL cZ ad σ) s.heap.size = A at hD hS hA hZ ⊢
  have hl := lv_entry ([.long b0, .int a2]) (n := 3) (Nat.le_of_ble_eq_true rfl)
  rw [lg_entry_eq]
  generalize (lg_sl ([.long b0, .int a2]) ++ List.replicate (3 - (lg_sl ([.long b0, .int a2])).length) Slot.unset).toArray = ls at hl ⊢
  have hl : lv_has ls 3 [(0, .long b0), (2, .int a2)] := hl
  have key : ∀ n : Nat, (∀ {x2 : Int32} {y0 : Int64} {σ : tq_S} {H : Heap} {locs : List Loc} {ls : Array Slot}, va_P (dC, dI) tq_cl (woR cI cL cZ ad σ) H → va_D A (woR cI cL cZ ad σ) → va_S A s.heap H locs → lv_has ls 3 [(0, .long y0), (2, .int x2)] → tq_go st_Tn_hasBit n (0, [x2], [y0], σ) = some (tq_rt, [r], [], σ') → W p l e (headSpec w_Tn_hasBit ({ frames := 0, cells := 0, slots := 0, locals := 0 } : Room)).room s m ([.long b0, .int a2] : List Value).toArray below meth c H locs 0 0 (MQ below (va_Qi (fun (r' : Int32) (u : tq_S) => r' = r ∧ u = σ') (tq_E dC dI cI cL cZ (woR cI cL cZ ad) A) A) ([.long b0, .int a2] : List Value).toArray s 0 0 A) (F0 m 0 ls [])) := by
    intro n
    induction n with
    | zero => exact fun _ _ _ _ h => by cases h
    | succ n ih =>
      intro x2 y0 σ H locs ls hP hD hS hl h9
      obtain ⟨q9, hg, hn⟩ := tq_go_s h9 (show ¬ (0 : Nat) = tq_rt by decide)
      replace hg : bk_Tn_hasBit_0 [x2] [y0] σ = some q9 := hg
      unfold bk_Tn_hasBit_0 at hg
      refine lv_lload_n hx hb d_Tn_hasBit_0 rfl (lv_at hl 0 rfl) ?_
      refine lv_iload_n hx hb d_Tn_hasBit_1 rfl (lv_at hl 1 rfl) ?_
      refine lv_lushr hx hb d_Tn_hasBit_2 rfl ?_
      refine lv_lconst (v := 1) hx hb d_Tn_hasBit_3 (by decide) ?_
      refine lv_land hx hb d_Tn_hasBit_4 ?_
      refine lv_lconst (v := 0) hx hb d_Tn_hasBit_5 (by decide) ?_
      refine W.lcmp hx hb d_Tn_hasBit_6 ?_
      refine lv_if_eq (tgt := 14) hx hb d_Tn_hasBit_7 (by decide) (fun c1 => ?_) (fun c1 => ?_)
      · replace hg := tq_if_t c1 hg
        refine lv_iconst (v := 0) hx hb d_Tn_hasBit_14 (by decide) ?_
        exact W.zret (v := 0) hx hb hr rfl (fun t ht hW => ⟨⟨0, σ, rfl, tq_grI hg hn, by rw [ht]; exact hP, va_K.moved hW.alike hK, hD⟩, hS.F ht⟩) hS.2.2 d_Tn_hasBit_15
      · replace hg := tq_if_f c1 hg
        refine lv_iconst (v := 1) hx hb d_Tn_hasBit_10 (by decide) ?_
        refine lv_goto (tgt := 15) hx hb d_Tn_hasBit_11 (by decide) ?_
        exact W.zret (v := 1) hx hb hr rfl (fun t ht hW => ⟨⟨1, σ, rfl, tq_grI hg hn, by rw [ht]; exact hP, va_K.moved hW.alike hK, hD⟩, hS.F ht⟩) hS.2.2 d_Tn_hasBit_15
  exact (key n0) hP hD hS hl h0
set_option maxHeartbeats 40000000 in
set_option maxRecDepth 100000 in
theorem c_R_Ro_close (l : Launch) (dC : Nat → ClassId) (dI : Nat → Nat → Nat) (cI cL cZ : ClassId) (ad : Nat → Nat) (tt : Nat) (sz : Nat) (σ : tq_S) (σ' : tq_S) (hf : tq_fV st_Ro_close (0, [], [], σ) = some ((), σ')) : Met l y_Ro_close w_Ro_close ({ frames := 1, cells := 0, slots := 0, locals := 22 } : Room) (va_Pc [.ref (ad 2)] (tq_B dC dI cI cL cZ tt (woR cI cL cZ ad σ) sz)) (va_Qv (fun (u : tq_S) => u = σ') (tq_E dC dI cI cL cZ (woR cI cL cZ ad) (va_A (woR cI cL cZ ad σ) sz)) (va_A (woR cI cL cZ ad σ) sz)) 0 0 (va_A (woR cI cL cZ ad σ) sz) := by
  obtain ⟨n0, h0⟩ := tq_fV_to hf
  refine Met.ofW (cc := prog_4_method_4_code) (maxL := 3) (ret := none) (by decide) rfl ?_
  intro p e s m args below meth c s₁ B hml hv
  obtain ⟨rfl, hsz, hP, hK, hD0, hZ, hN⟩ := hv
  have hx := B.exec
  have hb := B.bytes
  have hr := B.returns
  have hts : ∀ w ∈ tq_T, w.before _ s = true := fun w h => atoms_spec (ws := w_Ro_close) B.pre w (List.mem_cons_of_mem _ h)
  have hown : s.vm.findClass "TableauNodes$Roles" = some m.cls := findClass_of_methodNamed B.named
  have hlocks := B.notSynchronized
  subst hsz
  have hD := hD0.self (sz := s.heap.size)
  have hS : va_S (va_A (woR cI cL cZ ad σ) s.heap.size) s.heap s.heap [] := va_S.rf
  have hA : ∀ q : Nat, s.heap.size ≤ q → va_A (woR cI cL cZ ad σ) s.heap.size q := fun q h => Or.inr h
  generalize va_A (woR cI cL cZ ad σ) s.heap.size = A at hD hS hA hZ ⊢
  have hl := lv_entry ([.ref (ad 2)]) (n := 3) (Nat.le_of_ble_eq_true rfl)
  rw [lg_entry_eq]
  generalize (lg_sl ([.ref (ad 2)]) ++ List.replicate (3 - (lg_sl ([.ref (ad 2)])).length) Slot.unset).toArray = ls at hl ⊢
  have hl : lv_has ls 3 [(0, .ref (ad 2))] := hl
  have key : ∀ n : Nat, (∀ {σ : tq_S} {H : Heap} {locs : List Loc} {ls : Array Slot}, va_P (dC, dI) tq_cl (woR cI cL cZ ad σ) H → va_D A (woR cI cL cZ ad σ) → va_S A s.heap H locs → lv_has ls 3 [(0, .ref (ad 2))] → tq_go st_Ro_close n (0, [], [], σ) = some (tq_rt, [], [], σ') → W p l e (headSpec w_Ro_close ({ frames := 1, cells := 0, slots := 0, locals := 22 } : Room)).room s m ([.ref (ad 2)] : List Value).toArray below meth c H locs 0 0 (MQ below (va_Qv (fun (u : tq_S) => u = σ') (tq_E dC dI cI cL cZ (woR cI cL cZ ad) A) A) ([.ref (ad 2)] : List Value).toArray s 0 0 A) (F0 m 0 ls [])) ∧ (∀ {x1 : Int32} {σ : tq_S} {H : Heap} {locs : List Loc} {ls : Array Slot}, va_P (dC, dI) tq_cl (woR cI cL cZ ad σ) H → va_D A (woR cI cL cZ ad σ) → va_S A s.heap H locs → lv_has ls 3 [(0, .ref (ad 2)), (1, .int x1)] → tq_go st_Ro_close n (2, [x1], [], σ) = some (tq_rt, [], [], σ') → W p l e (headSpec w_Ro_close ({ frames := 1, cells := 0, slots := 0, locals := 22 } : Room)).room s m ([.ref (ad 2)] : List Value).toArray below meth c H locs 0 0 (MQ below (va_Qv (fun (u : tq_S) => u = σ') (tq_E dC dI cI cL cZ (woR cI cL cZ ad) A) A) ([.ref (ad 2)] : List Value).toArray s 0 0 A) (F0 m 2 ls [])) ∧ (∀ {x1 : Int32} {σ : tq_S} {H : Heap} {locs : List Loc} {ls : Array Slot}, va_P (dC, dI) tq_cl (woR cI cL cZ ad σ) H → va_D A (woR cI cL cZ ad σ) → va_S A s.heap H locs → lv_has ls 3 [(0, .ref (ad 2)), (1, .int x1)] → tq_go st_Ro_close n (31, [x1], [], σ) = some (tq_rt, [], [], σ') → W p l e (headSpec w_Ro_close ({ frames := 1, cells := 0, slots := 0, locals := 22 } : Room)).room s m ([.ref (ad 2)] : List Value).toArray below meth c H locs 0 0 (MQ below (va_Qv (fun (u : tq_S) => u = σ') (tq_E dC dI cI cL cZ (woR cI cL cZ ad) A) A) ([.ref (ad 2)] : List Value).toArray s 0 0 A) (F0 m 31 ls [])) ∧ (∀ {x1 x2 : Int32} {σ : tq_S} {H : Heap} {locs : List Loc} {ls : Array Slot}, va_P (dC, dI) tq_cl (woR cI cL cZ ad σ) H → va_D A (woR cI cL cZ ad σ) → va_S A s.heap H locs → lv_has ls 3 [(0, .ref (ad 2)), (1, .int x1), (2, .int x2)] → tq_go st_Ro_close n (38, [x1, x2], [], σ) = some (tq_rt, [], [], σ') → W p l e (headSpec w_Ro_close ({ frames := 1, cells := 0, slots := 0, locals := 22 } : Room)).room s m ([.ref (ad 2)] : List Value).toArray below meth c H locs 0 0 (MQ below (va_Qv (fun (u : tq_S) => u = σ') (tq_E dC dI cI cL cZ (woR cI cL cZ ad) A) A) ([.ref (ad 2)] : List Value).toArray s 0 0 A) (F0 m 38 ls [])) := by
    intro n
    induction n with
    | zero => exact ⟨(fun _ _ _ _ h => by cases h), (fun _ _ _ _ h => by cases h), (fun _ _ _ _ h => by cases h), (fun _ _ _ _ h => by cases h)⟩
    | succ n ih =>
      refine ⟨?_, ?_, ?_, ?_⟩
      · intro  σ H locs ls hP hD hS hl h9
        obtain ⟨q9, hg, hn⟩ := tq_go_s h9 (show ¬ (0 : Nat) = tq_rt by decide)
        replace hg : bk_Ro_close_0 [] [] σ = some q9 := hg
        unfold bk_Ro_close_0 at hg
        refine lv_iconst (v := 0) hx hb d_Ro_close_0 (by decide) ?_
        refine lv_istore_n (lv' := [(1, .int 0), (0, .ref (ad 2))]) hx hb d_Ro_close_1 rfl hl (by decide) rfl (fun ls hl => ?_)
        exact ih.2.1 hP hD hS (lv_sub hl [1, 0] rfl) (tq_gi hg hn)
      · intro x1 σ H locs ls hP hD hS hl h9
        obtain ⟨q9, hg, hn⟩ := tq_go_s h9 (show ¬ (2 : Nat) = tq_rt by decide)
        replace hg : bk_Ro_close_2 [x1] [] σ = some q9 := hg
        unfold bk_Ro_close_2 at hg
        refine lv_iload_n hx hb d_Ro_close_2 rfl (lv_at hl 1 rfl) ?_
        refine lv_iconst (v := 4) hx hb d_Ro_close_3 (by decide) ?_
        refine lv_icmp_ge (tgt := 29) hx hb d_Ro_close_4 (by decide) (fun c1 => ?_) (fun c1 => ?_)
        · replace hg := tq_if_t c1 hg
          refine lv_iconst (v := 0) hx hb d_Ro_close_29 (by decide) ?_
          refine lv_istore_n (lv' := [(1, .int 0), (0, .ref (ad 2))]) hx hb d_Ro_close_30 rfl hl (by decide) rfl (fun ls hl => ?_)
          exact ih.2.2.1 hP hD hS (lv_sub hl [1, 0] rfl) (tq_gi hg hn)
        · replace hg := tq_if_f c1 hg
          refine lv_aload_n hx hb d_Ro_close_7 rfl (lv_at hl 0 rfl) ?_
          refine va_get (D := (dC, dI)) (ci := 2) (v := .ref (ad 14)) (C := "TableauNodes$Roles") (T := F_Ro) (N := 2) hx hb hts in_Ro hown hK hP 0 rfl rfl 1 (by decide) (hts _ tw_105) (fun _ h9 => h9) rfl d_Ro_close_8 ?_
          refine lv_iload_n hx hb d_Ro_close_11 rfl (lv_at hl 1 rfl) ?_
          refine lv_aload_n hx hb d_Ro_close_12 rfl (lv_at hl 0 rfl) ?_
          refine va_get (D := (dC, dI)) (ci := 2) (v := .ref (ad 13)) (C := "TableauNodes$Roles") (T := F_Ro) (N := 2) hx hb hts in_Ro hown hK hP 0 rfl rfl 0 (by decide) (hts _ tw_104) (fun _ h9 => h9) rfl d_Ro_close_13 ?_
          refine lv_iload_n hx hb d_Ro_close_16 rfl (lv_at hl 1 rfl) ?_
          obtain ⟨g2, hg⟩ := tq_gd_s hg
          refine va_iald hx hb hK hP 1 0 rfl rfl g2 d_Ro_close_17 ?_
          refine lv_iconst (v := 1) hx hb d_Ro_close_18 (by decide) ?_
          refine lv_iload_n hx hb d_Ro_close_19 rfl (lv_at hl 1 rfl) ?_
          refine lv_ishl hx hb d_Ro_close_20 ?_
          refine lv_ior hx hb d_Ro_close_21 ?_
          obtain ⟨g3, hg⟩ := tq_gd_s hg
          refine va_iast hx hb hK hP hD hS 2 0 rfl rfl g3 d_Ro_close_22 (fun H locs hP hD hS => ?_)
          obtain ⟨σ4, eσ4, hg⟩ := tq_lj_s hg
          replace hP : va_P (dC, dI) tq_cl (woR cI cL cZ ad σ4) H := by rw [eσ4, ← wsR_i6]; exact hP
          replace hD : va_D A (woR cI cL cZ ad σ4) := by rw [eσ4, ← wsR_i6]; exact hD
          obtain ⟨v5, ev5, hg⟩ := tq_lj_s hg
          refine lv_iinc (v := v5) (lv' := [(1, .int v5), (0, .ref (ad 2))]) hx hb d_Ro_close_23 hl (k := 1) rfl (by rw [ev5]; rfl) (by decide) rfl (fun ls hl => ?_)
          refine lv_goto (tgt := 2) hx hb d_Ro_close_26 (by decide) ?_
          exact ih.2.1 hP hD hS (lv_sub hl [1, 0] rfl) (tq_gi hg hn)
      · intro x1 σ H locs ls hP hD hS hl h9
        obtain ⟨q9, hg, hn⟩ := tq_go_s h9 (show ¬ (31 : Nat) = tq_rt by decide)
        replace hg : bk_Ro_close_31 [x1] [] σ = some q9 := hg
        unfold bk_Ro_close_31 at hg
        refine lv_iload_n hx hb d_Ro_close_31 rfl (lv_at hl 1 rfl) ?_
        refine lv_iconst (v := 4) hx hb d_Ro_close_32 (by decide) ?_
        refine lv_icmp_ge (tgt := 84) hx hb d_Ro_close_33 (by decide) (fun c6 => ?_) (fun c6 => ?_)
        · replace hg := tq_if_t c6 hg
          exact W.vret hx hb hr (fun t ht hW => ⟨⟨σ, rfl, tq_grV hg hn, by rw [ht]; exact hP, va_K.moved hW.alike hK, hD⟩, hS.F ht⟩) hS.2.2 d_Ro_close_84
        · replace hg := tq_if_f c6 hg
          refine lv_iconst (v := 0) hx hb d_Ro_close_36 (by decide) ?_
          refine lv_istore_n (lv' := [(2, .int 0), (0, .ref (ad 2)), (1, .int x1)]) hx hb d_Ro_close_37 rfl hl (by decide) rfl (fun ls hl => ?_)
          exact ih.2.2.2 hP hD hS (lv_sub hl [1, 2, 0] rfl) (tq_gi hg hn)
      · intro x1 x2 σ H locs ls hP hD hS hl h9
        obtain ⟨q9, hg, hn⟩ := tq_go_s h9 (show ¬ (38 : Nat) = tq_rt by decide)
        replace hg : bk_Ro_close_38 [x1, x2] [] σ = some q9 := hg
        unfold bk_Ro_close_38 at hg
        refine lv_iload_n hx hb d_Ro_close_38 rfl (lv_at hl 2 rfl) ?_
        refine lv_iconst (v := 4) hx hb d_Ro_close_39 (by decide) ?_
        refine lv_icmp_ge (tgt := 78) hx hb d_Ro_close_40 (by decide) (fun c7 => ?_) (fun c7 => ?_)
        · replace hg := tq_if_t c7 hg
          obtain ⟨v8, ev8, hg⟩ := tq_lj_s hg
          refine lv_iinc (v := v8) (lv' := [(1, .int v8), (0, .ref (ad 2)), (2, .int x2)]) hx hb d_Ro_close_78 hl (k := 1) rfl (by rw [ev8]; rfl) (by decide) rfl (fun ls hl => ?_)
          refine lv_goto (tgt := 31) hx hb d_Ro_close_81 (by decide) ?_
          exact ih.2.2.1 hP hD hS (lv_sub hl [1, 0] rfl) (tq_gi hg hn)
        · replace hg := tq_if_f c7 hg
          refine lv_aload_n hx hb d_Ro_close_43 rfl (lv_at hl 0 rfl) ?_
          refine va_get (D := (dC, dI)) (ci := 2) (v := .ref (ad 14)) (C := "TableauNodes$Roles") (T := F_Ro) (N := 2) hx hb hts in_Ro hown hK hP 0 rfl rfl 1 (by decide) (hts _ tw_105) (fun _ h9 => h9) rfl d_Ro_close_44 ?_
          refine lv_iload_n hx hb d_Ro_close_47 rfl (lv_at hl 2 rfl) ?_
          obtain ⟨g9, hg⟩ := tq_gd_s hg
          refine va_iald hx hb hK hP 2 0 rfl rfl g9 d_Ro_close_48 ?_
          refine lv_i2l hx hb d_Ro_close_49 rfl ?_
          refine lv_iload_n hx hb d_Ro_close_50 rfl (lv_at hl 1 rfl) ?_
          obtain ⟨r11, σ12, f10, hg⟩ := tq_ob_s hg
          refine tq_aI (va_runSN (As := [.long ((ia σ 6 x2).toInt64), .int x1]) (rest := []) ⟨hx, hb, hml, hown, hts⟩ (c_R_Tn_hasBit l dC dI cI cL cZ ad tt H.size σ x1 ((ia σ 6 x2).toInt64) r11 σ12 f10) ⟨va_cnB 2 hts (tq_gC tw_62) rfl rfl rfl (hN _ (List.mem_of_getElem? (i := 1) rfl)) (hts _ tw_1) (by decide +kernel) ⟨Nat.le_of_ble_eq_true rfl, Nat.le_of_ble_eq_true rfl⟩, hts _ tw_61, trivial⟩ ⟨tq_bl, (tq_pr hP hK hD hS hA hZ hN)⟩ rfl rfl hl.1 rfl (lv_room (Nat.le_of_ble_eq_true rfl)) d_Ro_close_51 ⟨Nat.zero_le _, Nat.zero_le _⟩) hD hS hA (fun H locs hP hD hS => ?_)
          refine lv_if_eq (tgt := 72) hx hb d_Ro_close_54 (by decide) (fun c13 => ?_) (fun c13 => ?_)
          · replace hg := tq_if_t c13 hg
            obtain ⟨v14, ev14, hg⟩ := tq_lj_s hg
            refine lv_iinc (v := v14) (lv' := [(2, .int v14), (0, .ref (ad 2)), (1, .int x1)]) hx hb d_Ro_close_72 hl (k := 2) rfl (by rw [ev14]; rfl) (by decide) rfl (fun ls hl => ?_)
            refine lv_goto (tgt := 38) hx hb d_Ro_close_75 (by decide) ?_
            exact ih.2.2.2 hP hD hS (lv_sub hl [1, 2, 0] rfl) (tq_gi hg hn)
          · replace hg := tq_if_f c13 hg
            refine lv_aload_n hx hb d_Ro_close_57 rfl (lv_at hl 0 rfl) ?_
            refine va_get (D := (dC, dI)) (ci := 2) (v := .ref (ad 14)) (C := "TableauNodes$Roles") (T := F_Ro) (N := 2) hx hb hts in_Ro hown hK hP 0 rfl rfl 1 (by decide) (hts _ tw_105) (fun _ h9 => h9) rfl d_Ro_close_58 ?_
            refine lv_iload_n hx hb d_Ro_close_61 rfl (lv_at hl 2 rfl) ?_
            refine lv_dup2_11 hx hb d_Ro_close_62 rfl rfl ?_
            obtain ⟨g15, hg⟩ := tq_gd_s hg
            refine va_iald hx hb hK hP 2 0 rfl rfl g15 d_Ro_close_63 ?_
            refine lv_aload_n hx hb d_Ro_close_64 rfl (lv_at hl 0 rfl) ?_
            refine va_get (D := (dC, dI)) (ci := 2) (v := .ref (ad 14)) (C := "TableauNodes$Roles") (T := F_Ro) (N := 2) hx hb hts in_Ro hown hK hP 0 rfl rfl 1 (by decide) (hts _ tw_105) (fun _ h9 => h9) rfl d_Ro_close_65 ?_
            refine lv_iload_n hx hb d_Ro_close_68 rfl (lv_at hl 1 rfl) ?_
            obtain ⟨g16, hg⟩ := tq_gd_s hg
            refine va_iald hx hb hK hP 2 0 rfl rfl g16 d_Ro_close_69 ?_
            refine lv_ior hx hb d_Ro_close_70 ?_
            obtain ⟨g17, hg⟩ := tq_gd_s hg
            refine va_iast hx hb hK hP hD hS 2 0 rfl rfl g17 d_Ro_close_71 (fun H locs hP hD hS => ?_)
            obtain ⟨σ18, eσ18, hg⟩ := tq_lj_s hg
            replace hP : va_P (dC, dI) tq_cl (woR cI cL cZ ad σ18) H := by rw [eσ18, ← wsR_i6]; exact hP
            replace hD : va_D A (woR cI cL cZ ad σ18) := by rw [eσ18, ← wsR_i6]; exact hD
            obtain ⟨v19, ev19, hg⟩ := tq_lj_s hg
            refine lv_iinc (v := v19) (lv' := [(2, .int v19), (0, .ref (ad 2)), (1, .int x1)]) hx hb d_Ro_close_72 hl (k := 2) rfl (by rw [ev19]; rfl) (by decide) rfl (fun ls hl => ?_)
            refine lv_goto (tgt := 38) hx hb d_Ro_close_75 (by decide) ?_
            exact ih.2.2.2 hP hD hS (lv_sub hl [1, 2, 0] rfl) (tq_gi hg hn)
  exact (key n0).1 hP hD hS hl h0
set_option maxHeartbeats 40000000 in
set_option maxRecDepth 100000 in
theorem c_H_Th_clear (l : Launch) (dC : Nat → ClassId) (dI : Nat → Nat → Nat) (cI cL cZ : ClassId) (ad : Nat → Nat) (tt : Nat) (sz : Nat) (σ : tq_S) (σ' : tq_S) (hf : tq_fV st_Th_clear (0, [], [], σ) = some ((), σ')) : Met l y_Th_clear w_Th_clear ({ frames := 0, cells := 0, slots := 0, locals := 0 } : Room) (va_Pc [.ref (ad 4)] (tq_B dC dI cI cL cZ tt (woH cI cL cZ ad σ) sz)) (va_Qv (fun (u : tq_S) => u = σ') (tq_E dC dI cI cL cZ (woH cI cL cZ ad) (va_A (woH cI cL cZ ad σ) sz)) (va_A (woH cI cL cZ ad σ) sz)) 0 0 (va_A (woH cI cL cZ ad σ) sz) := by
  obtain ⟨n0, h0⟩ := tq_fV_to hf
  refine Met.ofW (cc := prog_5_method_9_code) (maxL := 2) (ret := none) (by decide) rfl ?_
  intro p e s m args below meth c s₁ B hml hv
  obtain ⟨rfl, hsz, hP, hK, hD0, hZ, hN⟩ := hv
  have hx := B.exec
  have hb := B.bytes
  have hr := B.returns
  have hts : ∀ w ∈ tq_T, w.before _ s = true := fun w h => atoms_spec (ws := w_Th_clear) B.pre w (List.mem_cons_of_mem _ h)
  have hown : s.vm.findClass "TableauNodes$Things" = some m.cls := findClass_of_methodNamed B.named
  have hlocks := B.notSynchronized
  subst hsz
  have hD := hD0.self (sz := s.heap.size)
  have hS : va_S (va_A (woH cI cL cZ ad σ) s.heap.size) s.heap s.heap [] := va_S.rf
  have hA : ∀ q : Nat, s.heap.size ≤ q → va_A (woH cI cL cZ ad σ) s.heap.size q := fun q h => Or.inr h
  generalize va_A (woH cI cL cZ ad σ) s.heap.size = A at hD hS hA hZ ⊢
  have hl := lv_entry ([.ref (ad 4)]) (n := 2) (Nat.le_of_ble_eq_true rfl)
  rw [lg_entry_eq]
  generalize (lg_sl ([.ref (ad 4)]) ++ List.replicate (2 - (lg_sl ([.ref (ad 4)])).length) Slot.unset).toArray = ls at hl ⊢
  have hl : lv_has ls 2 [(0, .ref (ad 4))] := hl
  have key : ∀ n : Nat, (∀ {σ : tq_S} {H : Heap} {locs : List Loc} {ls : Array Slot}, va_P (dC, dI) tq_cl (woH cI cL cZ ad σ) H → va_D A (woH cI cL cZ ad σ) → va_S A s.heap H locs → lv_has ls 2 [(0, .ref (ad 4))] → tq_go st_Th_clear n (0, [], [], σ) = some (tq_rt, [], [], σ') → W p l e (headSpec w_Th_clear ({ frames := 0, cells := 0, slots := 0, locals := 0 } : Room)).room s m ([.ref (ad 4)] : List Value).toArray below meth c H locs 0 0 (MQ below (va_Qv (fun (u : tq_S) => u = σ') (tq_E dC dI cI cL cZ (woH cI cL cZ ad) A) A) ([.ref (ad 4)] : List Value).toArray s 0 0 A) (F0 m 0 ls [])) ∧ (∀ {x1 : Int32} {σ : tq_S} {H : Heap} {locs : List Loc} {ls : Array Slot}, va_P (dC, dI) tq_cl (woH cI cL cZ ad σ) H → va_D A (woH cI cL cZ ad σ) → va_S A s.heap H locs → lv_has ls 2 [(0, .ref (ad 4)), (1, .int x1)] → tq_go st_Th_clear n (2, [x1], [], σ) = some (tq_rt, [], [], σ') → W p l e (headSpec w_Th_clear ({ frames := 0, cells := 0, slots := 0, locals := 0 } : Room)).room s m ([.ref (ad 4)] : List Value).toArray below meth c H locs 0 0 (MQ below (va_Qv (fun (u : tq_S) => u = σ') (tq_E dC dI cI cL cZ (woH cI cL cZ ad) A) A) ([.ref (ad 4)] : List Value).toArray s 0 0 A) (F0 m 2 ls [])) ∧ (∀ {x1 : Int32} {σ : tq_S} {H : Heap} {locs : List Loc} {ls : Array Slot}, va_P (dC, dI) tq_cl (woH cI cL cZ ad σ) H → va_D A (woH cI cL cZ ad σ) → va_S A s.heap H locs → lv_has ls 2 [(0, .ref (ad 4)), (1, .int x1)] → tq_go st_Th_clear n (25, [x1], [], σ) = some (tq_rt, [], [], σ') → W p l e (headSpec w_Th_clear ({ frames := 0, cells := 0, slots := 0, locals := 0 } : Room)).room s m ([.ref (ad 4)] : List Value).toArray below meth c H locs 0 0 (MQ below (va_Qv (fun (u : tq_S) => u = σ') (tq_E dC dI cI cL cZ (woH cI cL cZ ad) A) A) ([.ref (ad 4)] : List Value).toArray s 0 0 A) (F0 m 25 ls [])) := by
    intro n
    induction n with
    | zero => exact ⟨(fun _ _ _ _ h => by cases h), (fun _ _ _ _ h => by cases h), (fun _ _ _ _ h => by cases h)⟩
    | succ n ih =>
      refine ⟨?_, ?_, ?_⟩
      · intro  σ H locs ls hP hD hS hl h9
        obtain ⟨q9, hg, hn⟩ := tq_go_s h9 (show ¬ (0 : Nat) = tq_rt by decide)
        replace hg : bk_Th_clear_0 [] [] σ = some q9 := hg
        unfold bk_Th_clear_0 at hg
        refine lv_iconst (v := 0) hx hb d_Th_clear_0 (by decide) ?_
        refine lv_istore_n (lv' := [(1, .int 0), (0, .ref (ad 4))]) hx hb d_Th_clear_1 rfl hl (by decide) rfl (fun ls hl => ?_)
        exact ih.2.1 hP hD hS (lv_sub hl [1, 0] rfl) (tq_gi hg hn)
      · intro x1 σ H locs ls hP hD hS hl h9
        obtain ⟨q9, hg, hn⟩ := tq_go_s h9 (show ¬ (2 : Nat) = tq_rt by decide)
        replace hg : bk_Th_clear_2 [x1] [] σ = some q9 := hg
        unfold bk_Th_clear_2 at hg
        refine lv_iload_n hx hb d_Th_clear_2 rfl (lv_at hl 1 rfl) ?_
        refine lv_bipush (v := 80) hx hb d_Th_clear_3 (by decide) ?_
        refine lv_icmp_ge (tgt := 23) hx hb d_Th_clear_5 (by decide) (fun c1 => ?_) (fun c1 => ?_)
        · replace hg := tq_if_t c1 hg
          refine lv_iconst (v := 0) hx hb d_Th_clear_23 (by decide) ?_
          refine lv_istore_n (lv' := [(1, .int 0), (0, .ref (ad 4))]) hx hb d_Th_clear_24 rfl hl (by decide) rfl (fun ls hl => ?_)
          exact ih.2.2 hP hD hS (lv_sub hl [1, 0] rfl) (tq_gi hg hn)
        · replace hg := tq_if_f c1 hg
          refine lv_aload_n hx hb d_Th_clear_8 rfl (lv_at hl 0 rfl) ?_
          refine va_get (D := (dC, dI)) (ci := 4) (v := .ref (ad 23)) (C := "TableauNodes$Things") (T := F_Th) (N := 15) hx hb hts in_Th hown hK hP 0 rfl rfl 2 (by decide) (hts _ tw_176) (fun _ h9 => h9) rfl d_Th_clear_9 ?_
          refine lv_iload_n hx hb d_Th_clear_12 rfl (lv_at hl 1 rfl) ?_
          refine lv_ldc2 (v := (-1)) hx hb hown (hts _ tw_173) d_Th_clear_13 ?_
          obtain ⟨g2, hg⟩ := tq_gd_s hg
          refine va_last hx hb hK hP hD hS 1 1 rfl rfl g2 d_Th_clear_16 (fun H locs hP hD hS => ?_)
          obtain ⟨σ3, eσ3, hg⟩ := tq_lj_s hg
          replace hP : va_P (dC, dI) tq_cl (woH cI cL cZ ad σ3) H := by rw [eσ3, ← wsH_l4]; exact hP
          replace hD : va_D A (woH cI cL cZ ad σ3) := by rw [eσ3, ← wsH_l4]; exact hD
          obtain ⟨v4, ev4, hg⟩ := tq_lj_s hg
          refine lv_iinc (v := v4) (lv' := [(1, .int v4), (0, .ref (ad 4))]) hx hb d_Th_clear_17 hl (k := 1) rfl (by rw [ev4]; rfl) (by decide) rfl (fun ls hl => ?_)
          refine lv_goto (tgt := 2) hx hb d_Th_clear_20 (by decide) ?_
          exact ih.2.1 hP hD hS (lv_sub hl [1, 0] rfl) (tq_gi hg hn)
      · intro x1 σ H locs ls hP hD hS hl h9
        obtain ⟨q9, hg, hn⟩ := tq_go_s h9 (show ¬ (25 : Nat) = tq_rt by decide)
        replace hg : bk_Th_clear_25 [x1] [] σ = some q9 := hg
        unfold bk_Th_clear_25 at hg
        refine lv_iload_n hx hb d_Th_clear_25 rfl (lv_at hl 1 rfl) ?_
        refine lv_bipush (v := 25) hx hb d_Th_clear_26 (by decide) ?_
        refine lv_icmp_ge (tgt := 44) hx hb d_Th_clear_28 (by decide) (fun c5 => ?_) (fun c5 => ?_)
        · replace hg := tq_if_t c5 hg
          refine lv_aload_n hx hb d_Th_clear_44 rfl (lv_at hl 0 rfl) ?_
          refine lv_iconst (v := 0) hx hb d_Th_clear_45 (by decide) ?_
          refine va_put (D := (dC, dI)) (ci := 4) (v := .int 0) (ty := .int) (C := "TableauNodes$Things") (T := F_Th) (N := 15) hx hb hts in_Th ty_Th tk_Th nm_Th hown hK hP hD hS 0 rfl rfl 5 (by decide) (hts _ tw_179) (fun _ h9 => h9) rfl (by decide +kernel) rfl rfl (Nat.le_of_ble_eq_true rfl) d_Th_clear_46 (fun H locs hP hD hS => ?_)
          obtain ⟨σ6, eσ6, hg⟩ := tq_lj_s hg
          replace hP : va_P (dC, dI) tq_cl (woH cI cL cZ ad σ6) H := by rw [eσ6, ← wsH_f7]; exact hP
          replace hD : va_D A (woH cI cL cZ ad σ6) := by rw [eσ6, ← wsH_f7]; exact hD
          refine lv_aload_n hx hb d_Th_clear_49 rfl (lv_at hl 0 rfl) ?_
          refine lv_iconst (v := 0) hx hb d_Th_clear_50 (by decide) ?_
          refine va_put (D := (dC, dI)) (ci := 4) (v := .int 0) (ty := .int) (C := "TableauNodes$Things") (T := F_Th) (N := 15) hx hb hts in_Th ty_Th tk_Th nm_Th hown hK hP hD hS 0 rfl rfl 6 (by decide) (hts _ tw_180) (fun _ h9 => h9) rfl (by decide +kernel) rfl rfl (Nat.le_of_ble_eq_true rfl) d_Th_clear_51 (fun H locs hP hD hS => ?_)
          obtain ⟨σ7, eσ7, hg⟩ := tq_lj_s hg
          replace hP : va_P (dC, dI) tq_cl (woH cI cL cZ ad σ7) H := by rw [eσ7, ← wsH_f8]; exact hP
          replace hD : va_D A (woH cI cL cZ ad σ7) := by rw [eσ7, ← wsH_f8]; exact hD
          refine lv_aload_n hx hb d_Th_clear_54 rfl (lv_at hl 0 rfl) ?_
          refine lv_iconst (v := 1) hx hb d_Th_clear_55 (by decide) ?_
          refine va_put (D := (dC, dI)) (ci := 4) (v := .int 1) (ty := .boolean) (C := "TableauNodes$Things") (T := F_Th) (N := 15) hx hb hts in_Th ty_Th tk_Th nm_Th hown hK hP hD hS 0 rfl rfl 13 (by decide) (hts _ tw_187) (fun _ h9 => h9) rfl (by decide +kernel) rfl rfl (Nat.le_of_ble_eq_true rfl) d_Th_clear_56 (fun H locs hP hD hS => ?_)
          obtain ⟨σ8, eσ8, hg⟩ := tq_lj_s hg
          replace hP : va_P (dC, dI) tq_cl (woH cI cL cZ ad σ8) H := by rw [eσ8, ← wsH_f11]; exact hP
          replace hD : va_D A (woH cI cL cZ ad σ8) := by rw [eσ8, ← wsH_f11]; exact hD
          exact W.vret hx hb hr (fun t ht hW => ⟨⟨σ8, rfl, tq_grV hg hn, by rw [ht]; exact hP, va_K.moved hW.alike hK, hD⟩, hS.F ht⟩) hS.2.2 d_Th_clear_59
        · replace hg := tq_if_f c5 hg
          refine lv_aload_n hx hb d_Th_clear_31 rfl (lv_at hl 0 rfl) ?_
          refine va_get (D := (dC, dI)) (ci := 4) (v := .ref (ad 24)) (C := "TableauNodes$Things") (T := F_Th) (N := 15) hx hb hts in_Th hown hK hP 0 rfl rfl 3 (by decide) (hts _ tw_177) (fun _ h9 => h9) rfl d_Th_clear_32 ?_
          refine lv_iload_n hx hb d_Th_clear_35 rfl (lv_at hl 1 rfl) ?_
          refine lv_iconst (v := 0) hx hb d_Th_clear_36 (by decide) ?_
          obtain ⟨g9, hg⟩ := tq_gd_s hg
          refine va_iast hx hb hK hP hD hS 2 0 rfl rfl g9 d_Th_clear_37 (fun H locs hP hD hS => ?_)
          obtain ⟨σ10, eσ10, hg⟩ := tq_lj_s hg
          replace hP : va_P (dC, dI) tq_cl (woH cI cL cZ ad σ10) H := by rw [eσ10, ← wsH_i13]; exact hP
          replace hD : va_D A (woH cI cL cZ ad σ10) := by rw [eσ10, ← wsH_i13]; exact hD
          obtain ⟨v11, ev11, hg⟩ := tq_lj_s hg
          refine lv_iinc (v := v11) (lv' := [(1, .int v11), (0, .ref (ad 4))]) hx hb d_Th_clear_38 hl (k := 1) rfl (by rw [ev11]; rfl) (by decide) rfl (fun ls hl => ?_)
          refine lv_goto (tgt := 25) hx hb d_Th_clear_41 (by decide) ?_
          exact ih.2.2 hP hD hS (lv_sub hl [1, 0] rfl) (tq_gi hg hn)
  exact (key n0).1 hP hD hS hl h0
