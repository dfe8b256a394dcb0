/-! axioms, and what is said of things: both sides -/
abbrev ab_X : Type := Nat × (Nat → Nat) × (Nat → Nat)
abbrev ab_L : Type := Nat × (Nat → Nat) × (Nat → Nat) × (Nat → Nat)
def cX (X : ab_X) (σ : tq_S) : Prop := σ.2.2 2 = nI X.1 ∧ ∀ i, i < X.1 → σ.1 7 i = nI (X.2.1 i) ∧ σ.1 8 i = nI (X.2.2 i)
def mX (X : ab_X) (σ : tq_S) : Prop := σ.2.2 15 = nI X.1 ∧ ∀ i, i < X.1 → σ.1 21 i = nI (X.2.1 i) ∧ σ.1 22 i = nI (X.2.2 i)
abbrev upX (X : ab_X) (a b : Nat) : ab_X := (X.1 + 1, va_up X.2.1 X.1 a, va_up X.2.2 X.1 b)
/-- only these int arrays, long arrays and fields may have changed -/
def fr (I L F : List Nat) (σ σ' : tq_S) : Prop := (∀ k, k ∉ I → σ'.1 k = σ.1 k) ∧ (∀ k, k ∉ L → σ'.2.1 k = σ.2.1 k) ∧ (∀ k, k ∉ F → σ'.2.2 k = σ.2.2 k)
theorem fr.rf (I L F : List Nat) (σ : tq_S) : fr I L F σ σ := ⟨fun _ _ => rfl, fun _ _ => rfl, fun _ _ => rfl⟩
theorem fr.i {I L F : List Nat} {σ : tq_S} {k i : Nat} {v : Int32} (h : k ∈ I) : fr I L F σ (iput σ k i v) := ⟨fun x hx => by
  show (if x = k then _ else σ.1 x) = _
  rw [if_neg (show ¬ x = k from fun e => hx (by rw [e]; exact h))], fun _ _ => rfl, fun _ _ => rfl⟩
theorem fr.l {I L F : List Nat} {σ : tq_S} {k i : Nat} {v : Int64} (h : k ∈ L) : fr I L F σ (lput σ k i v) := ⟨fun _ _ => rfl, fun x hx => by
  show (if x = k then _ else σ.2.1 x) = _
  rw [if_neg (show ¬ x = k from fun e => hx (by rw [e]; exact h))], fun _ _ => rfl⟩
theorem fr.f {I L F : List Nat} {σ : tq_S} {k : Nat} {v : Int32} (h : k ∈ F) : fr I L F σ (fput σ k v) := ⟨fun _ _ => rfl, fun _ _ => rfl, fun x hx => by
  show (if x = k then _ else σ.2.2 x) = _
  rw [if_neg (show ¬ x = k from fun e => hx (by rw [e]; exact h))]⟩
theorem fr.tr {I L F : List Nat} {a b c : tq_S} (h : fr I L F a b) (h' : fr I L F b c) : fr I L F a c := ⟨fun k hk => (h'.1 k hk).trans (h.1 k hk), fun k hk => (h'.2.1 k hk).trans (h.2.1 k hk), fun k hk => (h'.2.2 k hk).trans (h.2.2 k hk)⟩
theorem iput_s (σ : tq_S) (k i : Nat) (v : Int32) (j : Nat) : (iput σ k i v).1 k j = if j = i then v else σ.1 k j := by
  show (if k = k then upd (σ.1 k) i v else σ.1 k) j = _
  rw [if_pos rfl]; rfl
theorem iput_n (σ : tq_S) {k k' : Nat} (i : Nat) (v : Int32) (h : k' ≠ k) : (iput σ k i v).1 k' = σ.1 k' := by
  show (if k' = k then _ else σ.1 k') = _
  rw [if_neg h]
theorem fput_s (σ : tq_S) (k : Nat) (v : Int32) : (fput σ k v).2.2 k = v := by
  show (if k = k then v else _) = _
  rw [if_pos rfl]
theorem fput_n (σ : tq_S) {k k' : Nat} (v : Int32) (h : k' ≠ k) : (fput σ k v).2.2 k' = σ.2.2 k' := by
  show (if k' = k then _ else σ.2.2 k') = _
  rw [if_neg h]
/-- GoodTypes.addAxiom -/
theorem sp_addAxiom {X : ab_X} {σ : tq_S} (hm : X.1 ≤ 30) (hX : cX X σ) (a b : Nat) :
    (X.1 = 30 → tq_fI st_Go_addAxiom (0, [nI a, nI b], [], σ) = some (-3, σ)) ∧
    (X.1 < 30 → ∃ σ', tq_fI st_Go_addAxiom (0, [nI a, nI b], [], σ) = some (nI X.1, σ') ∧ cX (upX X a b) σ' ∧ σ'.2.2 4 = 1 ∧ fr [7, 8] [] [2, 4] σ σ') := by
  obtain ⟨h0, h1⟩ := hX
  have c30 : (nI X.1 < 30 ↔ X.1 < 30) := tq_lt (b := 30) (by omega) (by omega)
  refine ⟨fun h => tq_fI_e (tq_at (by decide) ?_), fun h => ?_⟩
  · show tq_wo (bk_Go_addAxiom_0 [nI a, nI b] [] σ) _
    rw [bk_Go_addAxiom_0, h0]
    exact wi_f (fun q => absurd (c30.mp q) (by omega)) (wi_s (tq_wp_rt rfl))
  · obtain ⟨σ1, e1⟩ : ∃ σ1, σ1 = iput (iput σ 7 X.1 (nI a)) 8 X.1 (nI b) := ⟨_, rfl⟩
    refine ⟨fput (fput σ1 2 (nI (X.1 + 1))) 4 1, tq_fI_e (tq_at (by decide) ?_), ⟨?_, fun i hi => ?_⟩, ?_, ?_⟩
    · show tq_wo (bk_Go_addAxiom_0 [nI a, nI b] [] σ) _
      rw [bk_Go_addAxiom_0, h0]
      have vi : vp_in (nI X.1) 30 := tq_vin h (by omega)
      refine wi_t (c30.mpr h) (wi_g vi (wi_l ?_))
      have e2 : (iput σ 7 (nI X.1).toNatClampNeg (nI a)).2.2 2 = nI X.1 := h0
      rw [e2, tq_nc (by omega)]
      refine wi_g vi (wi_l (wi_l (wi_l (wi_s (tq_wp_rt ?_)))))
      rw [← e1]
      have e3 : σ1.2.2 2 = nI X.1 := by rw [e1]; exact h0
      rw [e3, tq_inc, fput_n _ _ (show (2 : Nat) ≠ 4 by decide), fput_s]
      rw [show nI (X.1 + 1) - 1 = nI X.1 from nI_pred _]
    · rw [fput_n _ _ (show (2 : Nat) ≠ 4 by decide), fput_s]
    · show σ1.1 7 i = nI (va_up X.2.1 X.1 a i) ∧ σ1.1 8 i = nI (va_up X.2.2 X.1 b i)
      rw [e1, iput_n _ _ _ (show (7 : Nat) ≠ 8 by decide), iput_s, iput_s, iput_n _ _ _ (show (8 : Nat) ≠ 7 by decide)]
      have hi : i < X.1 + 1 := hi
      by_cases e : i = X.1
      · rw [if_pos e, if_pos e, e, va_up_self, va_up_self]; exact ⟨rfl, rfl⟩
      · rw [if_neg e, if_neg e, va_up_ne _ _ e, va_up_ne _ _ e]; exact h1 i (by omega)
    · rw [fput_s]
    · rw [e1]
      exact ((fr.i (by decide)).tr (fr.i (by decide))).tr ((fr.f (by decide)).tr (fr.f (by decide)))
noncomputable def oAx (n : Nat) (X : ab_X) (x y : Int32) : Int32 × ab_X := @ite _ (bd n x ∨ bd n y) (Classical.propDecidable _) (-1, X) (if X.1 = 30 then (-3, X) else (nI X.1, upX X x.toNatClampNeg y.toNatClampNeg))
theorem cl_axiom {T : ab_T} {X : ab_X} {σ : tq_S} (hw : wfT T) (hT : cTT T σ) (hm : X.1 ≤ 30) (hX : cX X σ) (x y : Int32) :
    ∃ σ', tq_fI st_Tn_axiom (0, [x, y], [], σ) = some ((oAx T.1 X x y).1, σ') ∧ cX (oAx T.1 X x y).2 σ' ∧ fr [7, 8] [] [2, 4] σ σ' ∧ (σ' = σ ∨ σ'.2.2 4 = 1) := by
  have h80 := hw.2.1
  have go : ∀ r σ', tq_wo (bk_Tn_axiom_0 [x, y] [] σ) (tq_wp st_Tn_axiom (fun d => d = (tq_rt, [r], [], σ'))) → tq_fI st_Tn_axiom (0, [x, y], [], σ) = some (r, σ') := fun r σ' h => tq_fI_e (tq_at (by decide) h)
  unfold oAx
  rcases bd_cases x (n := T.1) (by omega) with h | ⟨i, hi, rfl, h⟩
  · rw [if_pos (Or.inl h)]
    refine ⟨σ, go _ _ ?_, hX, fr.rf _ _ _ σ, Or.inl rfl⟩
    rw [bk_Tn_axiom_0]
    exact wi_o (sp_tt hT.1 h) (wi_t rfl (wi_s (tq_wp_rt rfl)))
  · rcases bd_cases y (n := T.1) (by omega) with h' | ⟨j, hj, rfl, h'⟩
    · rw [if_pos (Or.inr h')]
      refine ⟨σ, go _ _ ?_, hX, fr.rf _ _ _ σ, Or.inl rfl⟩
      rw [bk_Tn_axiom_0]
      exact wi_o (sp_tf hT.1 h) (wi_f (by decide) (wi_o (sp_tt hT.1 h') (wi_t rfl (wi_s (tq_wp_rt rfl)))))
    · rw [if_neg (fun q => q.elim h h'), tq_nc (by omega), tq_nc (by omega)]
      obtain ⟨a1, a2⟩ := sp_addAxiom hm hX i j
      by_cases e : X.1 = 30
      · rw [if_pos e]
        refine ⟨σ, go _ _ ?_, hX, fr.rf _ _ _ σ, Or.inl rfl⟩
        rw [bk_Tn_axiom_0]
        exact wi_o (sp_tf hT.1 h) (wi_f (by decide) (wi_o (sp_tf hT.1 h') (wi_f (by decide) (wi_o (a1 e) (wi_s (tq_wp_rt rfl))))))
      · rw [if_neg e]
        obtain ⟨σ', g1, g2, g3, g4⟩ := a2 (by omega)
        refine ⟨σ', go _ _ ?_, g2, g4, Or.inr g3⟩
        rw [bk_Tn_axiom_0]
        exact wi_o (sp_tf hT.1 h) (wi_f (by decide) (wi_o (sp_tf hT.1 h') (wi_f (by decide) (wi_o g1 (wi_s (tq_wp_rt rfl))))))
theorem mo_axiom {T : ab_T} {X : ab_X} {σ : tq_S} (hw : wfT T) (hT : mTT T σ) (hm : X.1 ≤ 30) (hX : mX X σ) (x y : Int32) :
    ∃ σ', tq_fI st_Mo_axiom (0, [x, y], [], σ) = some ((oAx T.1 X x y).1, σ') ∧ mX (oAx T.1 X x y).2 σ' ∧ fr [21, 22] [] [15, 18] σ σ' ∧ (σ' = σ ∨ σ'.2.2 18 = 0) := by
  have h80 := hw.2.1
  have go : ∀ r σ', tq_wo (bk_Mo_axiom_0 [x, y] [] σ) (tq_wp st_Mo_axiom (fun d => d = (tq_rt, [r], [], σ'))) → tq_fI st_Mo_axiom (0, [x, y], [], σ) = some (r, σ') := fun r σ' h => tq_fI_e (tq_at (by decide) h)
  unfold oAx
  rcases bd_cases x (n := T.1) (by omega) with h | ⟨i, hi, rfl, h⟩
  · rw [if_pos (Or.inl h)]
    refine ⟨σ, go _ _ ?_, hX, fr.rf _ _ _ σ, Or.inl rfl⟩
    rw [bk_Mo_axiom_0]
    exact wi_o (sp_ct hT.1 h) (wi_t rfl (wi_s (tq_wp_rt rfl)))
  · rcases bd_cases y (n := T.1) (by omega) with h' | ⟨j, hj, rfl, h'⟩
    · rw [if_pos (Or.inr h')]
      refine ⟨σ, go _ _ ?_, hX, fr.rf _ _ _ σ, Or.inl rfl⟩
      rw [bk_Mo_axiom_0]
      exact wi_o (sp_cf hT.1 h) (wi_f (by decide) (wi_o (sp_ct hT.1 h') (wi_f (fun q => q rfl) (wi_s (tq_wp_rt rfl)))))
    · rw [if_neg (fun q => q.elim h h'), tq_nc (by omega), tq_nc (by omega)]
      obtain ⟨h0, h1⟩ := id hX
      have c30 : (nI X.1 = 30 ↔ X.1 = 30) := tq_eq (b := 30) (by omega) (by omega)
      by_cases e : X.1 = 30
      · rw [if_pos e]
        refine ⟨σ, go _ _ ?_, hX, fr.rf _ _ _ σ, Or.inl rfl⟩
        rw [bk_Mo_axiom_0]
        exact wi_o (sp_cf hT.1 h) (wi_f (by decide) (wi_o (sp_cf hT.1 h') (wi_t (by decide) (wi_f (fun q => q (by rw [h0]; exact c30.mpr e)) (wi_s (tq_wp_rt rfl))))))
      · rw [if_neg e]
        obtain ⟨σ1, e1⟩ : ∃ σ1, σ1 = iput (iput σ 21 X.1 (nI i)) 22 X.1 (nI j) := ⟨_, rfl⟩
        refine ⟨fput (fput σ1 15 (nI (X.1 + 1))) 18 0, go _ _ ?_, ⟨?_, fun q hq => ?_⟩, ?_, Or.inr (fput_s _ _ _)⟩
        · rw [bk_Mo_axiom_0]
          have vi : vp_in (nI X.1) 30 := tq_vin (by omega) (by omega)
          refine wi_o (sp_cf hT.1 h) (wi_f (by decide) (wi_o (sp_cf hT.1 h') (wi_t (by decide) ?_)))
          rw [h0]
          refine wi_t (fun q => e (c30.mp q)) (wi_g vi (wi_l ?_))
          have e2 : (iput σ 21 (nI X.1).toNatClampNeg (nI i)).2.2 15 = nI X.1 := h0
          rw [e2, tq_nc (by omega)]
          refine wi_g vi (wi_l (wi_l (wi_l (wi_s (tq_wp_rt ?_)))))
          rw [← e1]
          have e3 : σ1.2.2 15 = nI X.1 := by rw [e1]; exact h0
          rw [e3, tq_inc, fput_n _ _ (show (15 : Nat) ≠ 18 by decide), fput_s]
          rw [show nI (X.1 + 1) - 1 = nI X.1 from nI_pred _]
        · rw [fput_n _ _ (show (15 : Nat) ≠ 18 by decide), fput_s]
        · show σ1.1 21 q = nI (va_up X.2.1 X.1 i q) ∧ σ1.1 22 q = nI (va_up X.2.2 X.1 j q)
          rw [e1, iput_n _ _ _ (show (21 : Nat) ≠ 22 by decide), iput_s, iput_s, iput_n _ _ _ (show (22 : Nat) ≠ 21 by decide)]
          have hq : q < X.1 + 1 := hq
          by_cases e : q = X.1
          · rw [if_pos e, if_pos e, e, va_up_self, va_up_self]; exact ⟨rfl, rfl⟩
          · rw [if_neg e, if_neg e, va_up_ne _ _ e, va_up_ne _ _ e]; exact h1 q (by omega)
        · rw [e1]
          exact ((fr.i (by decide)).tr (fr.i (by decide))).tr ((fr.f (by decide)).tr (fr.f (by decide)))
def oDrop (X : ab_X) : Int32 × ab_X := if X.1 = 0 then (-2, X) else (nI (X.1 - 1), (X.1 - 1, X.2.1, X.2.2))
theorem cl_drop {X : ab_X} {σ : tq_S} (hm : X.1 ≤ 30) (hX : cX X σ) : ∃ σ', tq_fI st_Tn_drop (0, [], [], σ) = some ((oDrop X).1, σ') ∧ cX (oDrop X).2 σ' ∧ fr [] [] [2, 4] σ σ' ∧ (σ' = σ ∨ σ'.2.2 4 = 1) := by
  obtain ⟨h0, h1⟩ := id hX
  have c0 : (0 < nI X.1 ↔ 0 < X.1) := tq_lt (a := 0) (by omega) (by omega)
  have go : ∀ r σ', tq_wo (bk_Go_dropAxiom_0 [] [] σ) (tq_wp st_Go_dropAxiom (fun d => d = (tq_rt, [r], [], σ'))) → tq_fI st_Tn_drop (0, [], [], σ) = some (r, σ') := fun r σ' h => by
    have h : tq_fI st_Go_dropAxiom (0, [], [], σ) = some (r, σ') := tq_fI_e (tq_at (by decide) h)
    refine tq_fI_e (tq_at (by decide) ?_)
    show tq_wo (bk_Tn_drop_0 [] [] σ) _
    rw [bk_Tn_drop_0]
    exact wi_o h (wi_s (tq_wp_rt rfl))
  unfold oDrop
  by_cases e : X.1 = 0
  · rw [if_pos e]
    refine ⟨σ, go _ _ ?_, hX, fr.rf _ _ _ σ, Or.inl rfl⟩
    rw [bk_Go_dropAxiom_0, h0]
    exact wi_f (fun q => absurd (c0.mp q) (by omega)) (wi_s (tq_wp_rt rfl))
  · rw [if_neg e]
    refine ⟨fput (fput σ 2 (nI (X.1 - 1))) 4 1, go _ _ ?_, ⟨?_, fun i hi => h1 i (by have : i < X.1 - 1 := hi; omega)⟩, (fr.f (by decide)).tr (fr.f (by decide)), Or.inr (fput_s _ _ _)⟩
    · rw [bk_Go_dropAxiom_0, h0]
      refine wi_t (c0.mpr (by omega)) (wi_l (wi_l (wi_s (tq_wp_rt ?_))))
      rw [show nI X.1 - 1 = nI (X.1 - 1) from pk_sub (b := 1) (by omega), fput_n _ _ (show (2 : Nat) ≠ 4 by decide), fput_s]
    · rw [fput_n _ _ (show (2 : Nat) ≠ 4 by decide), fput_s]
theorem mo_drop {X : ab_X} {σ : tq_S} (hm : X.1 ≤ 30) (hX : mX X σ) : ∃ σ', tq_fI st_Mo_drop (0, [], [], σ) = some ((oDrop X).1, σ') ∧ mX (oDrop X).2 σ' ∧ fr [] [] [15, 18] σ σ' ∧ (σ' = σ ∨ σ'.2.2 18 = 0) := by
  obtain ⟨h0, h1⟩ := id hX
  have c0 : (nI X.1 = 0 ↔ X.1 = 0) := tq_eq (b := 0) (by omega) (by omega)
  have go : ∀ r σ', tq_wo (bk_Mo_drop_0 [] [] σ) (tq_wp st_Mo_drop (fun d => d = (tq_rt, [r], [], σ'))) → tq_fI st_Mo_drop (0, [], [], σ) = some (r, σ') := fun r σ' h => tq_fI_e (tq_at (by decide) h)
  unfold oDrop
  by_cases e : X.1 = 0
  · rw [if_pos e]
    refine ⟨σ, go _ _ ?_, hX, fr.rf _ _ _ σ, Or.inl rfl⟩
    rw [bk_Mo_drop_0, h0]
    exact wi_f (fun q => q (c0.mpr e)) (wi_s (tq_wp_rt rfl))
  · rw [if_neg e]
    refine ⟨fput (fput σ 15 (nI (X.1 - 1))) 18 0, go _ _ ?_, ⟨?_, fun i hi => h1 i (by have : i < X.1 - 1 := hi; omega)⟩, (fr.f (by decide)).tr (fr.f (by decide)), Or.inr (fput_s _ _ _)⟩
    · rw [bk_Mo_drop_0, h0]
      refine wi_t (fun q => e (c0.mp q)) (wi_l (wi_l (wi_s (tq_wp_rt ?_))))
      rw [show nI X.1 - 1 = nI (X.1 - 1) from pk_sub (b := 1) (by omega), fput_n _ _ (show (15 : Nat) ≠ 18 by decide), fput_s]
    · rw [fput_n _ _ (show (15 : Nat) ≠ 18 by decide), fput_s]
