/-! class0, concept, told, concepts, atoms: both sides against the plain table -/
def bd (n : Nat) (x : Int32) : Prop := x < 0 ∨ nI n ≤ x
theorem bd_cases (x : Int32) {n : Nat} (hn : n < 2147483648) : bd n x ∨ ∃ j : Nat, j < n ∧ x = nI j ∧ ¬ bd n x := by
  rcases pk_ix x (n := n) (by omega) with h | h | ⟨j, h1, h2⟩
  · exact Or.inl (Or.inl h)
  · exact Or.inl (Or.inr h)
  · refine Or.inr ⟨j, h1, h2, fun q => ?_⟩
    rw [h2] at q
    rcases q with q | q
    · exact tq_n0 (by omega) q
    · exact nI_ge h1 (by omega) q
noncomputable def bdi (n : Nat) (x : Int32) : Int32 := @ite _ (bd n x) (Classical.propDecidable _) 0 1
theorem bdi_t {n : Nat} {x : Int32} (h : bd n x) : bdi n x = 0 := by unfold bdi; rw [if_pos h]
theorem bdi_f {n : Nat} {x : Int32} (h : ¬ bd n x) : bdi n x = 1 := by unfold bdi; rw [if_neg h]
theorem sp_below {n : Nat} (x : Int32) (σ : tq_S) : tq_fI st_Tn_isBelow (0, [x, nI n], [], σ) = some (bdi n x, σ) := by
  rw [sp_isBelow]
  by_cases h1 : x < 0
  · rw [if_pos h1, bdi_t (Or.inl h1)]
  · rw [if_neg h1]
    by_cases h2 : nI n ≤ x
    · rw [if_pos h2, bdi_t (Or.inr h2)]
    · rw [if_neg h2, bdi_f (fun q => q.elim h1 h2)]
theorem sp_isThere {n : Nat} {σ : tq_S} (h0 : σ.2.2 0 = nI n) (x : Int32) : tq_fI st_Co_isThere (0, [x], [], σ) = some (bdi n x, σ) := by
  refine tq_fI_e (tq_at (by decide) ?_)
  show tq_wo (bk_Co_isThere_0 [x] [] σ) _
  rw [bk_Co_isThere_0, h0]
  exact wi_c (fun h => wi_s (tq_wp_rt (by rw [bdi_t (Or.inl h)]))) (fun h => wi_c (fun h2 => wi_s (tq_wp_rt (by rw [bdi_t (Or.inr h2)]))) (fun h2 => wi_s (tq_wp_rt (by rw [bdi_f (fun q => q.elim h h2)]))))
theorem sp_isConcept {n : Nat} {σ : tq_S} (h0 : σ.2.2 13 = nI n) (x : Int32) : tq_fI st_Mo_isConcept (0, [x], [], σ) = some (bdi n x, σ) := by
  refine tq_fI_e (tq_at (by decide) ?_)
  show tq_wo (bk_Mo_isConcept_0 [x] [] σ) _
  rw [bk_Mo_isConcept_0, h0]
  exact wi_c (fun h => wi_s (tq_wp_rt (by rw [bdi_t (Or.inl h)]))) (fun h => wi_c (fun h2 => wi_s (tq_wp_rt (by rw [bdi_t (Or.inr h2)]))) (fun h2 => wi_s (tq_wp_rt (by rw [bdi_f (fun q => q.elim h h2)]))))
theorem sp_isRole (x : Int32) (σ : tq_S) : tq_fI st_Mo_isRole (0, [x], [], σ) = some (bdi 4 x, σ) := by
  refine tq_fI_e (tq_at (by decide) ?_)
  show tq_wo (bk_Mo_isRole_0 [x] [] σ) _
  rw [bk_Mo_isRole_0]
  exact wi_c (fun h => wi_s (tq_wp_rt (by rw [bdi_t (Or.inl h)]))) (fun h => wi_c (fun h2 => wi_s (tq_wp_rt (by rw [bdi_t (Or.inr h2)]))) (fun h2 => wi_s (tq_wp_rt (by rw [bdi_f (fun q => q.elim h h2)]))))
theorem sp_isThing (x : Int32) (σ : tq_S) : tq_fI st_Mo_isThing (0, [x], [], σ) = some (bdi 5 x, σ) := by
  refine tq_fI_e (tq_at (by decide) ?_)
  show tq_wo (bk_Mo_isThing_0 [x] [] σ) _
  rw [bk_Mo_isThing_0]
  exact wi_c (fun h => wi_s (tq_wp_rt (by rw [bdi_t (Or.inl h)]))) (fun h => wi_c (fun h2 => wi_s (tq_wp_rt (by rw [bdi_t (Or.inr h2)]))) (fun h2 => wi_s (tq_wp_rt (by rw [bdi_f (fun q => q.elim h h2)]))))
theorem sp_bt {n : Nat} {x : Int32} {σ : tq_S} (h : bd n x) : tq_fI st_Tn_isBelow (0, [x, nI n], [], σ) = some (0, σ) := by rw [sp_below, bdi_t h]
theorem sp_bf {n : Nat} {x : Int32} {σ : tq_S} (h : ¬ bd n x) : tq_fI st_Tn_isBelow (0, [x, nI n], [], σ) = some (1, σ) := by rw [sp_below, bdi_f h]
theorem sp_tt {n : Nat} {x : Int32} {σ : tq_S} (h0 : σ.2.2 0 = nI n) (h : bd n x) : tq_fI st_Co_isThere (0, [x], [], σ) = some (0, σ) := by rw [sp_isThere h0, bdi_t h]
theorem sp_tf {n : Nat} {x : Int32} {σ : tq_S} (h0 : σ.2.2 0 = nI n) (h : ¬ bd n x) : tq_fI st_Co_isThere (0, [x], [], σ) = some (1, σ) := by rw [sp_isThere h0, bdi_f h]
theorem sp_ct {n : Nat} {x : Int32} {σ : tq_S} (h0 : σ.2.2 13 = nI n) (h : bd n x) : tq_fI st_Mo_isConcept (0, [x], [], σ) = some (0, σ) := by rw [sp_isConcept h0, bdi_t h]
theorem sp_cf {n : Nat} {x : Int32} {σ : tq_S} (h0 : σ.2.2 13 = nI n) (h : ¬ bd n x) : tq_fI st_Mo_isConcept (0, [x], [], σ) = some (1, σ) := by rw [sp_isConcept h0, bdi_f h]
theorem sp_rt {x : Int32} {σ : tq_S} (h : bd 4 x) : tq_fI st_Mo_isRole (0, [x], [], σ) = some (0, σ) := by rw [sp_isRole, bdi_t h]
theorem sp_rf {x : Int32} {σ : tq_S} (h : ¬ bd 4 x) : tq_fI st_Mo_isRole (0, [x], [], σ) = some (1, σ) := by rw [sp_isRole, bdi_f h]
def rs (p : Option Nat × ab_T) : Int32 × ab_T := (an p.1, p.2)
noncomputable def oC0 (T : ab_T) (x : Int32) : Int32 × ab_T := @ite _ (bd 10 x) (Classical.propDecidable _) (-1, T) (rs (mk T 2 x.toNatClampNeg 0))
noncomputable def oBin (T : ab_T) (k : Nat) (x y : Int32) : Int32 × ab_T := @ite _ (bd T.1 x ∨ bd T.1 y) (Classical.propDecidable _) (-1, T) (rs (mk T k x.toNatClampNeg y.toNatClampNeg))
noncomputable def oCon (T : ab_T) (k x y : Int32) : Int32 × ab_T :=
  if k = 3 then @ite _ (bd T.1 x) (Classical.propDecidable _) (-1, T) (rs (mk T 3 x.toNatClampNeg 0)) else if k = 4 then oBin T 4 x y else if k = 5 then oBin T 5 x y
  else if k = 6 then @ite _ (bd 4 x ∨ bd T.1 y) (Classical.propDecidable _) (-1, T) (rs (mk T 6 x.toNatClampNeg y.toNatClampNeg)) else if k = 7 then @ite _ (bd 4 x ∨ bd T.1 y) (Classical.propDecidable _) (-1, T) (rs (mkA T x.toNatClampNeg y.toNatClampNeg)) else (-1, T)
/-! the class's side: answer, table, frame -/
def sdC (st : tq_C → Option tq_C) (xs : List Int32) (σ : tq_S) (o : Int32 × ab_T) : Prop := ∃ σ', tq_fI st (0, xs, [], σ) = some (o.1, σ') ∧ cTT o.2 σ' ∧ frC σ σ' ∧ wfT o.2
def sdM (st : tq_C → Option tq_C) (xs : List Int32) (σ : tq_S) (o : Int32 × ab_T) : Prop := ∃ σ', tq_fI st (0, xs, [], σ) = some (o.1, σ') ∧ mTT o.2 σ' ∧ frT σ σ'
theorem sdC_of {st : tq_C → Option tq_C} {xs : List Int32} {σ σ' : tq_S} {o : Int32 × ab_T} (h : tq_wo (st (0, xs, [], σ)) (tq_wp st (fun d => d = (tq_rt, [o.1], [], σ')))) (h1 : cTT o.2 σ') (h2 : frC σ σ') (h3 : wfT o.2) : sdC st xs σ o := ⟨σ', tq_fI_e (tq_at (by decide) h), h1, h2, h3⟩
theorem sdM_of {st : tq_C → Option tq_C} {xs : List Int32} {σ σ' : tq_S} {o : Int32 × ab_T} (h : tq_wo (st (0, xs, [], σ)) (tq_wp st (fun d => d = (tq_rt, [o.1], [], σ')))) (h1 : mTT o.2 σ') (h2 : frT σ σ') : sdM st xs σ o := ⟨σ', tq_fI_e (tq_at (by decide) h), h1, h2⟩
theorem sp_make' {T : ab_T} {σ : tq_S} (hw : wfT T) (hT : cTT T σ) {k a b : Nat} (ho : okN T k a b) : ∃ σ', tq_fI st_Co_make (0, [nI k, nI a, nI b], [], σ) = some (an (mk T k a b).1, σ') ∧ cTT (mk T k a b).2 σ' ∧ frC σ σ' ∧ wfT (mk T k a b).2 := by
  have h80 := hw.2.1
  have ho' := ho
  unfold okN at ho'
  obtain ⟨σ', h1, h2, h3⟩ := sp_make (wf_wb hw) hT (k := k) (a := a) (b := b) (by omega) (by omega) (by omega) (fun q => by omega) (fun q => by omega) (fun q => by omega)
  exact ⟨σ', h1, h2, h3, wf_mk hw ho⟩
theorem sp_Mo_make' {T : ab_T} {σ : tq_S} (hw : wfT T) (hT : mTT T σ) {k a b : Nat} (ho : okN T k a b) : ∃ σ', tq_fI st_Mo_make (0, [nI k, nI a, nI b], [], σ) = some (an (mk T k a b).1, σ') ∧ mTT (mk T k a b).2 σ' ∧ frT σ σ' ∧ wfT (mk T k a b).2 := by
  have h80 := hw.2.1
  have ho' := ho
  unfold okN at ho'
  obtain ⟨σ', h1, h2, h3⟩ := sp_Mo_make (wf_wb hw) hT (k := k) (a := a) (b := b) (by omega) (by omega) (by omega)
  exact ⟨σ', h1, h2, h3, wf_mk hw ho⟩
theorem cl_class0 {T : ab_T} {σ : tq_S} (hw : wfT T) (hT : cTT T σ) (x : Int32) : sdC st_Tn_class0 [x] σ (oC0 T x) := by
  unfold oC0
  rcases bd_cases x (n := 10) (by omega) with h | ⟨j, hj, rfl, h⟩
  · rw [if_pos h]
    refine sdC_of ?_ hT (frC.rf σ) hw
    show tq_wo (bk_Tn_class0_0 [x] [] σ) _
    rw [bk_Tn_class0_0]
    exact wi_o (sp_bt (n := 10) h) (wi_t rfl (wi_s (tq_wp_rt rfl)))
  · rw [if_neg h, tq_nc (by omega)]
    obtain ⟨σ', h1, h2, h3, h4⟩ := sp_make' hw hT (k := 2) (a := j) (b := 0) (Or.inl ⟨rfl, hj, rfl⟩)
    refine sdC_of ?_ h2 h3 h4
    show tq_wo (bk_Tn_class0_0 [nI j] [] σ) _
    rw [bk_Tn_class0_0]
    exact wi_o (sp_bf (n := 10) h) (wi_f (by decide) (wi_o h1 (wi_s (tq_wp_rt rfl))))
theorem mo_class0 {T : ab_T} {σ : tq_S} (hw : wfT T) (hT : mTT T σ) (x : Int32) : sdM st_Mo_class0 [x] σ (oC0 T x) := by
  unfold oC0
  rcases bd_cases x (n := 10) (by omega) with h | ⟨j, hj, rfl, h⟩
  · rw [if_pos h]
    refine sdM_of ?_ hT (frT.rf σ)
    show tq_wo (bk_Mo_class0_0 [x] [] σ) _
    rw [bk_Mo_class0_0]
    refine wi_c (fun _ => wi_s (tq_wp_rt rfl)) (fun h0 => wi_f (fun q => ?_) (wi_s (tq_wp_rt rfl)))
    rcases h with h | h
    · exact h0 h
    · have : (nI 10).toInt ≤ (9 : Int32).toInt := Int.le_trans (Int32.le_iff_toInt_le.mp h) (Int32.le_iff_toInt_le.mp q)
      exact absurd this (by decide)
  · rw [if_neg h, tq_nc (by omega)]
    obtain ⟨σ', h1, h2, h3, h4⟩ := sp_Mo_make' hw hT (k := 2) (a := j) (b := 0) (Or.inl ⟨rfl, hj, rfl⟩)
    refine sdM_of ?_ h2 h3
    show tq_wo (bk_Mo_class0_0 [nI j] [] σ) _
    rw [bk_Mo_class0_0]
    exact wi_f (tq_n0 (by omega)) (wi_t ((tq_le (b := 9) (by omega) (by omega)).mpr (by omega)) (wi_o h1 (wi_s (tq_wp_rt rfl))))
theorem cl_concept {T : ab_T} {σ : tq_S} (hw : wfT T) (hT : cTT T σ) (k x y : Int32) : sdC st_Tn_concept [k, x, y] σ (oCon T k x y) := by
  have h80 := hw.2.1
  have no : ∀ (o : Int32 × ab_T), o = (-1, T) → tq_wo (bk_Tn_concept_0 [k, x, y] [] σ) (tq_wp st_Tn_concept (fun d => d = (tq_rt, [-1], [], σ))) → sdC st_Tn_concept [k, x, y] σ o := by
    rintro o rfl h
    exact sdC_of h hT (frC.rf σ) hw
  have bin : ∀ kk : Nat, (kk = 4 ∨ kk = 5) → k = nI kk → (tq_wo (tq_ob (tq_fI st_Co_isThere (0, [x], [], σ)) (fun r9 σ10 => if r9 = 0 then some (tq_rt, [(-1)], [], σ10) else tq_ob (tq_fI st_Co_isThere (0, [y], [], σ10)) (fun r13 σ14 => if r13 = 0 then some (tq_rt, [(-1)], [], σ14) else tq_ob (tq_fI st_Co_make (0, [nI kk, x, y], [], σ14)) (fun r17 σ18 => some (tq_rt, [r17], [], σ18)))))) = (fun R => tq_wo (bk_Tn_concept_0 [k, x, y] [] σ) R) → sdC st_Tn_concept [k, x, y] σ (oBin T kk x y) := by
    intro kk hk ek hb
    unfold oBin
    rcases bd_cases x (n := T.1) (by omega) with h | ⟨i, hi, rfl, h⟩
    · rw [if_pos (Or.inl h)]
      refine no _ rfl ?_
      show (fun R => tq_wo (bk_Tn_concept_0 [k, x, y] [] σ) R) _
      rw [← hb]
      exact wi_o (sp_tt hT.1 h) (wi_t rfl (wi_s (tq_wp_rt rfl)))
    · rcases bd_cases y (n := T.1) (by omega) with h' | ⟨j, hj, rfl, h'⟩
      · rw [if_pos (Or.inr h')]
        refine no _ rfl ?_
        show (fun R => tq_wo (bk_Tn_concept_0 [k, nI i, y] [] σ) R) _
        rw [← hb]
        exact wi_o (sp_tf hT.1 h) (wi_f (by decide) (wi_o (sp_tt hT.1 h') (wi_t rfl (wi_s (tq_wp_rt rfl)))))
      · rw [if_neg (fun q => q.elim h h'), tq_nc (by omega), tq_nc (by omega)]
        obtain ⟨σ', h1, h2, h3, h4⟩ := sp_make' hw hT (k := kk) (a := i) (b := j) (by unfold okN; omega)
        refine sdC_of ?_ h2 h3 h4
        show (fun R => tq_wo (bk_Tn_concept_0 [k, nI i, nI j] [] σ) R) _
        rw [← hb]
        exact wi_o (sp_tf hT.1 h) (wi_f (by decide) (wi_o (sp_tf hT.1 h') (wi_f (by decide) (wi_o h1 (wi_s (tq_wp_rt rfl))))))
  unfold oCon
  by_cases k3 : k = 3
  · rw [if_pos k3]
    subst k3
    rcases bd_cases x (n := T.1) (by omega) with h | ⟨i, hi, rfl, h⟩
    · rw [if_pos h]
      refine no _ rfl ?_
      rw [bk_Tn_concept_0]
      exact wi_t rfl (wi_o (sp_tt hT.1 h) (wi_t rfl (wi_s (tq_wp_rt rfl))))
    · rw [if_neg h, tq_nc (by omega)]
      obtain ⟨σ', h1, h2, h3, h4⟩ := sp_make' hw hT (k := 3) (a := i) (b := 0) (by unfold okN; omega)
      refine sdC_of ?_ h2 h3 h4
      show tq_wo (bk_Tn_concept_0 [3, nI i, y] [] σ) _
      rw [bk_Tn_concept_0]
      exact wi_t rfl (wi_o (sp_tf hT.1 h) (wi_f (by decide) (wi_o h1 (wi_s (tq_wp_rt rfl)))))
  · rw [if_neg k3]
    by_cases k4 : k = 4
    · rw [if_pos k4]
      subst k4
      refine bin 4 (Or.inl rfl) rfl ?_
      rw [bk_Tn_concept_0]
      rw [if_neg k3, if_pos rfl]
      rfl
    · rw [if_neg k4]
      by_cases k5 : k = 5
      · rw [if_pos k5]
        subst k5
        refine bin 5 (Or.inr rfl) rfl ?_
        rw [bk_Tn_concept_0]
        rw [if_neg k3, if_neg k4, if_pos rfl]
        rfl
      · rw [if_neg k5]
        by_cases k6 : k = 6
        · rw [if_pos k6]
          subst k6
          have hd : ∀ R, tq_wo (tq_ob (tq_fI st_Tn_isBelow (0, [x, 4], [], σ)) (fun r31 σ32 => if r31 = 0 then some (tq_rt, [(-1)], [], σ32) else tq_ob (tq_fI st_Co_isThere (0, [y], [], σ32)) (fun r35 σ36 => if r35 = 0 then some (tq_rt, [(-1)], [], σ36) else tq_ob (tq_fI st_Co_make (0, [6, x, y], [], σ36)) (fun r39 σ40 => some (tq_rt, [r39], [], σ40))))) R → tq_wo (bk_Tn_concept_0 [6, x, y] [] σ) R := by
            intro R h
            rw [bk_Tn_concept_0]
            exact wi_f k3 (wi_f k4 (wi_f k5 (wi_t rfl h)))
          rcases bd_cases x (n := 4) (by omega) with h | ⟨i, hi, rfl, h⟩
          · rw [if_pos (Or.inl h)]
            exact no _ rfl (hd _ (wi_o (sp_bt (n := 4) h) (wi_t rfl (wi_s (tq_wp_rt rfl)))))
          · rcases bd_cases y (n := T.1) (by omega) with h' | ⟨j, hj, rfl, h'⟩
            · rw [if_pos (Or.inr h')]
              exact no _ rfl (hd _ (wi_o (sp_bf (n := 4) h) (wi_f (by decide) (wi_o (sp_tt hT.1 h') (wi_t rfl (wi_s (tq_wp_rt rfl)))))))
            · rw [if_neg (fun q => q.elim h h'), tq_nc (by omega), tq_nc (by omega)]
              obtain ⟨σ', h1, h2, h3, h4⟩ := sp_make' hw hT (k := 6) (a := i) (b := j) (by unfold okN; omega)
              exact sdC_of (hd _ (wi_o (sp_bf (n := 4) h) (wi_f (by decide) (wi_o (sp_tf hT.1 h') (wi_f (by decide) (wi_o h1 (wi_s (tq_wp_rt rfl)))))))) h2 h3 h4
        · rw [if_neg k6]
          by_cases k7 : k = 7
          · rw [if_pos k7]
            subst k7
            have hd : ∀ R, tq_wo (tq_ob (tq_fI st_Tn_isBelow (0, [x, 4], [], σ)) (fun r31 σ32 => if r31 = 0 then some (tq_rt, [(-1)], [], σ32) else tq_ob (tq_fI st_Co_isThere (0, [y], [], σ32)) (fun r35 σ36 => if r35 = 0 then some (tq_rt, [(-1)], [], σ36) else tq_ob (tq_fI st_Co_makeAll (0, [x, y], [], σ36)) (fun r39 σ40 => some (tq_rt, [r39], [], σ40))))) R → tq_wo (bk_Tn_concept_0 [7, x, y] [] σ) R := by
              intro R h
              rw [bk_Tn_concept_0]
              exact wi_f k3 (wi_f k4 (wi_f k5 (wi_f k6 (wi_t rfl h))))
            rcases bd_cases x (n := 4) (by omega) with h | ⟨i, hi, rfl, h⟩
            · rw [if_pos (Or.inl h)]
              exact no _ rfl (hd _ (wi_o (sp_bt (n := 4) h) (wi_t rfl (wi_s (tq_wp_rt rfl)))))
            · rcases bd_cases y (n := T.1) (by omega) with h' | ⟨j, hj, rfl, h'⟩
              · rw [if_pos (Or.inr h')]
                exact no _ rfl (hd _ (wi_o (sp_bf (n := 4) h) (wi_f (by decide) (wi_o (sp_tt hT.1 h') (wi_t rfl (wi_s (tq_wp_rt rfl)))))))
              · rw [if_neg (fun q => q.elim h h'), tq_nc (by omega), tq_nc (by omega)]
                obtain ⟨σ', h1, h2, h3, h4⟩ := sp_makeAll hw hT hi hj
                exact sdC_of (hd _ (wi_o (sp_bf (n := 4) h) (wi_f (by decide) (wi_o (sp_tf hT.1 h') (wi_f (by decide) (wi_o h1 (wi_s (tq_wp_rt rfl)))))))) h2 h3 h4
          · rw [if_neg k7]
            refine no _ rfl ?_
            rw [bk_Tn_concept_0]
            exact wi_f k3 (wi_f k4 (wi_f k5 (wi_f k6 (wi_f k7 (wi_s (tq_wp_rt rfl))))))
