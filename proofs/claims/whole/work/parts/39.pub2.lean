/-! the reference's concept; told, concepts, atoms of both -/
theorem mo_concept {T : ab_T} {σ : tq_S} (hw : wfT T) (hT : mTT T σ) (k x y : Int32) : sdM st_Mo_concept [k, x, y] σ (oCon T k x y) := by
  have h80 := hw.2.1
  have no : ∀ (o : Int32 × ab_T), o = (-1, T) → tq_wo (bk_Mo_concept_0 [k, x, y] [] σ) (tq_wp st_Mo_concept (fun d => d = (tq_rt, [-1], [], σ))) → sdM st_Mo_concept [k, x, y] σ o := by
    rintro o rfl h
    exact sdM_of h hT (frT.rf σ)
  have bin : ∀ kk : Nat, (kk = 4 ∨ kk = 5) → k = nI kk → (∀ Q, tq_wp st_Mo_concept Q (35, [k, x, y], [], σ) → tq_wo (bk_Mo_concept_0 [k, x, y] [] σ) (tq_wp st_Mo_concept Q)) → sdM st_Mo_concept [k, x, y] σ (oBin T kk x y) := by
    intro kk hk ek hb
    unfold oBin
    rcases bd_cases x (n := T.1) (by omega) with h | ⟨i, hi, rfl, h⟩
    · rw [if_pos (Or.inl h)]
      refine no _ rfl (hb _ (tq_at (by decide) ?_))
      show tq_wo (bk_Mo_concept_35 [k, x, y] [] σ) _
      rw [bk_Mo_concept_35]
      exact wi_o (sp_ct hT.1 h) (wi_t rfl (wi_s (tq_wp_rt rfl)))
    · rcases bd_cases y (n := T.1) (by omega) with h' | ⟨j, hj, rfl, h'⟩
      · rw [if_pos (Or.inr h')]
        refine no _ rfl (hb _ (tq_at (by decide) ?_))
        show tq_wo (bk_Mo_concept_35 [k, nI i, y] [] σ) _
        rw [bk_Mo_concept_35]
        exact wi_o (sp_cf hT.1 h) (wi_f (by decide) (wi_o (sp_ct hT.1 h') (wi_t rfl (wi_s (tq_wp_rt rfl)))))
      · rw [if_neg (fun q => q.elim h h'), tq_nc (by omega), tq_nc (by omega)]
        obtain ⟨σ', h1, h2, h3, h4⟩ := sp_Mo_make' hw hT (k := kk) (a := i) (b := j) (by unfold okN; omega)
        refine sdM_of (hb _ (tq_at (by decide) ?_)) h2 h3
        show tq_wo (bk_Mo_concept_35 [k, nI i, nI j] [] σ) _
        rw [bk_Mo_concept_35]
        exact wi_o (sp_cf hT.1 h) (wi_f (by decide) (wi_o (sp_cf hT.1 h') (wi_f (by decide) (wi_o (by rw [ek]; exact h1) (wi_s (tq_wp_rt rfl))))))
  unfold oCon
  by_cases k3 : k = 3
  · rw [if_pos k3]
    subst k3
    rcases bd_cases x (n := T.1) (by omega) with h | ⟨i, hi, rfl, h⟩
    · rw [if_pos h]
      refine no _ rfl ?_
      rw [bk_Mo_concept_0]
      exact wi_f (fun q => q rfl) (wi_o (sp_ct hT.1 h) (wi_t rfl (wi_s (tq_wp_rt rfl))))
    · rw [if_neg h, tq_nc (by omega)]
      obtain ⟨σ', h1, h2, h3, h4⟩ := sp_Mo_make' hw hT (k := 3) (a := i) (b := 0) (by unfold okN; omega)
      refine sdM_of ?_ h2 h3
      show tq_wo (bk_Mo_concept_0 [3, nI i, y] [] σ) _
      rw [bk_Mo_concept_0]
      exact wi_f (fun q => q rfl) (wi_o (sp_cf hT.1 h) (wi_f (by decide) (wi_o h1 (wi_s (tq_wp_rt rfl)))))
  · rw [if_neg k3]
    by_cases k4 : k = 4
    · rw [if_pos k4]
      refine bin 4 (Or.inl rfl) k4 (fun Q h => ?_)
      rw [bk_Mo_concept_0]
      exact wi_t k3 (wi_t k4 (wi_s h))
    · rw [if_neg k4]
      by_cases k5 : k = 5
      · rw [if_pos k5]
        refine bin 5 (Or.inr rfl) k5 (fun Q h => ?_)
        rw [bk_Mo_concept_0]
        exact wi_t k3 (wi_f k4 (wi_f (fun q => q k5) (wi_s h)))
      · rw [if_neg k5]
        by_cases k6 : k = 6
        · rw [if_pos k6]
          subst k6
          have hb : ∀ Q, tq_wo (bk_Mo_concept_75 [6, x, y] [] σ) (tq_wp st_Mo_concept Q) → tq_wo (bk_Mo_concept_0 [6, x, y] [] σ) (tq_wp st_Mo_concept Q) := fun Q h => by
            rw [bk_Mo_concept_0]
            exact wi_t k3 (wi_f k4 (wi_t k5 (wi_t rfl (wi_s (tq_at (by decide) h)))))
          rcases bd_cases x (n := 4) (by omega) with h | ⟨i, hi, rfl, h⟩
          · rw [if_pos (Or.inl h)]
            refine no _ rfl (hb _ ?_)
            rw [bk_Mo_concept_75]
            exact wi_o (sp_rt h) (wi_t rfl (wi_s (tq_wp_rt rfl)))
          · rcases bd_cases y (n := T.1) (by omega) with h' | ⟨j, hj, rfl, h'⟩
            · rw [if_pos (Or.inr h')]
              refine no _ rfl (hb _ ?_)
              rw [bk_Mo_concept_75]
              exact wi_o (sp_rf h) (wi_f (by decide) (wi_o (sp_ct hT.1 h') (wi_f (fun q => q rfl) (wi_s (tq_wp_rt rfl)))))
            · rw [if_neg (fun q => q.elim h h'), tq_nc (by omega), tq_nc (by omega)]
              obtain ⟨σ', h1, h2, h3, h4⟩ := sp_Mo_make' hw hT (k := 6) (a := i) (b := j) (by unfold okN; omega)
              refine sdM_of (hb _ ?_) h2 h3
              rw [bk_Mo_concept_75]
              exact wi_o (sp_rf h) (wi_f (by decide) (wi_o (sp_cf hT.1 h') (wi_t (by decide) (wi_f (fun q => q rfl) (wi_o h1 (wi_s (tq_wp_rt rfl)))))))
        · rw [if_neg k6]
          by_cases k7 : k = 7
          · rw [if_pos k7]
            subst k7
            have hb : ∀ Q, tq_wo (bk_Mo_concept_75 [7, x, y] [] σ) (tq_wp st_Mo_concept Q) → tq_wo (bk_Mo_concept_0 [7, x, y] [] σ) (tq_wp st_Mo_concept Q) := fun Q h => by
              rw [bk_Mo_concept_0]
              exact wi_t k3 (wi_f k4 (wi_t k5 (wi_f k6 (wi_f (fun q => q rfl) (wi_s (tq_at (by decide) h))))))
            rcases bd_cases x (n := 4) (by omega) with h | ⟨r, hr, rfl, h⟩
            · rw [if_pos (Or.inl h)]
              refine no _ rfl (hb _ ?_)
              rw [bk_Mo_concept_75]
              exact wi_o (sp_rt h) (wi_t rfl (wi_s (tq_wp_rt rfl)))
            · rcases bd_cases y (n := T.1) (by omega) with h' | ⟨b, hbn, rfl, h'⟩
              · rw [if_pos (Or.inr h')]
                refine no _ rfl (hb _ ?_)
                rw [bk_Mo_concept_75]
                exact wi_o (sp_rf h) (wi_f (by decide) (wi_o (sp_ct hT.1 h') (wi_f (fun q => q rfl) (wi_s (tq_wp_rt rfl)))))
              · rw [if_neg (fun q => q.elim h h'), tq_nc (by omega), tq_nc (by omega)]
                obtain ⟨σ1, f1, t1, fr1, w1⟩ := sp_Mo_make' hw hT (k := 3) (a := b) (b := 0) (by unfold okN; omega)
                have s3 := @mk_some T 3 b 0
                have mn := mk_n (T := T) (k := 3) (a := b) (b := 0)
                have hd : ∀ R, tq_wo (tq_ob (tq_fI st_Mo_make (0, [3, nI b, 0], [], σ)) (fun r34 σ35 => if r34 = (-3) then some (tq_rt, [(-3)], [], σ35) else tq_ob (tq_fI st_Mo_make (0, [6, nI r, r34], [], σ35)) (fun r38 σ39 => if ¬ r38 = (-3) then tq_ob (tq_fI st_Mo_make (0, [7, nI r, nI b], [], σ39)) (fun r42 σ43 => some (tq_rt, [r42], [], σ43)) else some (tq_rt, [(-3)], [], σ39)))) R → tq_wo (bk_Mo_concept_75 [7, nI r, nI b] [] σ) R := by
                  intro R g
                  rw [bk_Mo_concept_75]
                  exact wi_o (sp_rf h) (wi_f (by decide) (wi_o (sp_cf hT.1 h') (wi_t (by decide) (wi_t k6 g))))
                unfold mkA
                rcases hm : mk T 3 b 0 with ⟨_ | z, T1⟩
                · rw [hm] at f1 t1 w1
                  exact sdM_of (hb _ (hd _ (wi_o f1 (wi_t rfl (wi_s (tq_wp_rt rfl)))))) t1 fr1
                · rw [hm] at f1 t1 w1 s3 mn
                  obtain ⟨q1, q2⟩ := s3 rfl
                  dsimp only at q1 q2 f1 t1 w1 mn ⊢
                  have w180 := w1.2.1
                  obtain ⟨σ2, f2, t2, fr2, w2⟩ := sp_Mo_make' w1 t1 (k := 6) (a := r) (b := z) (by unfold okN; omega)
                  have k3' := fd_keep (T := T1) (k := 6) (a := r) (b := z) (x := 3) (y := b) (z := 0) (by rw [q2]; exact q1)
                  have s6 := @mk_some T1 6 r z
                  have mn2 := mk_n (T := T1) (k := 6) (a := r) (b := z)
                  rcases hm2 : mk T1 6 r z with ⟨_ | u, T2⟩
                  · rw [hm2] at f2 t2 w2
                    exact sdM_of (hb _ (hd _ (wi_o f1 (wi_f (an_3 (by omega)) (wi_o f2 (wi_f (fun q => q rfl) (wi_s (tq_wp_rt rfl)))))))) t2 (fr1.tr fr2)
                  · rw [hm2] at f2 t2 w2 k3' s6 mn2
                    obtain ⟨p1, p2⟩ := s6 rfl
                    dsimp only at p1 p2 f2 t2 w2 k3' mn2 ⊢
                    rw [q2] at k3'
                    have w280 := w2.2.1
                    have e3 : fdT T2 3 b 0 < T2.1 := by rw [k3']; omega
                    have e6 : fdT T2 6 r (fdT T2 3 b 0) < T2.1 := by rw [k3', p2]; exact p1
                    obtain ⟨σ3, f3, t3, fr3, w3⟩ := sp_Mo_make' w2 t2 (k := 7) (a := r) (b := b) (Or.inr (Or.inr (Or.inr (Or.inr (Or.inr ⟨rfl, hr, by omega, e3, e6⟩)))))
                    exact sdM_of (hb _ (hd _ (wi_o f1 (wi_f (an_3 (by omega)) (wi_o f2 (wi_t (an_3 (by omega)) (wi_o f3 (wi_s (tq_wp_rt rfl))))))))) t3 ((fr1.tr fr2).tr fr3)
          · rw [if_neg k7]
            refine no _ rfl ?_
            rw [bk_Mo_concept_0]
            exact wi_t k3 (wi_f k4 (wi_t k5 (wi_f k6 (wi_t k7 (wi_s (tq_wp_rt rfl))))))
/-! told, concepts, atoms: nothing changes -/
noncomputable def oTold (T : ab_T) (x y : Int32) : Int32 := @ite _ (bd T.1 x) (Classical.propDecidable _) (-1) (if y = 0 then nI (T.2.1 x.toNatClampNeg) else if y = 1 then nI (T.2.2.1 x.toNatClampNeg) else if y = 2 then nI (T.2.2.2 x.toNatClampNeg) else -1)
theorem cl_told {T : ab_T} {σ : tq_S} (hw : wfT T) (hT : cTT T σ) (x y : Int32) : tq_fI st_Tn_told (0, [x, y], [], σ) = some (oTold T x y, σ) := by
  have h80 := hw.2.1
  have pt : ∀ j, j < T.1 → tq_fI st_Co_part (0, [nI j, y], [], σ) = some (if y = 0 then nI (T.2.1 j) else if y = 1 then nI (T.2.2.1 j) else if y = 2 then nI (T.2.2.2 j) else -1, σ) := by
    intro j hj
    have hnb : ¬ bd T.1 (nI j) := fun q => q.elim (tq_n0 (by omega)) (nI_ge hj (by omega))
    obtain ⟨e0, e1, e2⟩ := hT.2.2.1 j hj
    refine tq_fI_e (tq_at (by decide) ?_)
    show tq_wo (bk_Co_part_0 [nI j, y] [] σ) _
    rw [bk_Co_part_0]
    simp only [ia]
    have vi : vp_in (nI j) 80 := tq_vin (by omega) (by omega)
    refine wi_o (sp_tf hT.1 hnb) (wi_t (by decide) (wi_c (fun q => wi_g vi (wi_s (tq_wp_rt ?_))) (fun q => wi_c (fun q' => wi_g vi (wi_s (tq_wp_rt ?_))) (fun q' => wi_c (fun q'' => wi_g vi (wi_s (tq_wp_rt ?_))) (fun q'' => wi_s (tq_wp_rt ?_))))))
    · rw [if_pos q, tq_nc (by omega), e0]
    · rw [if_neg q, if_pos q', tq_nc (by omega), e1]
    · rw [if_neg q, if_neg q', if_pos q'', tq_nc (by omega), e2]
    · rw [if_neg q, if_neg q', if_neg q'']
  unfold oTold
  refine tq_fI_e (tq_at (by decide) ?_)
  show tq_wo (bk_Tn_told_0 [x, y] [] σ) _
  rw [bk_Tn_told_0]
  rcases bd_cases x (n := T.1) (by omega) with h | ⟨j, hj, rfl, h⟩
  · rw [if_pos h]
    exact wi_o (sp_tt hT.1 h) (wi_t rfl (wi_s (tq_wp_rt rfl)))
  · rw [if_neg h, tq_nc (by omega)]
    exact wi_o (sp_tf hT.1 h) (wi_f (by decide) (wi_o (pt j hj) (wi_s (tq_wp_rt rfl))))
theorem mo_told {T : ab_T} {σ : tq_S} (hw : wfT T) (hT : mTT T σ) (x y : Int32) : tq_fI st_Mo_told (0, [x, y], [], σ) = some (oTold T x y, σ) := by
  have h80 := hw.2.1
  unfold oTold
  refine tq_fI_e (tq_at (by decide) ?_)
  show tq_wo (bk_Mo_told_0 [x, y] [] σ) _
  rw [bk_Mo_told_0]
  rcases bd_cases x (n := T.1) (by omega) with h | ⟨j, hj, rfl, h⟩
  · rw [if_pos h]
    exact wi_o (sp_ct hT.1 h) (wi_f (fun q => q rfl) (wi_s (tq_wp_rt rfl)))
  · obtain ⟨e0, e1, e2⟩ := hT.2.2.1 j hj
    have vi : vp_in (nI j) 80 := tq_vin (by omega) (by omega)
    rw [if_neg h, tq_nc (by omega)]
    simp only [ia]
    refine wi_o (sp_cf hT.1 h) (wi_t (by decide) (wi_c (fun q => wi_c (fun q' => wi_c (fun q'' => wi_s (tq_wp_rt ?_)) (fun q'' => wi_g vi (wi_s (tq_wp_rt ?_)))) (fun q' => wi_g vi (wi_s (tq_wp_rt ?_)))) (fun q => wi_g vi (wi_s (tq_wp_rt ?_)))))
    · rw [if_neg q, if_neg q', if_neg q'']
    · rw [if_neg q, if_neg q', if_pos (Classical.not_not.mp q''), tq_nc (by omega), e2]
    · rw [if_neg q, if_pos (Classical.not_not.mp q'), tq_nc (by omega), e1]
    · rw [if_pos (Classical.not_not.mp q), tq_nc (by omega), e0]
theorem cl_concepts {T : ab_T} {σ : tq_S} (hT : cTT T σ) : tq_fI st_Tn_concepts (0, [], [], σ) = some (nI T.1, σ) := by
  have h : tq_fI st_Co_size (0, [], [], σ) = some (nI T.1, σ) := by
    refine tq_fI_e (tq_at (by decide) ?_)
    show tq_wo (bk_Co_size_0 [] [] σ) _
    rw [bk_Co_size_0, hT.1]
    exact wi_s (tq_wp_rt rfl)
  refine tq_fI_e (tq_at (by decide) ?_)
  show tq_wo (bk_Tn_concepts_0 [] [] σ) _
  rw [bk_Tn_concepts_0]
  exact wi_o h (wi_s (tq_wp_rt rfl))
theorem sp_atomCount {m : Nat} {σ : tq_S} (h1 : σ.2.2 1 = nI m) : tq_fI st_Co_atomCount (0, [], [], σ) = some (nI m, σ) := by
  refine tq_fI_e (tq_at (by decide) ?_)
  show tq_wo (bk_Co_atomCount_0 [] [] σ) _
  rw [bk_Co_atomCount_0, h1]
  exact wi_s (tq_wp_rt rfl)
theorem cl_atoms {T : ab_T} {σ : tq_S} (hT : cTT T σ) : tq_fI st_Tn_atoms (0, [], [], σ) = some (nI (ac T.2.1 T.1), σ) := by
  refine tq_fI_e (tq_at (by decide) ?_)
  show tq_wo (bk_Tn_atoms_0 [] [] σ) _
  rw [bk_Tn_atoms_0]
  exact wi_o (sp_atomCount hT.2.1) (wi_s (tq_wp_rt rfl))
theorem mo_concepts {T : ab_T} {σ : tq_S} (hT : mTT T σ) : tq_fI st_Mo_concepts (0, [], [], σ) = some (nI T.1, σ) := by
  refine tq_fI_e (tq_at (by decide) ?_)
  show tq_wo (bk_Mo_concepts_0 [] [] σ) _
  rw [bk_Mo_concepts_0, hT.1]
  exact wi_s (tq_wp_rt rfl)
theorem mo_atoms {T : ab_T} {σ : tq_S} (hT : mTT T σ) : tq_fI st_Mo_atoms (0, [], [], σ) = some (nI (ac T.2.1 T.1), σ) := by
  refine tq_fI_e (tq_at (by decide) ?_)
  show tq_wo (bk_Mo_atoms_0 [] [] σ) _
  rw [bk_Mo_atoms_0, hT.2.1]
  exact wi_s (tq_wp_rt rfl)
