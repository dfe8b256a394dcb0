/-! sortSomes -/
theorem cT_fr {T : ab_T} {σ σ' : tq_S} (h : cTT T σ) (i : ∀ k, k < 5 → σ'.1 k = σ.1 k) (l : ∀ k, k < 2 → σ'.2.1 k = σ.2.1 k) (f : ∀ k, k < 2 → σ'.2.2 k = σ.2.2 k) : cTT T σ' := by
  obtain ⟨t0, t1, t2, t3, t4, t5, t6⟩ := h
  refine ⟨by rw [f 0 (by omega)]; exact t0, by rw [f 1 (by omega)]; exact t1, fun c hc => by rw [i 0 (by omega), i 1 (by omega), i 2 (by omega)]; exact t2 c hc, fun c hc ha => by rw [i 3 (by omega)]; exact t3 c hc ha, fun c τ hc hτ => by rw [l 0 (by omega)]; exact t4 c τ hc hτ, fun c hc h6 w hw => by rw [l 0 (by omega), l 1 (by omega)]; exact t5 c hc h6 w hw, fun τ hτ j hj => by rw [i 4 (by omega)]; exact t6 τ hτ j hj⟩
theorem cR_fr {rl : Nat → Nat → Bool} {σ σ' : tq_S} (h : cR rl σ) (i5 : σ'.1 5 = σ.1 5) (i6 : σ'.1 6 = σ.1 6) : cR rl σ' := by
  refine ⟨fun r hr s hs => by rw [i5]; exact h.1 r hr s hs, fun r hr s hs => by rw [i6]; exact h.2 r hr s hs⟩
theorem fr_c {σ σ' : tq_S} {I L F : List Nat} (h : fr I L F σ σ') (hi : ∀ k, k < 5 → k ∉ I) (hl : ∀ k, k < 2 → k ∉ L) (hf : ∀ k, k < 2 → k ∉ F) {T : ab_T} (hT : cTT T σ) : cTT T σ' := cT_fr hT (fun k hk => h.1 k (hi k hk)) (fun k hk => h.2.1 k (hl k hk)) (fun k hk => h.2.2 k (hf k hk))
theorem bI_or0 (x : Int32) : x ||| 0 = x := bI_ext (fun k _ => by rw [bI_or, bI_0]; simp)
theorem sp_sortSomes {T : ab_T} {rl : Nat → Nat → Bool} {σ : tq_S} (hw : wfT T) (hT : cTT T σ) (hR : cR rl σ) : ∃ σ', tq_fV st_Go_sortSomes (0, [], [], σ) = some ((), σ') ∧ fr [9, 10] [] [] σ σ' ∧ cO T rl σ' := by
  refine tq_fV_of (tq_at (by decide) ?_)
  show tq_wo (bk_Go_sortSomes_0 [] [] σ) _
  rw [bk_Go_sortSomes_0]
  refine wi_s ?_
  -- roles below r are done
  obtain ⟨J, hJ⟩ : ∃ J : Nat → tq_S → Prop, J = (fun r σ' => fr [9, 10] [] [] σ σ' ∧ ∀ i, i < r → ∀ k, k < 32 → (bI (σ'.1 9 i) k = true ↔ smR T (fun s => s = i) k) ∧ (bI (σ'.1 10 i) k = true ↔ smR T (fun s => Und rl i s) k)) := ⟨_, rfl⟩
  refine tq_ind 2 (fun p : Nat × tq_S => ([nI p.1], [], p.2)) (fun p => p.1 ≤ 4 ∧ J p.1 p.2) (fun p => 4 - p.1) ?_ (0, σ) ⟨Nat.zero_le _, by rw [hJ]; exact ⟨fr.rf _ _ _ σ, fun u h => absurd h (Nat.not_lt_zero _)⟩⟩
  rintro ⟨r, σ1⟩ ⟨hr, hj⟩ ih
  dsimp only at hr hj ih ⊢
  rw [hJ] at hj
  obtain ⟨f1, g1⟩ := hj
  refine tq_at (by decide) ?_
  show tq_wo (bk_Go_sortSomes_2 [nI r] [] σ1) _
  rw [bk_Go_sortSomes_2]
  refine wi_c (fun q => wi_s (tq_wp_rt ⟨_, rfl, ?_⟩)) (fun q => ?_)
  · have : r = 4 := by
      have := (tq_le (a := 4) (b := r) (by omega) (by omega)).mp q
      omega
    subst this
    exact ⟨f1, g1⟩
  · have hr4 : r < 4 := tq_nle (a := 4) (by omega) (by omega) q
    have vi : vp_in (nI r) 4 := tq_vin hr4 (by omega)
    rw [tq_nc (by omega)]
    refine wi_g vi (wi_l (wi_g vi (wi_l (wi_s ?_))))
    refine tq_ind 23 (fun p : Nat × tq_S => ([nI r, nI p.1], [], p.2)) (fun p => p.1 ≤ 10 ∧ fr [9, 10] [] [] σ p.2 ∧ (∀ i, i ≠ r → p.2.1 9 i = σ1.1 9 i ∧ p.2.1 10 i = σ1.1 10 i) ∧ ∀ k, k < 32 → (bI (p.2.1 9 r) k = true ↔ k < p.1 ∧ smR T (fun s => s = r) k) ∧ (bI (p.2.1 10 r) k = true ↔ k < p.1 ∧ smR T (fun s => Und rl r s) k)) (fun p => 10 - p.1) ?_ (0, iput (iput σ1 9 r 0) 10 r 0) ⟨Nat.zero_le _, ?_, ?_, ?_⟩
    · rintro ⟨j, σ2⟩ ⟨hj, f2, o2, g2⟩ ih2
      dsimp only at hj f2 o2 g2 ih2 ⊢
      refine tq_at (by decide) ?_
      show tq_wo (bk_Go_sortSomes_23 [nI r, nI j] [] σ2) _
      rw [bk_Go_sortSomes_23]
      refine wi_c (fun q => wi_l (wi_s ?_)) (fun q => ?_)
      · have : j = 10 := by
          have := (tq_le (a := 10) (b := j) (by omega) (by omega)).mp q
          omega
        subst this
        rw [tq_inc]
        refine ih (r + 1, σ2) ⟨by omega, ?_⟩ (by dsimp only; omega)
        rw [hJ]
        refine ⟨f2, fun i hi k hk => ?_⟩
        dsimp only at hi
        by_cases e : i = r
        · subst e
          have hl : ∀ P, smR T P k → k < 10 := by
            rintro P ⟨c, c1, c2, c3, c4⟩
            have := ac_at (K := T.2.1) c1 (by rw [c2]; rfl)
            have := hw.2.2.1
            omega
          exact ⟨(g2 k hk).1.trans ⟨fun q => q.2, fun q => ⟨hl _ q, q⟩⟩, (g2 k hk).2.trans ⟨fun q => q.2, fun q => ⟨hl _ q, q⟩⟩⟩
        · rw [(o2 i e).1, (o2 i e).2]; exact g1 i (by omega) k hk
      · have hj10 : j < 10 := tq_nle (a := 10) (by omega) (by omega) q
        have hT2 : cTT T σ2 := fr_c f2 (by decide) (by decide) (by decide) hT
        have hR2 : cR rl σ2 := cR_fr hR (f2.1 5 (by decide)) (f2.1 6 (by decide))
        obtain ⟨z, z1, z2⟩ := sp_isSome hw hT2 hj10
        refine wi_o z1 ?_
        -- the next state, whichever bits are set
        have nx : ∀ a b : Int32, (∀ k, k < 32 → (bI a k = true ↔ k = j ∧ smR T (fun s => s = r) k)) → (∀ k, k < 32 → (bI b k = true ↔ k = j ∧ smR T (fun s => Und rl r s) k)) → tq_wp st_Go_sortSomes (fun d => ∃ σ', d = (tq_rt, [], [], σ') ∧ fr [9, 10] [] [] σ σ' ∧ cO T rl σ') (23, [nI r, nI j + 1], [], iput (iput σ2 9 r (σ2.1 9 r ||| a)) 10 r (σ2.1 10 r ||| b)) := by
          intro a b ha hb
          rw [tq_inc]
          refine ih2 (j + 1, iput (iput σ2 9 r (σ2.1 9 r ||| a)) 10 r (σ2.1 10 r ||| b)) ⟨by omega, (f2.tr (fr.i (by decide))).tr (fr.i (by decide)), fun i hi => ?_, fun k hk => ?_⟩ (by dsimp only; omega)
          · show (iput (iput σ2 9 r _) 10 r _).1 9 i = _ ∧ (iput (iput σ2 9 r _) 10 r _).1 10 i = _
            rw [iput_n _ _ _ (show (9 : Nat) ≠ 10 by decide), iput_s, iput_s, if_neg hi, if_neg hi, iput_n _ _ _ (show (10 : Nat) ≠ 9 by decide)]
            exact o2 i hi
          · show (bI ((iput (iput σ2 9 r _) 10 r _).1 9 r) k = true ↔ k < j + 1 ∧ _) ∧ (bI ((iput (iput σ2 9 r _) 10 r _).1 10 r) k = true ↔ k < j + 1 ∧ _)
            rw [iput_n _ _ _ (show (9 : Nat) ≠ 10 by decide), iput_s, iput_s, if_pos rfl, if_pos rfl, bI_or, bI_or, Bool.or_eq_true_iff, Bool.or_eq_true_iff, ha k hk, hb k hk, (g2 k hk).1, (g2 k hk).2]
            constructor
            · constructor
              · rintro (⟨q1, q2⟩ | ⟨q1, q2⟩)
                · exact ⟨by omega, q2⟩
                · exact ⟨by omega, q2⟩
              · rintro ⟨q1, q2⟩
                by_cases e : k = j
                · exact Or.inr ⟨e, q2⟩
                · exact Or.inl ⟨by omega, q2⟩
            · constructor
              · rintro (⟨q1, q2⟩ | ⟨q1, q2⟩)
                · exact ⟨by omega, q2⟩
                · exact ⟨by omega, q2⟩
              · rintro ⟨q1, q2⟩
                by_cases e : k = j
                · exact Or.inr ⟨e, q2⟩
                · exact Or.inl ⟨by omega, q2⟩
        have no : ∀ {P : Nat → Prop}, ¬ smR T P j → ∀ k, k < 32 → (bI 0 k = true ↔ k = j ∧ smR T P k) := by
          intro P h k hk
          rw [bI_0]
          exact ⟨fun q => (by cases q), fun q => absurd (q.1 ▸ q.2) h⟩
        have yes : ∀ {P : Nat → Prop}, smR T P j → ∀ k, k < 32 → (bI ((1 : Int32) <<< (nI j &&& 31)) k = true ↔ k = j ∧ smR T P k) := by
          intro P h k hk
          rw [bI_bit j (by omega) k hk, decide_eq_true_iff]
          exact ⟨fun q => ⟨q, q ▸ h⟩, fun q => q.1⟩
        rcases z2 with ⟨rfl, hz⟩ | ⟨rfl, hz⟩
        · -- no SOME: nothing is set
          refine wi_f (fun q => q rfl) (wi_l (wi_s ?_))
          have n1 : ∀ P, ¬ smR T P j := fun P q => hz (smR_iff.mp q).1
          have := nx 0 0 (no (n1 _)) (no (n1 _))
          rw [bI_or0, bI_or0] at this
          have e9 : iput (iput σ2 9 r (σ2.1 9 r)) 10 r (σ2.1 10 r) = σ2 := by
            have e : (fun a => if a = 10 then upd (σ2.1 10) r (σ2.1 10 r) else (if a = 9 then upd (σ2.1 9) r (σ2.1 9 r) else σ2.1 a)) = σ2.1 := by
              funext a
              have us : ∀ f : Nat → Int32, upd f r (f r) = f := fun f => by
                funext x
                by_cases ex : x = r
                · rw [ex, pk_us]
                · rw [pk_un ex]
              by_cases e10 : a = 10
              · subst e10; rw [if_pos rfl, us]
              · rw [if_neg e10]
                by_cases e9 : a = 9
                · subst e9; rw [if_pos rfl, us]
                · rw [if_neg e9]
            show ((fun a => if a = 10 then upd (σ2.1 10) r (σ2.1 10 r) else (if a = 9 then upd (σ2.1 9) r (σ2.1 9 r) else σ2.1 a)), σ2.2.1, σ2.2.2) = σ2
            rw [e]
          rw [e9] at this
          exact this
        · refine wi_t (by decide) (wi_o (sp_roleOfSome hw hT2 hj10 hz) (wi_g vi ?_))
          obtain ⟨a1, a2, a3⟩ := axi_ok hz.1
          have hro : T.2.2.1 (axi T.2.1 T.1 j) < 4 := by
            obtain ⟨w1, w2, w3, w4, w5, w6⟩ := hw
            have h2 : 2 ≤ axi T.2.1 T.1 j := by
              rcases (show axi T.2.1 T.1 j = 0 ∨ axi T.2.1 T.1 j = 1 ∨ 2 ≤ axi T.2.1 T.1 j by omega) with q | q | q
              · rw [q] at hz; omega
              · rw [q] at hz; omega
              · exact q
            rcases w6 _ h2 a1 with g | g | g | g | g | g <;> omega
          have ownY : T.2.2.1 (axi T.2.1 T.1 j) = r → smR T (fun s => s = r) j := fun q => smR_iff.mpr ⟨hz, q⟩
          have ownN : ¬ T.2.2.1 (axi T.2.1 T.1 j) = r → ¬ smR T (fun s => s = r) j := fun q w => q (smR_iff.mp w).2
          have req : (nI r = nI (T.2.2.1 (axi T.2.1 T.1 j)) ↔ r = T.2.2.1 (axi T.2.1 T.1 j)) := tq_eq (by omega) (by omega)
          -- behind the own bit
          have tail : ∀ a : Int32, (∀ k, k < 32 → (bI a k = true ↔ k = j ∧ smR T (fun s => s = r) k)) → ∀ σ3, σ3 = iput σ2 9 r (σ2.1 9 r ||| a) → ∃ z, tq_fI st_Ro_isUnder (0, [nI r, nI (T.2.2.1 (axi T.2.1 T.1 j))], [], σ3) = some (z, σ3) ∧ ((z = 0 ∧ tq_wp st_Go_sortSomes (fun d => ∃ σ', d = (tq_rt, [], [], σ') ∧ fr [9, 10] [] [] σ σ' ∧ cO T rl σ') (23, [nI r, nI j + 1], [], iput σ3 10 r (σ3.1 10 r ||| 0))) ∨ (z = 1 ∧ tq_wp st_Go_sortSomes (fun d => ∃ σ', d = (tq_rt, [], [], σ') ∧ fr [9, 10] [] [] σ σ' ∧ cO T rl σ') (23, [nI r, nI j + 1], [], iput σ3 10 r (σ3.1 10 r ||| ((1 : Int32) <<< (nI j &&& 31)))))) := by
            rintro a ha σ3 rfl
            have hR3 : cR rl (iput σ2 9 r (σ2.1 9 r ||| a)) := cR_fr hR2 (iput_n _ _ _ (by decide)) (iput_n _ _ _ (by decide))
            obtain ⟨z, y1, y2⟩ := sp_isUnder hR3 hr4 hro
            refine ⟨z, y1, ?_⟩
            have e10 : (iput σ2 9 r (σ2.1 9 r ||| a)).1 10 = σ2.1 10 := iput_n _ _ _ (by decide)
            rw [e10]
            rcases y2 with ⟨y2, y3⟩ | ⟨y2, y3⟩
            · exact Or.inl ⟨y2, nx a 0 ha (no (fun w => y3 (smR_iff.mp w).2))⟩
            · exact Or.inr ⟨y2, nx a _ ha (yes (smR_iff.mpr ⟨hz, y3⟩))⟩
          simp only [ia, tq_nc (show r < 2147483648 by omega)]
          refine wi_c (fun h => wi_g vi (wi_l (wi_g vi ?_))) (fun h => wi_g vi (wi_l (wi_g vi ?_)))
          · obtain ⟨z, y1, y2⟩ := tail 0 (no (ownN (fun w => h (req.mpr w.symm)))) _ rfl
            refine wi_o y1 ?_
            rcases y2 with ⟨rfl, y2⟩ | ⟨rfl, y2⟩
            · exact wi_t rfl (wi_g vi (wi_l (wi_l (wi_s y2))))
            · exact wi_f (by decide) (wi_g vi (wi_l (wi_l (wi_s y2))))
          · obtain ⟨z, y1, y2⟩ := tail _ (yes (ownY (req.mp (Classical.not_not.mp h)).symm)) _ rfl
            refine wi_o y1 ?_
            rcases y2 with ⟨rfl, y2⟩ | ⟨rfl, y2⟩
            · exact wi_t rfl (wi_g vi (wi_l (wi_l (wi_s y2))))
            · exact wi_f (by decide) (wi_g vi (wi_l (wi_l (wi_s y2))))
    · exact (f1.tr (fr.i (by decide))).tr (fr.i (by decide))
    · intro i hi
      show (iput (iput σ1 9 r 0) 10 r 0).1 9 i = _ ∧ (iput (iput σ1 9 r 0) 10 r 0).1 10 i = _
      rw [iput_n _ _ _ (show (9 : Nat) ≠ 10 by decide), iput_s, iput_s, if_neg hi, if_neg hi, iput_n _ _ _ (show (10 : Nat) ≠ 9 by decide)]
      exact ⟨rfl, rfl⟩
    · intro k hk
      show (bI ((iput (iput σ1 9 r 0) 10 r 0).1 9 r) k = true ↔ k < 0 ∧ _) ∧ (bI ((iput (iput σ1 9 r 0) 10 r 0).1 10 r) k = true ↔ k < 0 ∧ _)
      rw [iput_n _ _ _ (show (9 : Nat) ≠ 10 by decide), iput_s, iput_s, if_pos rfl, if_pos rfl, bI_0]
      exact ⟨⟨fun q => (by cases q), fun q => absurd q.1 (Nat.not_lt_zero _)⟩, ⟨fun q => (by cases q), fun q => absurd q.1 (Nat.not_lt_zero _)⟩⟩
