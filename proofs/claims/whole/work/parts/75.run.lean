/-! canLack; run, model, surely of the class -/
theorem sp_holds {T : ab_T} {σ : tq_S} (hw : wfT T) (hT : cTT T σ) {c τ : Nat} (hc : c < T.1) (hτ : τ < 1024) : tq_fI st_Co_holds (0, [nI c, nI τ], [], σ) = some (iB (vT T c τ), σ) := by
  have h80 := hw.2.1
  refine tq_fI_e (tq_at (by decide) ?_)
  show tq_wo (bk_Co_holds_0 [nI c, nI τ] [] σ) _
  rw [bk_Co_holds_0, tq_d64 (by omega), tq_r64 (by omega)]
  have hb := sp_hasBit (σ.2.1 0 (c * 16 + τ / 64)) (show τ % 64 < 64 by omega) σ
  rw [hT.2.2.2.2.1 c τ hc hτ] at hb
  exact wi_o (sp_word (by omega) hT.1 hc (by omega)) (wi_o hb (wi_b (iB_01 _) (wi_s (tq_wp_rt rfl))))
/-- Things.canLack -/
theorem sp_canLack {T : ab_T} {X : ab_X} {rl : Nat → Nat → Bool} {B : ab_X} {M : ab_L} {σ : tq_S} (hw : wfT T) (hT : cTT T σ) (hV : vG T X rl σ) (hB : cB T B σ) (hwM : wM M) (hS : vS T X rl B M σ) {i c : Nat} (hi : i < 5) (hc : c < T.1) :
    ∃ σ', tq_fI st_Th_canLack (0, [nI i, nI c], [], σ) = some (iB (cD (∃ a, Mo T X rl B M a ∧ vT T c (a i) = false)), σ') ∧ fr [15] [5] [9] σ σ' := by
  have hm : aN T ≤ 10 := hw.2.2.1
  have h80 := hw.2.1
  obtain ⟨w1, w2, w3⟩ := wc_le (aN T) (by omega)
  have hp := tq_pw1 hm
  obtain ⟨hlk, hs⟩ := hS
  rcases hs with ⟨t10, m, hL, hf⟩ | ⟨t10, hno, -⟩
  · have hmi : m i < 2 ^ aN T := GG_lt (hL.1.1 i hi).1
    obtain ⟨A, hA⟩ : ∃ A, A = cD (∃ a, Mo T X rl B M a ∧ vT T c (a i) = false) := ⟨_, rfl⟩
    rw [← hA]
    obtain ⟨r, σ', g1, rfl, g2⟩ := tq_fI_of (st := st_Th_canLack) (c := (0, [nI i, nI c], [], σ)) (P := fun r σ' => r = iB A ∧ fr [15] [5] [9] σ σ') (by
      refine tq_wpQ (fun Q hQ => tq_at (by decide) ?_)
      show tq_wo (bk_Th_canLack_0 [nI i, nI c] [] σ) _
      rw [bk_Th_canLack_0]
      simp only [ia]
      rw [tq_nc (by omega)]
      have hh := sp_holds hw hT hc (show m i < 1024 by omega)
      rw [← hf i hi] at hh
      refine wi_f (by rw [t10]; decide) (wi_o (sp_bf (n := 5) (nbd hi (by omega))) (wi_t (by decide) (wi_g (tq_vin hi (by omega)) (wi_o hh ?_))))
      cases hv : vT T c (m i) with
      | false =>
        refine wi_f (fun z => z rfl) (wi_s (tq_wp_rt (hQ _ ⟨_, _, rfl, ?_, fr.rf _ _ _ σ⟩)))
        rw [hA, cD_t.mpr ⟨m, hL.1, hv⟩]; rfl
      | true =>
        obtain ⟨σ1, b1, b2, hK, b4⟩ := sp_tbegin hw hT hV hB hlk
        refine wi_t (by decide) (wi_o b1 (wi_s ?_))
        have hT1 : cTT T σ1 := fr_c b2 (by decide) (by decide) (by decide) hT
        refine tq_ind 42 (fun p : Nat × tq_S => ([nI i, nI c, nI p.1], [], p.2)) (fun p => p.1 ≤ wc (aN T) ∧ fr [] [5] [] σ1 p.2 ∧ (∀ j, ¬ (i * 16 ≤ j ∧ j < i * 16 + p.1) → p.2.2.1 5 j = σ1.2.1 5 j) ∧ ∀ τ, τ < p.1 * 64 → (lft p.2 0 i τ = true ↔ lft σ1 0 i τ = true ∧ vT T c τ = false)) (fun p => wc (aN T) - p.1) ?_ (0, σ1) ⟨Nat.zero_le _, fr.rf _ _ _ _, fun _ _ => rfl, fun τ h => absurd h (by dsimp only; omega)⟩
        rintro ⟨w, σ2⟩ ⟨hwW, f2, o2, g2⟩ ih
        dsimp only at hwW f2 o2 g2 ih ⊢
        refine tq_at (by decide) ?_
        show tq_wo (bk_Th_canLack_42 [nI i, nI c, nI w] [] σ2) _
        rw [bk_Th_canLack_42, f2.2.2 9 (by decide), hK.1]
        refine wi_c (fun q => ?_) (fun q => ?_)
        · have hwe : w = wc (aN T) := by
            have := (tq_le (a := wc (aN T)) (b := w) (by omega) (by omega)).mp q
            omega
          subst hwe
          have hK2 : sK (lkB T rl M) (nuB T) (wc (aN T)) σ2 := sK_fr hK (f2.1 14 (by decide)) (f2.1 4 (by decide)) (f2.2.1 1 (by decide)) (f2.2.2 9 (by decide))
          obtain ⟨σ3, c1, c2, c3⟩ := sp_ext0 hK2
          refine wi_o c1 (wi_b (iB_01 _) (wi_s (tq_wp_rt (hQ _ ⟨_, _, rfl, ?_, ?_⟩))))
          · rw [hA]
            congr 1
            refine cD_c ⟨?_, ?_⟩
            · rintro ⟨a, ha⟩
              refine ⟨a, (Mo_iff hw hwM).mp (Mdl_c ha (fun j hj hu h => ?_)), ((g2 _ (ha.1 i hi).1).mp (ha.1 i hi).2).2⟩
              refine (b4 j _ hj hu).mp ?_
              by_cases e : j = i
              · subst e; exact ((g2 _ hu).mp h).1
              · have h : lft σ2 0 j (a j) = true := h
                rw [lf_0, o2 _ (by omega), ← lf_0] at h; exact h
            · rintro ⟨a, ha, hv⟩
              refine ⟨a, Mdl_c ((Mo_iff hw hwM).mpr ha) (fun j hj hu h => ?_)⟩
              have h1 := (b4 j _ hj hu).mpr h
              show lft σ2 0 j (a j) = true
              by_cases e : j = i
              · subst e; exact (g2 _ hu).mpr ⟨h1, hv⟩
              · rw [lf_0, o2 _ (by omega), ← lf_0]; exact h1
          · exact ((b2.wk (by decide) (by decide) (by decide)).tr (f2.wk (by decide) (by decide) (by decide))).tr (c2.wk (by decide) (by decide) (by decide))
        · have hlt : w < wc (aN T) := tq_nle (b := w) (a := wc (aN T)) (by omega) (by omega) q
          have hT2 : cTT T σ2 := fr_c f2 (by decide) (by decide) (by decide) hT1
          have vi : vp_in (nI (i * 16 + w)) 400 := tq_vin (by omega) (by omega)
          simp only [la]
          rw [tq_m16, nI_add, tq_nc (by omega)]
          refine wi_g vi (wi_o (sp_word (by omega) hT2.1 hc (by omega)) (wi_g vi (wi_l (wi_l (wi_s ?_)))))
          rw [tq_inc]
          refine ih (w + 1, lput σ2 5 (i * 16 + w) (σ2.2.1 5 (i * 16 + w) &&& (σ2.2.1 0 (c * 16 + w) ^^^ (-1)))) ⟨by dsimp only; omega, f2.tr (fr.l (by decide)), fun j hj => ?_, fun τ hτ => ?_⟩ (by dsimp only; omega)
          · dsimp only at hj ⊢
            rw [lput_s, if_neg (by omega)]; exact o2 j (by omega)
          · dsimp only at hτ ⊢
            by_cases e : τ < w * 64
            · rw [← g2 τ e, lf_0, lput_s, if_neg (by omega), lf_0]
            · have e2 : τ = w * 64 + τ % 64 := by omega
              have hr := row_v hT2 (c := c) (w := w) (i := τ % 64) hc (by omega) (by omega)
              rw [← e2] at hr
              rw [lf_0, lput_s, if_pos (by omega), bL_and, bL_not _ (by omega), hr, o2 _ (by omega), lf_0, show τ / 64 = w by omega, Bool.and_eq_true_iff]
              simp)
    exact ⟨σ', g1, g2⟩
  · have : ¬ ∃ a, Mo T X rl B M a ∧ vT T c (a i) = false := fun ⟨a, ha, _⟩ => hno ⟨a, ha⟩
    rw [cD_f.mpr this]
    refine ⟨σ, tq_fI_e (tq_at (by decide) ?_), fr.rf _ _ _ σ⟩
    show tq_wo (bk_Th_canLack_0 [nI i, nI c] [] σ) _
    rw [bk_Th_canLack_0]
    exact wi_t t10 (wi_s (tq_wp_rt rfl))
/-! the cache of the things -/
def cS (T : ab_T) (X : ab_X) (rl : Nat → Nat → Bool) (B : ab_X) (M : ab_L) (n : Nat) (σ : tq_S) : Prop := ∃ v v', σ.2.2 6 = nI v ∧ σ.2.2 12 = nI v' ∧ v' ≤ v ∧ v ≤ n ∧ (σ.2.2 11 = 0 → v' = v → σ.2.2 4 = 0 → σ.2.2 5 = nI (aN T) → vS T X rl B M σ)
def a5 (T : ab_T) (σ : tq_S) : Prop := ∃ s, s ≤ aN T ∧ σ.2.2 5 = nI s
/-- what a question may change in the class -/
def qfr (T : ab_T) (X : ab_X) (rl : Nat → Nat → Bool) (B : ab_X) (M : ab_L) (n : Nat) (σ σ' : tq_S) : Prop := fr [9, 10, 11, 12, 14, 15, 16] [2, 3, 5, 6] [3, 4, 5, 6, 9, 10, 11, 12] σ σ' ∧ cG T X rl σ' ∧ cS T X rl B M n σ' ∧ (a5 T σ → a5 T σ')
theorem qfr_r {T : ab_T} {X : ab_X} {rl : Nat → Nat → Bool} {B : ab_X} {M : ab_L} {n : Nat} {σ σ' : tq_S} (hS : cS T X rl B M n σ) (h : rfr T X rl σ σ') : qfr T X rl B M (n + 1) σ σ' := by
  obtain ⟨f, g, e, e5⟩ := h
  refine ⟨f.wk (by decide) (by decide) (by decide), g, ?_, fun ⟨s, s1, s2⟩ => e5.elim (fun z => ⟨s, s1, by rw [z]; exact s2⟩) (fun z => ⟨_, Nat.le_refl _, z⟩)⟩
  obtain ⟨v, v', s1, s2, s3, s4, s5⟩ := hS
  rcases e with e | e
  · rw [e]; exact ⟨v, v', s1, s2, s3, by omega, s5⟩
  · refine ⟨v + 1, v', ?_, ?_, by omega, by omega, fun _ z => by omega⟩
    · rw [e, s1]; exact tq_inc v
    · rw [f.2.2 12 (by decide)]; exact s2
theorem cG_fr {T : ab_T} {X : ab_X} {rl : Nat → Nat → Bool} {σ σ' : tq_S} (h : cG T X rl σ) {I L F : List Nat} (f : fr I L F σ σ') (i9 : 9 ∉ I) (i10 : 10 ∉ I) (i11 : 11 ∉ I) (l2 : 2 ∉ L) (l3 : 3 ∉ L) (f3 : 3 ∉ F) (f4 : 4 ∉ F) (f5 : 5 ∉ F) : cG T X rl σ' := by
  refine ⟨fun τ hτ => ?_, fun h4 h5 => ?_⟩
  · unfold gng; rw [f.2.1 3 l3]; exact h.1 τ hτ
  · rw [f.2.2 4 f4] at h4
    rw [f.2.2 5 f5] at h5
    exact vG_fr (h.2 h4 h5) (f.1 9 i9) (f.1 10 i10) (f.1 11 i11) (f.2.1 2 l2) (f.2.2 3 f3)
theorem cB_fr {T : ab_T} {B : ab_X} {σ σ' : tq_S} (h : cB T B σ) (e4 : σ'.2.1 4 = σ.2.1 4) (e7 : σ'.2.2 7 = σ.2.2 7) : cB T B σ' := ⟨by rw [e7]; exact h.1, fun i τ hi hτ => by rw [e4]; exact h.2 i τ hi hτ⟩
theorem cL_fr {M : ab_L} {σ σ' : tq_S} (h : cL M σ) (e13 : σ'.1 13 = σ.1 13) (e8 : σ'.2.2 8 = σ.2.2 8) : cL M σ' := ⟨by rw [e8]; exact h.1, fun i j r hi hj hr => by rw [e13]; exact h.2 i j r hi hj hr⟩
/-- refresh and settle, one after the other -/
theorem rs_ok {T : ab_T} {X : ab_X} {rl : Nat → Nat → Bool} {B : ab_X} {M : ab_L} {n : Nat} {σ : tq_S} (hw : wfT T) (hT : cTT T σ) (hX : cX X σ) (hx : wX T X) (hR : cR rl σ) (hG : cG T X rl σ) (hB : cB T B σ) (hM : cL M σ) (hwM : wM M) (hS : cS T X rl B M n σ) (hn : n < 2000000000) :
    ∃ σ1 σ2, tq_fV st_Go_refresh (0, [], [], σ) = some ((), σ1) ∧ tq_fV st_Th_settle (0, [], [], σ1) = some ((), σ2) ∧ qfr T X rl B M (n + 1) σ σ2 ∧ cTT T σ2 ∧ vG T X rl σ2 ∧ cB T B σ2 ∧ vS T X rl B M σ2 ∧ σ2.2.2 11 = 0 ∧ σ2.2.2 12 = σ2.2.2 6 := by
  obtain ⟨σ1, a1, a2, hT1, hV1, a4, a5⟩ := rf_ok hw hT hX hx hR hG
  have q1 := qfr_r hS a2
  obtain ⟨f1, g1, ⟨v, v', s1, s2, s3, s4, s5⟩, h5⟩ := q1
  have hB1 : cB T B σ1 := cB_fr hB (f1.2.1 4 (by decide)) (f1.2.2 7 (by decide))
  have hM1 : cL M σ1 := cL_fr hM (f1.1 13 (by decide)) (f1.2.2 8 (by decide))
  by_cases hc : σ1.2.2 11 = 0 ∧ σ1.2.2 12 = σ1.2.2 6
  · have e : v' = v := by
      have := hc.2
      rw [s1, s2] at this
      exact (tq_eq (by omega) (by omega)).mp this
    exact ⟨σ1, σ1, a1, sp_settle0 hc.1 hc.2, ⟨f1, g1, ⟨v, v', s1, s2, s3, s4, s5⟩, h5⟩, hT1, hV1, hB1, s5 hc.1 e a4 a5, hc.1, hc.2⟩
  · obtain ⟨σ2, b1, b2, b3, b4, b5⟩ := sp_settle hw hT1 hV1 hB1 hM1 hwM hc
    refine ⟨σ1, σ2, a1, b1, ⟨f1.tr (b2.wk (by decide) (by decide) (by decide)), cG_fr g1 b2 (by decide) (by decide) (by decide) (by decide) (by decide) (by decide) (by decide) (by decide), ⟨v, v, ?_, ?_, Nat.le_refl _, s4, fun _ _ _ _ => b3⟩, fun z => (h5 z).elim (fun s hs => ⟨s, hs.1, by rw [b2.2.2 5 (by decide)]; exact hs.2⟩)⟩, fr_c b2 (by decide) (by decide) (by decide) hT1, vG_fr hV1 (b2.1 9 (by decide)) (b2.1 10 (by decide)) (b2.1 11 (by decide)) (b2.2.1 2 (by decide)) (b2.2.2 3 (by decide)), cB_fr hB1 (b2.2.1 4 (by decide)) (b2.2.2 7 (by decide)), b3, b4, ?_⟩
    · rw [b2.2.2 6 (by decide)]; exact s1
    · rw [b5]; exact s1
    · rw [b5, b2.2.2 6 (by decide)]
noncomputable def oRun (T : ab_T) (X : ab_X) (rl : Nat → Nat → Bool) (B : ab_X) (M : ab_L) : Int32 := iB (cD (∃ a, Mo T X rl B M a))
def aMod (T : ab_T) (X : ab_X) (rl : Nat → Nat → Bool) (B : ab_X) (M : ab_L) (x z : Int32) : Prop := (bd 5 x ∧ z = -1) ∨ (¬ bd 5 x ∧ ((∃ m, Lx T X rl B M m ∧ z = nI (m x.toNatClampNeg)) ∨ ((¬ ∃ a, Mo T X rl B M a) ∧ z = -2)))
noncomputable def oSur (T : ab_T) (X : ab_X) (rl : Nat → Nat → Bool) (B : ab_X) (M : ab_L) (x y : Int32) : Int32 := @ite _ (bd 5 x ∨ bd T.1 y) (Classical.propDecidable _) (-1) (iB (!(cD (∃ a, Mo T X rl B M a ∧ vT T y.toNatClampNeg (a x.toNatClampNeg) = false))))
theorem aMod_u {T : ab_T} {X : ab_X} {rl : Nat → Nat → Bool} {B : ab_X} {M : ab_L} {x z z' : Int32} (h : aMod T X rl B M x z) (h' : aMod T X rl B M x z') : z = z' := by
  rcases bd_cases x (n := 5) (by omega) with hb | ⟨i, hi, rfl, hb⟩
  · rcases h with ⟨-, rfl⟩ | ⟨q, -⟩
    · rcases h' with ⟨-, rfl⟩ | ⟨q, -⟩
      · rfl
      · exact absurd hb q
    · exact absurd hb q
  · rcases h with ⟨q, -⟩ | ⟨-, h⟩
    · exact absurd q hb
    · rcases h' with ⟨q, -⟩ | ⟨-, h'⟩
      · exact absurd q hb
      · rw [tq_nc (by omega)] at h h'
        rcases h with ⟨m, m1, rfl⟩ | ⟨m1, rfl⟩ <;> rcases h' with ⟨m', m1', rfl⟩ | ⟨m1', rfl⟩
        · rw [Lx_u m1 m1' (i + 1) i (by omega) hi]
        · exact absurd ⟨m, m1.1⟩ m1'
        · exact absurd ⟨m', m1'.1⟩ m1
        · rfl
theorem cl_run {T : ab_T} {X : ab_X} {rl : Nat → Nat → Bool} {B : ab_X} {M : ab_L} {n : Nat} {σ : tq_S} (hw : wfT T) (hT : cTT T σ) (hX : cX X σ) (hx : wX T X) (hR : cR rl σ) (hG : cG T X rl σ) (hB : cB T B σ) (hM : cL M σ) (hwM : wM M) (hS : cS T X rl B M n σ) (hn : n < 2000000000) :
    ∃ σ', tq_fI st_Tn_run (0, [], [], σ) = some (oRun T X rl B M, σ') ∧ qfr T X rl B M (n + 1) σ σ' := by
  obtain ⟨σ1, σ2, a1, a2, a3, -, -, -, ⟨-, a4⟩, -⟩ := rs_ok hw hT hX hx hR hG hB hM hwM hS hn
  refine ⟨σ2, tq_fI_e (tq_at (by decide) ?_), a3⟩
  show tq_wo (bk_Tn_run_0 [] [] σ) _
  rw [bk_Tn_run_0]
  have gt : ∀ b, σ2.2.2 10 = iB b → tq_fI st_Th_goTogether (0, [], [], σ2) = some (iB b, σ2) := fun b hb => by
    refine tq_fI_e (tq_at (by decide) ?_)
    show tq_wo (bk_Th_goTogether_0 [] [] σ2) _
    rw [bk_Th_goTogether_0, hb]
    exact wi_b (iB_01 b) (wi_s (tq_wp_rt rfl))
  refine wi_o a1 (wi_o a2 ?_)
  unfold oRun
  rcases a4 with ⟨t, m, hL, -⟩ | ⟨t, hno, -⟩
  · rw [cD_t.mpr ⟨m, hL.1⟩]
    exact wi_o (gt true t) (wi_f (by decide) (wi_s (tq_wp_rt rfl)))
  · rw [cD_f.mpr hno]
    exact wi_o (gt false t) (wi_t rfl (wi_s (tq_wp_rt rfl)))
theorem cl_model {T : ab_T} {X : ab_X} {rl : Nat → Nat → Bool} {B : ab_X} {M : ab_L} {n : Nat} {σ : tq_S} (hw : wfT T) (hT : cTT T σ) (hX : cX X σ) (hx : wX T X) (hR : cR rl σ) (hG : cG T X rl σ) (hB : cB T B σ) (hM : cL M σ) (hwM : wM M) (hS : cS T X rl B M n σ) (hn : n < 2000000000) (x : Int32) :
    ∃ z σ', tq_fI st_Tn_model (0, [x], [], σ) = some (z, σ') ∧ aMod T X rl B M x z ∧ qfr T X rl B M (n + 1) σ σ' := by
  have go : ∀ r σ', tq_wo (bk_Tn_model_0 [x] [] σ) (tq_wp st_Tn_model (fun d => d = (tq_rt, [r], [], σ'))) → tq_fI st_Tn_model (0, [x], [], σ) = some (r, σ') := fun r σ' h => tq_fI_e (tq_at (by decide) h)
  rcases bd_cases x (n := 5) (by omega) with h | ⟨i, hi, rfl, h⟩
  · refine ⟨-1, σ, go _ _ ?_, Or.inl ⟨h, rfl⟩, qfr_r hS (rfr.rf hG)⟩
    rw [bk_Tn_model_0]
    exact wi_o (sp_bt (n := 5) h) (wi_f (fun q => q rfl) (wi_s (tq_wp_rt rfl)))
  · obtain ⟨σ1, σ2, a1, a2, a3, -, -, -, ⟨-, a4⟩, -⟩ := rs_ok hw hT hX hx hR hG hB hM hwM hS hn
    have ty : tq_fI st_Th_typeOf (0, [nI i], [], σ2) = some (σ2.1 16 i, σ2) := by
      refine tq_fI_e (tq_at (by decide) ?_)
      show tq_wo (bk_Th_typeOf_0 [nI i] [] σ2) _
      rw [bk_Th_typeOf_0]
      simp only [ia, tq_nc (show i < 2147483648 by omega)]
      exact wi_o (sp_bf (n := 5) h) (wi_f (by decide) (wi_g (tq_vin hi (by omega)) (wi_s (tq_wp_rt rfl))))
    refine ⟨σ2.1 16 i, σ2, go _ _ ?_, Or.inr ⟨h, ?_⟩, a3⟩
    · rw [bk_Tn_model_0]
      exact wi_o (sp_bf (n := 5) h) (wi_t (by decide) (wi_o a1 (wi_o a2 (wi_o ty (wi_s (tq_wp_rt rfl))))))
    · rw [tq_nc (by omega)]
      rcases a4 with ⟨t, m, hL, hf⟩ | ⟨t, hno, hf⟩
      · exact Or.inl ⟨m, hL, hf i hi⟩
      · exact Or.inr ⟨hno, hf i hi⟩
theorem cl_surely {T : ab_T} {X : ab_X} {rl : Nat → Nat → Bool} {B : ab_X} {M : ab_L} {n : Nat} {σ : tq_S} (hw : wfT T) (hT : cTT T σ) (hX : cX X σ) (hx : wX T X) (hR : cR rl σ) (hG : cG T X rl σ) (hB : cB T B σ) (hM : cL M σ) (hwM : wM M) (hS : cS T X rl B M n σ) (hn : n < 2000000000) (x y : Int32) :
    ∃ σ', tq_fI st_Tn_surely (0, [x, y], [], σ) = some (oSur T X rl B M x y, σ') ∧ qfr T X rl B M (n + 1) σ σ' := by
  have h80 := hw.2.1
  have go : ∀ r σ', tq_wo (bk_Tn_surely_0 [x, y] [] σ) (tq_wp st_Tn_surely (fun d => d = (tq_rt, [r], [], σ'))) → tq_fI st_Tn_surely (0, [x, y], [], σ) = some (r, σ') := fun r σ' h => tq_fI_e (tq_at (by decide) h)
  unfold oSur
  rcases bd_cases x (n := 5) (by omega) with h | ⟨i, hi, rfl, h⟩
  · rw [if_pos (Or.inl h)]
    refine ⟨σ, go _ _ ?_, qfr_r hS (rfr.rf hG)⟩
    rw [bk_Tn_surely_0]
    exact wi_o (sp_bt (n := 5) h) (wi_t rfl (wi_s (tq_wp_rt rfl)))
  · rcases bd_cases y (n := T.1) (by omega) with h' | ⟨c, hc, rfl, h'⟩
    · rw [if_pos (Or.inr h')]
      refine ⟨σ, go _ _ ?_, qfr_r hS (rfr.rf hG)⟩
      rw [bk_Tn_surely_0]
      exact wi_o (sp_bf (n := 5) h) (wi_f (by decide) (wi_o (sp_tt hT.1 h') (wi_f (fun q => q rfl) (wi_s (tq_wp_rt rfl)))))
    · rw [if_neg (fun q => q.elim h h'), tq_nc (by omega), tq_nc (by omega)]
      obtain ⟨σ1, σ2, a1, a2, a3, hT2, hV2, hB2, hS2, z11, z12⟩ := rs_ok hw hT hX hx hR hG hB hM hwM hS hn
      obtain ⟨σ3, b1, b2⟩ := sp_canLack hw hT2 hV2 hB2 hwM hS2 hi hc
      refine ⟨σ3, go _ _ ?_, ?_⟩
      · rw [bk_Tn_surely_0]
        refine wi_o (sp_bf (n := 5) h) (wi_f (by decide) (wi_o (sp_tf hT.1 h') (wi_t (by decide) (wi_o a1 (wi_o a2 (wi_o b1 ?_))))))
        cases cD (∃ a, Mo T X rl B M a ∧ vT T c (a i) = false) with
        | false => exact wi_t rfl (wi_s (tq_wp_rt rfl))
        | true => exact wi_f (by decide) (wi_s (tq_wp_rt rfl))
      · obtain ⟨f, g, ⟨v, v', s1, s2, s3, s4, s5⟩, h5⟩ := a3
        refine ⟨f.tr (b2.wk (by decide) (by decide) (by decide)), cG_fr g b2 (by decide) (by decide) (by decide) (by decide) (by decide) (by decide) (by decide) (by decide), ⟨v, v', by rw [b2.2.2 6 (by decide)]; exact s1, by rw [b2.2.2 12 (by decide)]; exact s2, s3, s4, fun _ _ _ _ => ?_⟩, fun z => (h5 z).elim (fun s hs => ⟨s, hs.1, by rw [b2.2.2 5 (by decide)]; exact hs.2⟩)⟩
        refine ⟨fun i j hi hj k hk => by rw [b2.1 14 (by decide)]; exact hS2.1 i j hi hj k hk, ?_⟩
        rw [b2.2.2 10 (by decide), b2.1 16 (by decide)]
        exact hS2.2
