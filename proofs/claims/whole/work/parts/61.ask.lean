/-! what is asked of the good types: someAre, eachIs, size, depthOf; can, below, types, rounds, depth -/
def GG (T : ab_T) (X : ab_X) (rl : Nat → Nat → Bool) (τ : Nat) : Prop := ∃ ρ, isR T X rl ρ ∧ Gs T X rl ρ τ
theorem GG_lt {T : ab_T} {X : ab_X} {rl : Nat → Nat → Bool} {τ : Nat} (h : GG T X rl τ) : τ < 2 ^ aN T := h.elim (fun _ h => Gs_lt h.2)
theorem GG_of {T : ab_T} {X : ab_X} {rl : Nat → Nat → Bool} {ρ τ : Nat} (h : isR T X rl ρ) : GG T X rl τ ↔ Gs T X rl ρ τ := by
  constructor
  · rintro ⟨ρ', h1, h2⟩
    rw [isR_u h h1]; exact h2
  · intro h'; exact ⟨ρ, h, h'⟩
theorem vG_th {T : ab_T} {X : ab_X} {rl : Nat → Nat → Bool} {σ : tq_S} (h : vG T X rl σ) {τ : Nat} (hτ : τ < 1024) : thr σ τ = true ↔ GG T X rl τ := by
  obtain ⟨-, ρ, h2, -, h4, -⟩ := h
  rw [GG_of h2]; exact h4 τ hτ
def iB (b : Bool) : Int32 := if b then 1 else 0
theorem row_v {T : ab_T} {σ : tq_S} (hT : cTT T σ) {c w i : Nat} (hc : c < T.1) (hw : w < 16) (hi : i < 64) : bL (σ.2.1 0 (c * 16 + w)) i = vT T c (w * 64 + i) := by
  have := hT.2.2.2.2.1 c (w * 64 + i) hc (by omega)
  rw [(tq_dm hi).1, (tq_dm hi).2] at this
  exact this
theorem thr_w {σ : tq_S} {w i : Nat} (hi : i < 64) : thr σ (w * 64 + i) = bL (σ.2.1 2 w) i := by
  unfold thr
  rw [(tq_dm hi).1, (tq_dm hi).2]
theorem sp_someAre {T : ab_T} {σ : tq_S} (hw : wfT T) (hT : cTT T σ) {c : Nat} (hc : c < T.1) : tq_fI st_Go_someAre (0, [nI c], [], σ) = some (iB (cD (∃ τ, τ < 1024 ∧ thr σ τ = true ∧ vT T c τ = true)), σ) := by
  have h80 := hw.2.1
  refine tq_fI_e (tq_at (by decide) ?_)
  show tq_wo (bk_Go_someAre_0 [nI c] [] σ) _
  rw [bk_Go_someAre_0]
  refine wi_s ?_
  refine tq_ind 2 (fun w : Nat => ([nI c, nI w], [], σ)) (fun w => w ≤ 16 ∧ ∀ τ, τ < w * 64 → ¬ (thr σ τ = true ∧ vT T c τ = true)) (fun w => 16 - w) ?_ 0 ⟨Nat.zero_le _, fun u h => absurd h (by omega)⟩
  rintro w ⟨hw16, hno⟩ ih
  refine tq_at (by decide) ?_
  show tq_wo (bk_Go_someAre_2 [nI c, nI w] [] σ) _
  rw [bk_Go_someAre_2]
  refine wi_c (fun q => wi_s (tq_wp_rt ?_)) (fun q => ?_)
  · have : w = 16 := by
      have := (tq_le (a := 16) (b := w) (by omega) (by omega)).mp q
      omega
    subst this
    have : cD (∃ τ, τ < 1024 ∧ thr σ τ = true ∧ vT T c τ = true) = false := cD_f.mpr (fun ⟨τ, h1, h2⟩ => hno τ (by omega) h2)
    rw [this]; rfl
  · have hlt : w < 16 := tq_nle (b := w) (a := 16) (by omega) (by omega) q
    refine wi_g (tq_vin hlt (by omega)) (wi_o (sp_word (by omega) hT.1 hc hlt) ?_)
    simp only [la, tq_nc (show w < 2147483648 by omega)]
    refine wi_c (fun k => wi_l (wi_s ?_)) (fun k => wi_s (tq_wp_rt ?_))
    · rw [lg_cmp0] at k
      rw [tq_inc]
      refine ih (w + 1) ⟨by omega, fun τ hτ => ?_⟩ (by omega)
      by_cases e : τ < w * 64
      · exact hno τ e
      · rintro ⟨h1, h2⟩
        have hb := congrArg (fun y => bL y (τ % 64)) k
        have ee : τ = w * 64 + τ % 64 := by omega
        rw [ee, thr_w (by omega)] at h1
        rw [ee, ← row_v hT hc hlt (by omega)] at h2
        simp only [bL_and, bL_0, h1, h2] at hb
        cases hb
    · rw [lg_cmp0] at k
      have hf := nz_ff k
      have hy := ff_yes hf
      rw [bL_and, Bool.and_eq_true_iff] at hy
      have : cD (∃ τ, τ < 1024 ∧ thr σ τ = true ∧ vT T c τ = true) = true := cD_t.mpr ⟨w * 64 + ff (bL (σ.2.1 2 w &&& σ.2.1 0 (c * 16 + w))) 64, by omega, by rw [thr_w hf]; exact hy.1, by rw [← row_v hT hc hlt hf]; exact hy.2⟩
      rw [this]; rfl
theorem sp_eachIs {T : ab_T} {σ : tq_S} (hw : wfT T) (hT : cTT T σ) {c d : Nat} (hc : c < T.1) (hd : d < T.1) : tq_fI st_Go_eachIs (0, [nI c, nI d], [], σ) = some (iB (!(cD (∃ τ, τ < 1024 ∧ thr σ τ = true ∧ vT T c τ = true ∧ vT T d τ = false))), σ) := by
  have h80 := hw.2.1
  refine tq_fI_e (tq_at (by decide) ?_)
  show tq_wo (bk_Go_eachIs_0 [nI c, nI d] [] σ) _
  rw [bk_Go_eachIs_0]
  refine wi_s ?_
  refine tq_ind 2 (fun w : Nat => ([nI c, nI d, nI w], [], σ)) (fun w => w ≤ 16 ∧ ∀ τ, τ < w * 64 → ¬ (thr σ τ = true ∧ vT T c τ = true ∧ vT T d τ = false)) (fun w => 16 - w) ?_ 0 ⟨Nat.zero_le _, fun u h => absurd h (by omega)⟩
  rintro w ⟨hw16, hno⟩ ih
  refine tq_at (by decide) ?_
  show tq_wo (bk_Go_eachIs_2 [nI c, nI d, nI w] [] σ) _
  rw [bk_Go_eachIs_2]
  refine wi_c (fun q => wi_s (tq_wp_rt ?_)) (fun q => ?_)
  · have : w = 16 := by
      have := (tq_le (a := 16) (b := w) (by omega) (by omega)).mp q
      omega
    subst this
    have : cD (∃ τ, τ < 1024 ∧ thr σ τ = true ∧ vT T c τ = true ∧ vT T d τ = false) = false := cD_f.mpr (fun ⟨τ, h1, h2⟩ => hno τ (by omega) h2)
    rw [this]; rfl
  · have hlt : w < 16 := tq_nle (b := w) (a := 16) (by omega) (by omega) q
    refine wi_g (tq_vin hlt (by omega)) (wi_o (sp_word (by omega) hT.1 hc hlt) (wi_o (sp_word (by omega) hT.1 hd hlt) ?_))
    simp only [la, tq_nc (show w < 2147483648 by omega)]
    refine wi_c (fun k => wi_l (wi_s ?_)) (fun k => wi_s (tq_wp_rt ?_))
    · rw [lg_cmp0] at k
      rw [tq_inc]
      refine ih (w + 1) ⟨by omega, fun τ hτ => ?_⟩ (by omega)
      by_cases e : τ < w * 64
      · exact hno τ e
      · rintro ⟨h1, h2, h3⟩
        have hb := congrArg (fun y => bL y (τ % 64)) k
        have ee : τ = w * 64 + τ % 64 := by omega
        rw [ee, thr_w (by omega)] at h1
        rw [ee, ← row_v hT hc hlt (by omega)] at h2
        rw [ee, ← row_v hT hd hlt (by omega)] at h3
        simp only [bL_and, bL_0, bL_not _ (show τ % 64 < 64 by omega), h1, h2, h3] at hb
        cases hb
    · rw [lg_cmp0] at k
      have hf := nz_ff k
      have hy := ff_yes hf
      rw [bL_and, Bool.and_eq_true_iff, bL_and, Bool.and_eq_true_iff, bL_not _ hf] at hy
      have : cD (∃ τ, τ < 1024 ∧ thr σ τ = true ∧ vT T c τ = true ∧ vT T d τ = false) = true := cD_t.mpr ⟨w * 64 + ff (bL ((σ.2.1 2 w &&& σ.2.1 0 (c * 16 + w)) &&& (σ.2.1 0 (d * 16 + w) ^^^ (-1)))) 64, by omega, by rw [thr_w hf]; exact hy.1.1, by rw [← row_v hT hc hlt hf]; exact hy.1.2, by rw [← row_v hT hd hlt hf]; simpa using hy.2⟩
      rw [this]; rfl
theorem sp_size (σ : tq_S) : tq_fI st_Go_size (0, [], [], σ) = some (nI (cnt (thr σ) 1024), σ) := by
  refine tq_fI_e (tq_at (by decide) ?_)
  show tq_wo (bk_Go_size_0 [] [] σ) _
  rw [bk_Go_size_0]
  refine wi_s ?_
  refine tq_ind 4 (fun w : Nat => ([nI (cnt (thr σ) (w * 64)), nI w], [], σ)) (fun w => w ≤ 16) (fun w => 16 - w) ?_ 0 (Nat.zero_le _)
  rintro w hw16 ih
  refine tq_at (by decide) ?_
  show tq_wo (bk_Go_size_4 [nI (cnt (thr σ) (w * 64)), nI w] [] σ) _
  rw [bk_Go_size_4]
  refine wi_c (fun q => wi_s (tq_wp_rt ?_)) (fun q => ?_)
  · have : w = 16 := by
      have := (tq_le (a := 16) (b := w) (by omega) (by omega)).mp q
      omega
    subst this
    rfl
  · have hlt : w < 16 := tq_nle (b := w) (a := 16) (by omega) (by omega) q
    refine wi_g (tq_vin hlt (by omega)) (wi_o (sp_bitCountL _ σ) (wi_l (wi_l (wi_s ?_))))
    simp only [la, tq_nc (show w < 2147483648 by omega)]
    rw [tq_inc, nI_add]
    have e : cnt (thr σ) (w * 64) + cnt (bL (σ.2.1 2 w)) 64 = cnt (thr σ) ((w + 1) * 64) := by
      rw [show (w + 1) * 64 = w * 64 + 64 by omega, cnt_add]
      congr 1
      exact cnt_congr (fun i hi => (thr_w hi).symm)
    rw [e]
    exact ih (w + 1) (by omega) (by omega)
theorem sp_depthOf (σ : tq_S) {τ : Nat} (hτ : τ < 1024) : tq_fI st_Go_depthOf (0, [nI τ], [], σ) = some (σ.1 11 τ, σ) := by
  refine tq_fI_e (tq_at (by decide) ?_)
  show tq_wo (bk_Go_depthOf_0 [nI τ] [] σ) _
  rw [bk_Go_depthOf_0]
  refine wi_o (sp_bf (n := 1024) (nbd hτ (by omega))) (wi_f (by decide) (wi_g (tq_vin hτ (by omega)) (wi_s (tq_wp_rt ?_))))
  simp only [ia, tq_nc (show τ < 2147483648 by omega)]
theorem sp_roundCount (σ : tq_S) : tq_fI st_Go_roundCount (0, [], [], σ) = some (σ.2.2 3, σ) := by
  refine tq_fI_e (tq_at (by decide) ?_)
  show tq_wo (bk_Go_roundCount_0 [] [] σ) _
  rw [bk_Go_roundCount_0]
  exact wi_s (tq_wp_rt rfl)
/-! the five public questions -/
def rfr (T : ab_T) (X : ab_X) (rl : Nat → Nat → Bool) (σ σ' : tq_S) : Prop := fr [9, 10, 11, 12] [2, 3] [3, 4, 5, 6] σ σ' ∧ cG T X rl σ' ∧ (σ' = σ ∨ σ'.2.2 6 = σ.2.2 6 + 1) ∧ (σ'.2.2 5 = σ.2.2 5 ∨ σ'.2.2 5 = nI (aN T))
theorem rfr.rf {T : ab_T} {X : ab_X} {rl : Nat → Nat → Bool} {σ : tq_S} (h : cG T X rl σ) : rfr T X rl σ σ := ⟨fr.rf _ _ _ σ, h, Or.inl rfl, Or.inl rfl⟩
theorem rf_ok {T : ab_T} {X : ab_X} {rl : Nat → Nat → Bool} {σ : tq_S} (hw : wfT T) (hT : cTT T σ) (hX : cX X σ) (hx : wX T X) (hR : cR rl σ) (hG : cG T X rl σ) :
    ∃ σ', tq_fV st_Go_refresh (0, [], [], σ) = some ((), σ') ∧ rfr T X rl σ σ' ∧ cTT T σ' ∧ vG T X rl σ' ∧ σ'.2.2 4 = 0 ∧ σ'.2.2 5 = nI (aN T) := by
  obtain ⟨σ', a1, a2, a3, a4, a5, a6, a7⟩ := sp_refresh hw hT hX hx hR hG
  exact ⟨σ', a1, ⟨a2, a3, a7, Or.inr a6⟩, fr_c a2 (by decide) (by decide) (by decide) hT, a4, a5, a6⟩
noncomputable def oCan (T : ab_T) (X : ab_X) (rl : Nat → Nat → Bool) (x : Int32) : Int32 := @ite _ (bd T.1 x) (Classical.propDecidable _) (-1) (iB (cD (∃ τ, GG T X rl τ ∧ vT T x.toNatClampNeg τ = true)))
noncomputable def oBel (T : ab_T) (X : ab_X) (rl : Nat → Nat → Bool) (x y : Int32) : Int32 := @ite _ (bd T.1 x ∨ bd T.1 y) (Classical.propDecidable _) (-1) (iB (!(cD (∃ τ, GG T X rl τ ∧ vT T x.toNatClampNeg τ = true ∧ vT T y.toNatClampNeg τ = false))))
noncomputable def oTyp (T : ab_T) (X : ab_X) (rl : Nat → Nat → Bool) : Int32 := nI (cnt (fun τ => cD (GG T X rl τ)) 1024)
def aRnd (T : ab_T) (X : ab_X) (rl : Nat → Nat → Bool) (z : Int32) : Prop := ∃ ρ, isR T X rl ρ ∧ z = nI ρ
def aDep (T : ab_T) (X : ab_X) (rl : Nat → Nat → Bool) (x z : Int32) : Prop := (bd (2 ^ aN T) x ∧ z = -1) ∨ (¬ bd (2 ^ aN T) x ∧ ∃ ρ, isR T X rl ρ ∧ dpt T X rl ρ x.toNatClampNeg z)
theorem aRnd_u {T : ab_T} {X : ab_X} {rl : Nat → Nat → Bool} {z z' : Int32} (h : aRnd T X rl z) (h' : aRnd T X rl z') : z = z' := by
  obtain ⟨ρ, h1, rfl⟩ := h
  obtain ⟨ρ', h2, rfl⟩ := h'
  rw [isR_u h1 h2]
theorem aDep_u {T : ab_T} {X : ab_X} {rl : Nat → Nat → Bool} {x z z' : Int32} (h : aDep T X rl x z) (h' : aDep T X rl x z') : z = z' := by
  rcases h with ⟨h1, h2⟩ | ⟨h1, ρ, h2, h3⟩ <;> rcases h' with ⟨k1, k2⟩ | ⟨k1, ρ', k2, k3⟩
  · rw [h2, k2]
  · exact absurd h1 k1
  · exact absurd k1 h1
  · rw [isR_u k2 h2] at k3
    exact dpt_u h3 k3
theorem cD_c {p q : Prop} (h : p ↔ q) : cD p = cD q := by
  cases e : cD q with
  | true => exact cD_t.mpr (h.mpr (cD_t.mp e))
  | false => exact cD_f.mpr (fun k => cD_f.mp e (h.mp k))
theorem iB_0 {b : Bool} {R : Prop} (h : b = false → R) (h' : b = true → R) : R := by cases b; exact h rfl; exact h' rfl
theorem cl_can {T : ab_T} {X : ab_X} {rl : Nat → Nat → Bool} {σ : tq_S} (hw : wfT T) (hT : cTT T σ) (hX : cX X σ) (hx : wX T X) (hR : cR rl σ) (hG : cG T X rl σ) (x : Int32) :
    ∃ σ', tq_fI st_Tn_can (0, [x], [], σ) = some (oCan T X rl x, σ') ∧ rfr T X rl σ σ' := by
  have h80 := hw.2.1
  have hp := tq_pw1 (m := aN T) hw.2.2.1
  have go : ∀ r σ', tq_wo (bk_Tn_can_0 [x] [] σ) (tq_wp st_Tn_can (fun d => d = (tq_rt, [r], [], σ'))) → tq_fI st_Tn_can (0, [x], [], σ) = some (r, σ') := fun r σ' h => tq_fI_e (tq_at (by decide) h)
  unfold oCan
  rcases bd_cases x (n := T.1) (by omega) with h | ⟨c, hc, rfl, h⟩
  · rw [if_pos h]
    refine ⟨σ, go _ _ ?_, rfr.rf hG⟩
    rw [bk_Tn_can_0]
    exact wi_o (sp_tt hT.1 h) (wi_f (fun q => q rfl) (wi_s (tq_wp_rt rfl)))
  · rw [if_neg h, tq_nc (by omega)]
    obtain ⟨σ', a1, a2, a3, a4, -⟩ := rf_ok hw hT hX hx hR hG
    refine ⟨σ', go _ _ ?_, a2⟩
    rw [bk_Tn_can_0]
    refine wi_o (sp_tf hT.1 h) (wi_t (by decide) (wi_o a1 (wi_o (sp_someAre hw a3 hc) ?_)))
    have e : cD (∃ τ, τ < 1024 ∧ thr σ' τ = true ∧ vT T c τ = true) = cD (∃ τ, GG T X rl τ ∧ vT T c τ = true) := cD_c ⟨fun ⟨τ, h1, h2, h3⟩ => ⟨τ, (vG_th a4 h1).mp h2, h3⟩, fun ⟨τ, h1, h2⟩ => by
      have := GG_lt h1
      exact ⟨τ, by omega, (vG_th a4 (by omega)).mpr h1, h2⟩⟩
    rw [e]
    cases cD (∃ τ, GG T X rl τ ∧ vT T c τ = true) with
    | true => exact wi_f (by decide) (wi_s (tq_wp_rt rfl))
    | false => exact wi_t rfl (wi_s (tq_wp_rt rfl))
theorem cl_below {T : ab_T} {X : ab_X} {rl : Nat → Nat → Bool} {σ : tq_S} (hw : wfT T) (hT : cTT T σ) (hX : cX X σ) (hx : wX T X) (hR : cR rl σ) (hG : cG T X rl σ) (x y : Int32) :
    ∃ σ', tq_fI st_Tn_below (0, [x, y], [], σ) = some (oBel T X rl x y, σ') ∧ rfr T X rl σ σ' := by
  have h80 := hw.2.1
  have hp := tq_pw1 (m := aN T) hw.2.2.1
  have go : ∀ r σ', tq_wo (bk_Tn_below_0 [x, y] [] σ) (tq_wp st_Tn_below (fun d => d = (tq_rt, [r], [], σ'))) → tq_fI st_Tn_below (0, [x, y], [], σ) = some (r, σ') := fun r σ' h => tq_fI_e (tq_at (by decide) h)
  unfold oBel
  rcases bd_cases x (n := T.1) (by omega) with h | ⟨c, hc, rfl, h⟩
  · rw [if_pos (Or.inl h)]
    refine ⟨σ, go _ _ ?_, rfr.rf hG⟩
    rw [bk_Tn_below_0]
    exact wi_o (sp_tt hT.1 h) (wi_t rfl (wi_s (tq_wp_rt rfl)))
  · rcases bd_cases y (n := T.1) (by omega) with h' | ⟨d, hd, rfl, h'⟩
    · rw [if_pos (Or.inr h')]
      refine ⟨σ, go _ _ ?_, rfr.rf hG⟩
      rw [bk_Tn_below_0]
      exact wi_o (sp_tf hT.1 h) (wi_f (by decide) (wi_o (sp_tt hT.1 h') (wi_f (fun q => q rfl) (wi_s (tq_wp_rt rfl)))))
    · rw [if_neg (fun q => q.elim h h'), tq_nc (by omega), tq_nc (by omega)]
      obtain ⟨σ', a1, a2, a3, a4, -⟩ := rf_ok hw hT hX hx hR hG
      refine ⟨σ', go _ _ ?_, a2⟩
      rw [bk_Tn_below_0]
      refine wi_o (sp_tf hT.1 h) (wi_f (by decide) (wi_o (sp_tf hT.1 h') (wi_t (by decide) (wi_o a1 (wi_o (sp_eachIs hw a3 hc hd) ?_)))))
      have e : cD (∃ τ, τ < 1024 ∧ thr σ' τ = true ∧ vT T c τ = true ∧ vT T d τ = false) = cD (∃ τ, GG T X rl τ ∧ vT T c τ = true ∧ vT T d τ = false) := cD_c ⟨fun ⟨τ, h1, h2, h3⟩ => ⟨τ, (vG_th a4 h1).mp h2, h3⟩, fun ⟨τ, h1, h2⟩ => by
        have := GG_lt h1
        exact ⟨τ, by omega, (vG_th a4 (by omega)).mpr h1, h2⟩⟩
      rw [e]
      cases cD (∃ τ, GG T X rl τ ∧ vT T c τ = true ∧ vT T d τ = false) with
      | false => exact wi_f (by decide) (wi_s (tq_wp_rt rfl))
      | true => exact wi_t rfl (wi_s (tq_wp_rt rfl))
theorem cl_types {T : ab_T} {X : ab_X} {rl : Nat → Nat → Bool} {σ : tq_S} (hw : wfT T) (hT : cTT T σ) (hX : cX X σ) (hx : wX T X) (hR : cR rl σ) (hG : cG T X rl σ) :
    ∃ σ', tq_fI st_Tn_types (0, [], [], σ) = some (oTyp T X rl, σ') ∧ rfr T X rl σ σ' := by
  obtain ⟨σ', a1, a2, a3, a4, -⟩ := rf_ok hw hT hX hx hR hG
  refine ⟨σ', tq_fI_e (tq_at (by decide) ?_), a2⟩
  show tq_wo (bk_Tn_types_0 [] [] σ) _
  rw [bk_Tn_types_0]
  refine wi_o a1 (wi_o (sp_size σ') (wi_s (tq_wp_rt ?_)))
  have e : cnt (thr σ') 1024 = cnt (fun τ => cD (GG T X rl τ)) 1024 := cnt_congr (fun i hi => by
    cases ht : thr σ' i with
    | true => exact (cD_t.mpr ((vG_th a4 hi).mp ht)).symm
    | false => exact (cD_f.mpr (fun h => by rw [(vG_th a4 hi).mpr h] at ht; cases ht)).symm)
  rw [e]; rfl
theorem cl_rounds {T : ab_T} {X : ab_X} {rl : Nat → Nat → Bool} {σ : tq_S} (hw : wfT T) (hT : cTT T σ) (hX : cX X σ) (hx : wX T X) (hR : cR rl σ) (hG : cG T X rl σ) :
    ∃ z σ', tq_fI st_Tn_rounds (0, [], [], σ) = some (z, σ') ∧ aRnd T X rl z ∧ rfr T X rl σ σ' := by
  obtain ⟨σ', a1, a2, a3, ⟨-, ρ, b1, b2, -⟩, -⟩ := rf_ok hw hT hX hx hR hG
  refine ⟨nI ρ, σ', tq_fI_e (tq_at (by decide) ?_), ⟨ρ, b1, rfl⟩, a2⟩
  show tq_wo (bk_Tn_rounds_0 [] [] σ) _
  rw [bk_Tn_rounds_0]
  exact wi_o a1 (wi_o (sp_roundCount σ') (wi_s (tq_wp_rt (by rw [b2]))))
theorem cl_depth {T : ab_T} {X : ab_X} {rl : Nat → Nat → Bool} {σ : tq_S} (hw : wfT T) (hT : cTT T σ) (hX : cX X σ) (hx : wX T X) (hR : cR rl σ) (hG : cG T X rl σ) (x : Int32) :
    ∃ z σ', tq_fI st_Tn_depth (0, [x], [], σ) = some (z, σ') ∧ aDep T X rl x z ∧ rfr T X rl σ σ' := by
  have hm : aN T ≤ 10 := hw.2.2.1
  have hp := tq_pw1 hm
  have go : ∀ r σ', tq_wo (bk_Tn_depth_0 [x] [] σ) (tq_wp st_Tn_depth (fun d => d = (tq_rt, [r], [], σ'))) → tq_fI st_Tn_depth (0, [x], [], σ) = some (r, σ') := fun r σ' h => tq_fI_e (tq_at (by decide) h)
  rcases bd_cases x (n := 2 ^ aN T) (by omega) with h | ⟨τ, hτ, rfl, h⟩
  · refine ⟨-1, σ, go _ _ ?_, Or.inl ⟨h, rfl⟩, rfr.rf hG⟩
    rw [bk_Tn_depth_0]
    exact wi_o (sp_typeCount hm hT.2.1) (wi_o (sp_bt h) (wi_f (fun q => q rfl) (wi_s (tq_wp_rt rfl))))
  · obtain ⟨σ', a1, a2, a3, ⟨-, ρ, b1, b2, b3, b4⟩, -⟩ := rf_ok hw hT hX hx hR hG
    refine ⟨_, σ', go _ _ ?_, Or.inr ⟨h, ρ, b1, by rw [tq_nc (by omega)]; exact b4 τ hτ⟩, a2⟩
    rw [bk_Tn_depth_0]
    exact wi_o (sp_typeCount hm hT.2.1) (wi_o (sp_bf h) (wi_t (by decide) (wi_o a1 (wi_o (sp_depthOf σ' (by omega)) (wi_s (tq_wp_rt rfl))))))
