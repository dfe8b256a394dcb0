/-! The pure side: a state is what the cells hold; a method is a step function between cut points; it runs until it comes to tq_rt. -/
abbrev tq_S : Type := (Nat → Nat → Int32) × (Nat → Nat → Int64) × (Nat → Int32)
abbrev tq_C : Type := Nat × List Int32 × List Int64 × tq_S
abbrev tq_rt : Nat := 1000000
abbrev ia (σ : tq_S) (k : Nat) (i : Int32) : Int32 := σ.1 k i.toNatClampNeg
abbrev la (σ : tq_S) (k : Nat) (i : Int32) : Int64 := σ.2.1 k i.toNatClampNeg
def iput (σ : tq_S) (k i : Nat) (v : Int32) : tq_S := (fun a => if a = k then upd (σ.1 k) i v else σ.1 a, σ.2.1, σ.2.2)
def lput (σ : tq_S) (k i : Nat) (v : Int64) : tq_S := (σ.1, fun a => if a = k then vp_updL (σ.2.1 k) i v else σ.2.1 a, σ.2.2)
def fput (σ : tq_S) (k : Nat) (v : Int32) : tq_S := (σ.1, σ.2.1, fun a => if a = k then v else σ.2.2 a)
def lcpy (σ : tq_S) (k0 k1 sp dp n : Nat) : tq_S := (σ.1, fun a => if a = k1 then va_cpy (σ.2.1 k0) (σ.2.1 k1) sp dp n else σ.2.1 a, σ.2.2)
abbrev jlshl (x : Int64) (y : Int32) : Int64 := x <<< (y.toInt64 &&& 63)
abbrev jlshr (x : Int64) (y : Int32) : Int64 := x >>> (y.toInt64 &&& 63)
abbrev jlushr (x : Int64) (y : Int32) : Int64 := (x.toUInt64 >>> (y.toInt64.toUInt64 &&& Int64.toUInt64 63)).toInt64
abbrev jiushr (x y : Int32) : Int32 := (x.toUInt32 >>> (y.toUInt32 &&& Int32.toUInt32 31)).toInt32
abbrev jrem (x y : Int32) : Int32 := x - x / y * y
abbrev jmin (x y : Int32) : Int32 := if y < x then y else x
abbrev jz (x : Int32) : Int32 := vp_nar .boolean x
abbrev tq_cp (sp dp n : Int32) (n0 n1 : Nat) : Prop := ¬ sp < 0 ∧ ¬ dp < 0 ∧ ¬ n < 0 ∧ sp.toNatClampNeg + n.toNatClampNeg ≤ n0 ∧ dp.toNatClampNeg + n.toNatClampNeg ≤ n1
def tq_gd (i : Int32) (n : Nat) (k : Option tq_C) : Option tq_C := if i < 0 ∨ n ≤ i.toNatClampNeg then none else k
def tq_gz (y : Int32) (k : Option tq_C) : Option tq_C := if y = 0 then none else k
def tq_gb (y : Int32) (k : Option tq_C) : Option tq_C := if y = 0 ∨ y = 1 then k else none
noncomputable def tq_gp (P : Prop) (k : Option tq_C) : Option tq_C := @ite _ P (Classical.propDecidable P) k none
def tq_lj {α : Type} (x : α) (k : α → Option tq_C) : Option tq_C := k x
def tq_ob {α : Type} (e : Option (α × tq_S)) (k : α → tq_S → Option tq_C) : Option tq_C := match e with
  | none => none
  | some q => k q.1 q.2
def tq_go (st : tq_C → Option tq_C) : Nat → tq_C → Option tq_C
  | 0, _ => none
  | n + 1, c => if c.1 = tq_rt then some c else match st c with
    | none => none
    | some d => tq_go st n d
theorem tq_gd_s {i : Int32} {n : Nat} {k : Option tq_C} {d : tq_C} (h : tq_gd i n k = some d) : vp_in i n ∧ k = some d := by
  unfold tq_gd at h
  by_cases c : i < 0 ∨ n ≤ i.toNatClampNeg
  · rw [if_pos c] at h; cases h
  · rw [if_neg c] at h; exact ⟨c, h⟩
theorem tq_gz_s {y : Int32} {k : Option tq_C} {d : tq_C} (h : tq_gz y k = some d) : ¬ y = 0 ∧ k = some d := by
  unfold tq_gz at h
  by_cases c : y = 0
  · rw [if_pos c] at h; cases h
  · rw [if_neg c] at h; exact ⟨c, h⟩
theorem tq_gb_s {y : Int32} {k : Option tq_C} {d : tq_C} (h : tq_gb y k = some d) : (y = 0 ∨ y = 1) ∧ k = some d := by
  unfold tq_gb at h
  by_cases c : y = 0 ∨ y = 1
  · rw [if_pos c] at h; exact ⟨c, h⟩
  · rw [if_neg c] at h; cases h
theorem tq_gp_s {P : Prop} {k : Option tq_C} {d : tq_C} (h : tq_gp P k = some d) : P ∧ k = some d := by
  unfold tq_gp at h
  by_cases c : P
  · rw [if_pos c] at h; exact ⟨c, h⟩
  · rw [if_neg c] at h; cases h
theorem tq_lj_s {α : Type} {x : α} {k : α → Option tq_C} {d : tq_C} (h : tq_lj x k = some d) : ∃ y, y = x ∧ k y = some d := ⟨x, rfl, h⟩
theorem tq_ob_s {α : Type} {e : Option (α × tq_S)} {k : α → tq_S → Option tq_C} {d : tq_C} (h : tq_ob e k = some d) : ∃ r σ, e = some (r, σ) ∧ k r σ = some d := by
  match e, h with
  | some q, h => exact ⟨q.1, q.2, rfl, h⟩
theorem tq_if_t {c : Prop} {i : Decidable c} {a b : Option tq_C} {d : tq_C} (hc : c) (h : @ite _ c i a b = some d) : a = some d := by rw [if_pos hc] at h; exact h
theorem tq_if_f {c : Prop} {i : Decidable c} {a b : Option tq_C} {d : tq_C} (hc : ¬ c) (h : @ite _ c i a b = some d) : b = some d := by rw [if_neg hc] at h; exact h
theorem tq_if_n {c : Prop} {i : Decidable (¬ c)} {a b : Option tq_C} {d : tq_C} (hc : c) (h : @ite _ (¬ c) i a b = some d) : b = some d := by rw [if_neg (fun q => q hc)] at h; exact h
theorem tq_go_s {st : tq_C → Option tq_C} {n : Nat} {c d : tq_C} (h : tq_go st (n + 1) c = some d) (hc : ¬ c.1 = tq_rt) : ∃ c', st c = some c' ∧ tq_go st n c' = some d := by
  rw [tq_go, if_neg hc] at h
  cases hs : st c with
  | none => rw [hs] at h; cases h
  | some c' => rw [hs] at h; exact ⟨c', rfl, h⟩
theorem tq_gi {st : tq_C → Option tq_C} {n : Nat} {a c' d : tq_C} (hg : some a = some c') (hn : tq_go st n c' = some d) : tq_go st n a = some d := by
  cases hg; exact hn
theorem tq_go_rt {st : tq_C → Option tq_C} {n : Nat} {a d : tq_C} (ha : a.1 = tq_rt) (h : tq_go st n a = some d) : a = d := by
  cases n with
  | zero => cases h
  | succ n => rw [tq_go, if_pos ha] at h; exact Option.some.inj h
theorem tq_gr {st : tq_C → Option tq_C} {n : Nat} {xs : List Int32} {ys : List Int64} {σ : tq_S} {c' d : tq_C} (hg : some (tq_rt, xs, ys, σ) = some c') (hn : tq_go st n c' = some d) : d = (tq_rt, xs, ys, σ) :=
  (tq_go_rt rfl (tq_gi hg hn)).symm
theorem tq_go_m {st : tq_C → Option tq_C} : ∀ {n m : Nat} {c d : tq_C}, n ≤ m → tq_go st n c = some d → tq_go st m c = some d := by
  intro n
  induction n with
  | zero => intro m c d _ h; cases h
  | succ n ih =>
    intro m c d hm h
    obtain ⟨m, rfl⟩ : ∃ k, m = k + 1 := ⟨m - 1, by omega⟩
    by_cases hc : c.1 = tq_rt
    · rw [tq_go, if_pos hc] at h ⊢; exact h
    · obtain ⟨c', h1, h2⟩ := tq_go_s h hc
      rw [tq_go, if_neg hc, h1]
      exact ih (by omega) h2
theorem tq_go_u {st : tq_C → Option tq_C} {n m : Nat} {c d d' : tq_C} (h : tq_go st n c = some d) (h' : tq_go st m c = some d') : d = d' := by
  have a := tq_go_m (Nat.le_max_left n m) h
  have b := tq_go_m (Nat.le_max_right n m) h'
  rw [a] at b; exact Option.some.inj b
noncomputable def tq_res (st : tq_C → Option tq_C) (c : tq_C) : Option tq_C :=
  @dite _ (∃ d n, tq_go st n c = some d) (Classical.propDecidable _) (fun h => some h.choose) (fun _ => none)
theorem tq_res_of {st : tq_C → Option tq_C} {n : Nat} {c d : tq_C} (h : tq_go st n c = some d) : tq_res st c = some d := by
  have hh : ∃ d n, tq_go st n c = some d := ⟨d, n, h⟩
  unfold tq_res
  rw [dif_pos hh]
  obtain ⟨m, hm⟩ := hh.choose_spec
  rw [tq_go_u hm h]
theorem tq_res_to {st : tq_C → Option tq_C} {c d : tq_C} (h : tq_res st c = some d) : ∃ n, tq_go st n c = some d := by
  unfold tq_res at h
  by_cases hh : ∃ d n, tq_go st n c = some d
  · rw [dif_pos hh] at h
    obtain ⟨m, hm⟩ := hh.choose_spec
    exact ⟨m, by rw [hm, Option.some.inj h]⟩
  · rw [dif_neg hh] at h; cases h
def tq_pI (d : Option tq_C) : Option (Int32 × tq_S) := match d with
  | some (_, [r], [], σ) => some (r, σ)
  | _ => none
def tq_pL (d : Option tq_C) : Option (Int64 × tq_S) := match d with
  | some (_, [], [r], σ) => some (r, σ)
  | _ => none
def tq_pV (d : Option tq_C) : Option (Unit × tq_S) := match d with
  | some (_, [], [], σ) => some ((), σ)
  | _ => none
noncomputable def tq_fI (st : tq_C → Option tq_C) (c : tq_C) : Option (Int32 × tq_S) := tq_pI (tq_res st c)
noncomputable def tq_fL (st : tq_C → Option tq_C) (c : tq_C) : Option (Int64 × tq_S) := tq_pL (tq_res st c)
noncomputable def tq_fV (st : tq_C → Option tq_C) (c : tq_C) : Option (Unit × tq_S) := tq_pV (tq_res st c)
theorem tq_go_end {st : tq_C → Option tq_C} : ∀ {n : Nat} {c d : tq_C}, tq_go st n c = some d → d.1 = tq_rt := by
  intro n
  induction n with
  | zero => intro c d h; cases h
  | succ n ih =>
    intro c d h
    by_cases hc : c.1 = tq_rt
    · rw [tq_go, if_pos hc] at h; rw [← Option.some.inj h]; exact hc
    · obtain ⟨c', h1, h2⟩ := tq_go_s h hc
      exact ih h2
theorem tq_fI_to {st : tq_C → Option tq_C} {c : tq_C} {r : Int32} {σ : tq_S} (h : tq_fI st c = some (r, σ)) : ∃ n, tq_go st n c = some (tq_rt, [r], [], σ) := by
  unfold tq_fI at h
  match hr : tq_res st c, h with
  | some (p, [r'], [], σ'), h =>
    obtain ⟨n, hn⟩ := tq_res_to hr
    have hp := tq_go_end hn
    simp only [tq_pI, Option.some.injEq, Prod.mk.injEq] at h
    obtain ⟨rfl, rfl⟩ := h
    simp only at hp
    subst hp
    exact ⟨n, hn⟩
theorem tq_fL_to {st : tq_C → Option tq_C} {c : tq_C} {r : Int64} {σ : tq_S} (h : tq_fL st c = some (r, σ)) : ∃ n, tq_go st n c = some (tq_rt, [], [r], σ) := by
  unfold tq_fL at h
  match hr : tq_res st c, h with
  | some (p, [], [r'], σ'), h =>
    obtain ⟨n, hn⟩ := tq_res_to hr
    have hp := tq_go_end hn
    simp only [tq_pL, Option.some.injEq, Prod.mk.injEq] at h
    obtain ⟨rfl, rfl⟩ := h
    simp only at hp
    subst hp
    exact ⟨n, hn⟩
theorem tq_fV_to {st : tq_C → Option tq_C} {c : tq_C} {r : Unit} {σ : tq_S} (h : tq_fV st c = some (r, σ)) : ∃ n, tq_go st n c = some (tq_rt, [], [], σ) := by
  unfold tq_fV at h
  match hr : tq_res st c, h with
  | some (p, [], [], σ'), h =>
    obtain ⟨n, hn⟩ := tq_res_to hr
    have hp := tq_go_end hn
    simp only [tq_pV, Option.some.injEq, Prod.mk.injEq] at h
    obtain ⟨-, rfl⟩ := h
    simp only at hp
    subst hp
    exact ⟨n, hn⟩
/-! what holds behind a run -/
def tq_wp (st : tq_C → Option tq_C) (Q : tq_C → Prop) (c : tq_C) : Prop := ∃ n d, tq_go st n c = some d ∧ Q d
def tq_wo (e : Option tq_C) (R : tq_C → Prop) : Prop := ∃ d, e = some d ∧ R d
theorem tq_wp_of {st : tq_C → Option tq_C} {Q : tq_C → Prop} {c : tq_C} (hc : ¬ c.1 = tq_rt) (h : tq_wo (st c) (tq_wp st Q)) : tq_wp st Q c := by
  obtain ⟨c', h1, n, d, h2, h3⟩ := h
  exact ⟨n + 1, d, by rw [tq_go, if_neg hc, h1]; exact h2, h3⟩
theorem tq_wp_rt {st : tq_C → Option tq_C} {Q : tq_C → Prop} {xs : List Int32} {ys : List Int64} {σ : tq_S} (h : Q (tq_rt, xs, ys, σ)) : tq_wp st Q (tq_rt, xs, ys, σ) := ⟨1, _, by rw [tq_go, if_pos rfl], h⟩
theorem tq_wp_mono {st : tq_C → Option tq_C} {Q Q' : tq_C → Prop} {c : tq_C} (h : tq_wp st Q c) (hq : ∀ d, Q d → Q' d) : tq_wp st Q' c := by
  obtain ⟨n, d, h1, h2⟩ := h
  exact ⟨n, d, h1, hq d h2⟩
theorem tq_wo_some {a : tq_C} {R : tq_C → Prop} : tq_wo (some a) R ↔ R a := ⟨fun ⟨d, h, k⟩ => by cases h; exact k, fun h => ⟨a, rfl, h⟩⟩
theorem tq_wo_ite {c : Prop} {i : Decidable c} {a b : Option tq_C} {R : tq_C → Prop} : tq_wo (@ite _ c i a b) R ↔ (c → tq_wo a R) ∧ (¬ c → tq_wo b R) := by
  by_cases h : c
  · rw [if_pos h]; exact ⟨fun k => ⟨fun _ => k, fun q => absurd h q⟩, fun k => k.1 h⟩
  · rw [if_neg h]; exact ⟨fun k => ⟨fun q => absurd q h, fun _ => k⟩, fun k => k.2 h⟩
theorem tq_wo_gd {i : Int32} {n : Nat} {k : Option tq_C} {R : tq_C → Prop} : tq_wo (tq_gd i n k) R ↔ vp_in i n ∧ tq_wo k R := by
  constructor
  · rintro ⟨d, h, r⟩
    obtain ⟨h1, h2⟩ := tq_gd_s h
    exact ⟨h1, d, h2, r⟩
  · rintro ⟨h1, d, h2, r⟩
    refine ⟨d, ?_, r⟩
    unfold tq_gd
    rw [if_neg h1]; exact h2
theorem tq_wo_gz {y : Int32} {k : Option tq_C} {R : tq_C → Prop} : tq_wo (tq_gz y k) R ↔ ¬ y = 0 ∧ tq_wo k R := by
  constructor
  · rintro ⟨d, h, r⟩
    obtain ⟨h1, h2⟩ := tq_gz_s h
    exact ⟨h1, d, h2, r⟩
  · rintro ⟨h1, d, h2, r⟩
    refine ⟨d, ?_, r⟩
    unfold tq_gz
    rw [if_neg h1]; exact h2
theorem tq_wo_gb {y : Int32} {k : Option tq_C} {R : tq_C → Prop} : tq_wo (tq_gb y k) R ↔ (y = 0 ∨ y = 1) ∧ tq_wo k R := by
  constructor
  · rintro ⟨d, h, r⟩
    obtain ⟨h1, h2⟩ := tq_gb_s h
    exact ⟨h1, d, h2, r⟩
  · rintro ⟨h1, d, h2, r⟩
    refine ⟨d, ?_, r⟩
    unfold tq_gb
    rw [if_pos h1]; exact h2
theorem tq_wo_gp {P : Prop} {k : Option tq_C} {R : tq_C → Prop} : tq_wo (tq_gp P k) R ↔ P ∧ tq_wo k R := by
  constructor
  · rintro ⟨d, h, r⟩
    obtain ⟨h1, h2⟩ := tq_gp_s h
    exact ⟨h1, d, h2, r⟩
  · rintro ⟨h1, d, h2, r⟩
    refine ⟨d, ?_, r⟩
    unfold tq_gp
    rw [if_pos h1]; exact h2
theorem tq_wo_lj {α : Type} {x : α} {k : α → Option tq_C} {R : tq_C → Prop} : tq_wo (tq_lj x k) R ↔ tq_wo (k x) R := Iff.rfl
theorem tq_wo_ob {α : Type} {e : Option (α × tq_S)} {k : α → tq_S → Option tq_C} {R : tq_C → Prop} : tq_wo (tq_ob e k) R ↔ ∃ r σ, e = some (r, σ) ∧ tq_wo (k r σ) R := by
  constructor
  · rintro ⟨d, h, r⟩
    obtain ⟨r', σ, h1, h2⟩ := tq_ob_s h
    exact ⟨r', σ, h1, d, h2, r⟩
  · rintro ⟨r', σ, h1, d, h2, r⟩
    refine ⟨d, ?_, r⟩
    rw [h1]; exact h2
theorem tq_fI_of {st : tq_C → Option tq_C} {c : tq_C} {P : Int32 → tq_S → Prop} (h : tq_wp st (fun d => ∃ r σ, d = (tq_rt, [r], [], σ) ∧ P r σ) c) : ∃ r σ, tq_fI st c = some (r, σ) ∧ P r σ := by
  obtain ⟨n, d, h1, r, σ, rfl, hp⟩ := h
  exact ⟨r, σ, by unfold tq_fI; rw [tq_res_of h1]; rfl, hp⟩
theorem tq_fL_of {st : tq_C → Option tq_C} {c : tq_C} {P : Int64 → tq_S → Prop} (h : tq_wp st (fun d => ∃ r σ, d = (tq_rt, [], [r], σ) ∧ P r σ) c) : ∃ r σ, tq_fL st c = some (r, σ) ∧ P r σ := by
  obtain ⟨n, d, h1, r, σ, rfl, hp⟩ := h
  exact ⟨r, σ, by unfold tq_fL; rw [tq_res_of h1]; rfl, hp⟩
theorem tq_fV_of {st : tq_C → Option tq_C} {c : tq_C} {P : tq_S → Prop} (h : tq_wp st (fun d => ∃ σ, d = (tq_rt, [], [], σ) ∧ P σ) c) : ∃ σ, tq_fV st c = some ((), σ) ∧ P σ := by
  obtain ⟨n, d, h1, σ, rfl, hp⟩ := h
  exact ⟨σ, by unfold tq_fV; rw [tq_res_of h1]; rfl, hp⟩
