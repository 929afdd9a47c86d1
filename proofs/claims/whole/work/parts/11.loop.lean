/-- n rounds of a loop at most: F is one round, with what must hold when it goes on -/
def lp {σ : Type} (F : (σ → Prop) → σ → Prop) : Nat → σ → Prop
  | 0, _ => False
  | n + 1, s => F (lp F n) s
theorem lp_run {σ : Type} {F : (σ → Prop) → σ → Prop} (P : σ → Prop) (hs : ∀ K s, F K s → (∀ s', K s' → P s') → P s) : ∀ n s, lp F n s → P s := by
  intro n
  induction n with
  | zero => intro s h; exact absurd h id
  | succ n ih => intro s h; exact hs _ s h ih
/-- a loop by an invariant and a measure that falls -/
theorem lp_inv {σ : Type} {F : (σ → Prop) → σ → Prop} (I : σ → Prop) (μ : σ → Nat) (hs : ∀ (K : σ → Prop) s, I s → (∀ s', I s' → μ s' < μ s → K s') → F K s) (s : σ) (h : I s) : ∃ n, lp F n s := by
  have key : ∀ n s, I s → μ s < n → lp F n s := by
    intro n
    induction n with
    | zero => intro s _ h; exact absurd h (Nat.not_lt_zero _)
    | succ n ih => intro s hI hn; exact hs _ s hI (fun s' hI' hm => ih s' hI' (by omega))
  exact ⟨μ s + 1, key _ s h (Nat.lt_succ_self _)⟩
theorem vp_in_clamp {i : Int32} {n : Nat} (h : vp_in i n) : i.toNatClampNeg < n := Nat.lt_of_not_le (fun q => h (Or.inr q))
