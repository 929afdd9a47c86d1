/-! pure rows: numbers, the typed heap, frames, loops -/
theorem litI (n : Nat) : (OfNat.ofNat n : Int32) = nI n := rfl
theorem pI_s (h : TH) (o j : Nat) (v : Int32) : (pI h o j v).1 o j = v := by unfold pI; simp
theorem pI_n (h : TH) (o j : Nat) (v : Int32) {a b : Nat} (e : ¬ (a = o ∧ b = j)) : (pI h o j v).1 a b = h.1 a b := by unfold pI; simp only [if_neg e]
theorem pI_o (h : TH) (o j : Nat) (v : Int32) {a : Nat} (e : ¬ a = o) : (pI h o j v).1 a = h.1 a := by funext b; exact pI_n h o j v (fun q => e q.1)
theorem pI_l (h : TH) (o j : Nat) (v : Int32) : (pI h o j v).2 = h.2 := rfl
theorem pL_s (h : TH) (o j : Nat) (v : Int64) : (pL h o j v).2 o j = v := by unfold pL; simp
theorem pL_n (h : TH) (o j : Nat) (v : Int64) {a b : Nat} (e : ¬ (a = o ∧ b = j)) : (pL h o j v).2 a b = h.2 a b := by unfold pL; simp only [if_neg e]
theorem pL_o (h : TH) (o j : Nat) (v : Int64) {a : Nat} (e : ¬ a = o) : (pL h o j v).2 a = h.2 a := by funext b; exact pL_n h o j v (fun q => e q.1)
theorem pL_i (h : TH) (o j : Nat) (v : Int64) : (pL h o j v).1 = h.1 := rfl
theorem pRow_o (h : TH) (o : Nat) (f : Nat → Int32) {a : Nat} (e : ¬ a = o) : (pRow h o f).1 a = h.1 a := by funext b; unfold pRow; simp only [if_neg e]
theorem pRow_l (h : TH) (o : Nat) (f : Nat → Int32) : (pRow h o f).2 = h.2 := rfl
/-- nothing has changed but in the cells F -/
def Fr (F : Nat → Prop) (h h' : TH) : Prop := ∀ a, ¬ F a → h'.1 a = h.1 a ∧ h'.2 a = h.2 a
theorem Fr.rf {F : Nat → Prop} {h : TH} : Fr F h h := fun _ _ => ⟨rfl, rfl⟩
theorem Fr.tr {F : Nat → Prop} {h h1 h2 : TH} (a : Fr F h h1) (b : Fr F h1 h2) : Fr F h h2 := fun q hq => ⟨(b q hq).1.trans (a q hq).1, (b q hq).2.trans (a q hq).2⟩
theorem Fr.mono {F F' : Nat → Prop} {h h1 : TH} (a : Fr F h h1) (i : ∀ q, F q → F' q) : Fr F' h h1 := fun q hq => a q (fun f => hq (i q f))
theorem Fr.pI {F : Nat → Prop} {h : TH} {o j : Nat} {v : Int32} (i : F o) : Fr F h (pI h o j v) := fun q hq => ⟨pI_o h o j v (fun e => hq (e ▸ i)), rfl⟩
theorem Fr.pL {F : Nat → Prop} {h : TH} {o j : Nat} {v : Int64} (i : F o) : Fr F h (pL h o j v) := fun q hq => ⟨rfl, pL_o h o j v (fun e => hq (e ▸ i))⟩
theorem Fr.pRow {F : Nat → Prop} {h : TH} {o : Nat} {f : Nat → Int32} (i : F o) : Fr F h (pRow h o f) := fun q hq => ⟨pRow_o h o f (fun e => hq (e ▸ i)), rfl⟩
theorem jrem_nI {a d : Nat} (ha : a < 2 ^ 31) (h0 : 0 < d) (hd : d < 2 ^ 31) : jrem (nI a) (nI d) = nI (a % d) := pk_rem ha h0 hd
theorem nI_m1 {n : Nat} (h : 0 < n) : nI n + (-1) = nI (n - 1) := by
  obtain ⟨k, rfl⟩ : ∃ k, n = k + 1 := ⟨n - 1, by omega⟩
  exact pk_m1 k
theorem nI_s1 {n : Nat} (h : 0 < n) : nI n - 1 = nI (n - 1) := by
  obtain ⟨k, rfl⟩ : ∃ k, n = k + 1 := ⟨n - 1, by omega⟩
  exact nI_pred k
theorem lp_s {σ : Type} {F : (σ → Prop) → σ → Prop} {n : Nat} {s : σ} (h : F (lp F n) s) : lp F (n + 1) s := h
/-- a counted loop: I j holds at its head when j rounds are done; a round may also end the loop -/
theorem lp_for {σ : Type} {F : (σ → Prop) → σ → Prop} (N : Nat) (I : Nat → σ → Prop) (hs : ∀ (j : Nat) (s : σ) (K : σ → Prop), j < N → I j s → (∀ s', I (j + 1) s' → K s') → F K s) (hx : ∀ (s : σ) (K : σ → Prop), I N s → F K s) (s : σ) (h0 : I 0 s) : ∃ n, lp F n s := by
  have key : ∀ (m j : Nat), j + m = N → ∀ s, I j s → lp F (m + 1) s := by
    intro m
    induction m with
    | zero =>
      intro j hj s hI
      have e : j = N := by omega
      subst e
      exact hx s _ hI
    | succ m ih => intro j hj s hI; exact hs j s _ (by omega) hI (fun s' hI' => ih (j + 1) (by omega) s' hI')
  exact ⟨N + 1, key N 0 (by omega) s h0⟩
