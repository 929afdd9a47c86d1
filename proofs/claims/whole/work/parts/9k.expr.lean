/-! terms of a law, as a pure reading of tokens -/
def needP (kd pl : Nat → Nat) (k t : Nat) : Except (Nat × Nat) Nat := if kd t = k then (if t < 400 then .ok (t + 1) else .error (2, pl t)) else .error (1, pl t)
def unP (kd pl va : Nat → Nat) (S : Nat → Except (Nat × Nat) (Nat × List Nat)) (dp t : Nat) : Except (Nat × Nat) (Nat × List Nat) :=
  if kd t = 30 then (if dp < 6 then (match needP kd pl 30 t with
    | .error e => .error e
    | .ok t1 => match S t1 with
      | .error e => .error e
      | .ok p => match needP kd pl 31 p.1 with
        | .error e => .error e
        | .ok t3 => .ok (t3, p.2)) else .error (2, pl t))
  else if 14 ≤ kd t ∧ kd t < 23 then (match needP kd pl (kd t) t with
    | .error e => .error e
    | .ok t1 => .ok (t1, [9986 + kd t]))
  else match needP kd pl 3 t with
    | .error e => .error e
    | .ok t1 => .ok (t1, [va t])
def opL (kd pl : Nat → Nat) (a : Nat) (U : Nat → Except (Nat × Nat) (Nat × List Nat)) : Nat → Nat → List Nat → Except (Nat × Nat) (Nat × List Nat)
  | 0, t, cs => .ok (t, cs)
  | F + 1, t, cs => if kd t = a ∨ kd t = a + 1 then (match needP kd pl (kd t) t with
    | .error e => .error e
    | .ok t1 => match U t1 with
      | .error e => .error e
      | .ok p => opL kd pl a U F p.1 (cs ++ (p.2 ++ [10075 + kd t]))) else .ok (t, cs)
def prP (kd pl va : Nat → Nat) (S : Nat → Except (Nat × Nat) (Nat × List Nat)) (dp t : Nat) : Except (Nat × Nat) (Nat × List Nat) := match unP kd pl va S dp t with
  | .error e => .error e
  | .ok p => opL kd pl 27 (unP kd pl va S dp) 400 p.1 p.2
def suP (kd pl va : Nat → Nat) (S : Nat → Except (Nat × Nat) (Nat × List Nat)) (dp t : Nat) : Except (Nat × Nat) (Nat × List Nat) := match prP kd pl va S dp t with
  | .error e => .error e
  | .ok p => opL kd pl 25 (prP kd pl va S dp) 400 p.1 p.2
def smP (kd pl va : Nat → Nat) : Nat → Nat → Except (Nat × Nat) (Nat × List Nat)
  | 0 => suP kd pl va (fun _ => .error (9, 9)) 6
  | g + 1 => suP kd pl va (smP kd pl va g) (5 - g)
theorem needP_ok {kd pl : Nat → Nat} {k t t' : Nat} (h : needP kd pl k t = .ok t') : kd t = k ∧ t < 400 ∧ t' = t + 1 := by
  unfold needP at h
  split at h
  · next z =>
    split at h
    · next w => cases h; exact ⟨z, w, rfl⟩
    · cases h
  · cases h
theorem needP_t {kd pl : Nat → Nat} {k t : Nat} (h : kd t = k) (h2 : t < 400) : needP kd pl k t = .ok (t + 1) := by unfold needP; rw [if_pos h, if_pos h2]
theorem needP_2 {kd pl : Nat → Nat} {k t : Nat} (h : kd t = k) (h2 : ¬ t < 400) : needP kd pl k t = .error (2, pl t) := by unfold needP; rw [if_pos h, if_neg h2]
theorem needP_1 {kd pl : Nat → Nat} {k t : Nat} (h : ¬ kd t = k) : needP kd pl k t = .error (1, pl t) := by unfold needP; rw [if_neg h]
/-- the pile goes one up -/
def WF (ds : List Nat) (b : Nat) : Prop := ∀ rest k, k + b ≤ 30 → wfT (ds ++ rest) k = wfT rest (k + 1)
theorem WF.mono {ds : List Nat} {b b' : Nat} (h : WF ds b) (hb : b ≤ b') : WF ds b' := fun rest k hk => h rest k (by omega)
theorem WF.lit {c b : Nat} (hc : c < 10009) (hb : 1 ≤ b) : WF [c] b := by
  intro rest k hk
  show wfT (c :: rest) k = _
  conv => lhs; unfold wfT
  rw [if_pos hc, decide_eq_true (by omega), Bool.true_and]
theorem WF.op {d1 d2 : List Nat} {b c : Nat} (h1 : WF d1 (b + 1)) (h2 : WF d2 b) (hc : 10100 ≤ c) (hc2 : c ≤ 10103) : WF (d1 ++ (d2 ++ [c])) (b + 1) := by
  intro rest k hk
  rw [List.append_assoc, List.append_assoc, h1 _ k hk, h2 _ (k + 1) (by omega)]
  show wfT (c :: rest) (k + 1 + 1) = _
  conv => lhs; unfold wfT
  rw [if_neg (by omega), decide_eq_true hc, decide_eq_true hc2, decide_eq_true (by omega)]
  rfl
/-- what is read well: it goes on, within the tokens, with as many codes at most, and the pile is right -/
def Rgd (kd : Nat → Nat) (J b t : Nat) (R : Except (Nat × Nat) (Nat × List Nat)) : Prop := ∀ p, R = .ok p → t < p.1 ∧ p.1 ≤ J ∧ p.2.length + t ≤ p.1 ∧ WF p.2 b
def Jok (kd : Nat → Nat) (J : Nat) : Prop := J ≤ 400 ∧ ∀ t, t ≤ J → 2 ≤ kd t → t < 400 → t + 1 ≤ J
theorem unP_gd {kd pl va : Nat → Nat} {S : Nat → Except (Nat × Nat) (Nat × List Nat)} {dp t J b : Nat} (hJ : Jok kd J) (ht : t ≤ J) (hb : 1 ≤ b) (hv : ∀ t, kd t = 3 → va t ≤ 9999) (hS : ∀ t, t ≤ J → Rgd kd J b t (S t)) : Rgd kd J b t (unP kd pl va S dp t) := by
  intro p hp
  unfold unP at hp
  by_cases k30 : kd t = 30
  · rw [if_pos k30] at hp
    split at hp
    · cases h1 : needP kd pl 30 t with
      | error e => rw [h1] at hp; cases hp
      | ok t1 =>
        rw [h1] at hp
        simp only [] at hp
        obtain ⟨a1, a2, rfl⟩ := needP_ok h1
        have j1 := hJ.2 t ht (by omega) a2
        cases h2 : S (t + 1) with
        | error e => rw [h2] at hp; cases hp
        | ok p2 =>
          rw [h2] at hp
          simp only [] at hp
          obtain ⟨b1, b2, b3, b4⟩ := hS (t + 1) j1 p2 h2
          cases h3 : needP kd pl 31 p2.1 with
          | error e => rw [h3] at hp; cases hp
          | ok t3 =>
            rw [h3] at hp
            cases hp
            obtain ⟨c1, c2, rfl⟩ := needP_ok h3
            have j3 := hJ.2 p2.1 b2 (by omega) c2
            exact ⟨by show t < p2.1 + 1; omega, j3, by show p2.2.length + t ≤ p2.1 + 1; omega, b4⟩
    · cases hp
  · rw [if_neg k30] at hp
    by_cases kv : 14 ≤ kd t ∧ kd t < 23
    · rw [if_pos kv] at hp
      cases h1 : needP kd pl (kd t) t with
      | error e => rw [h1] at hp; cases hp
      | ok t1 =>
        rw [h1] at hp
        cases hp
        obtain ⟨a1, a2, rfl⟩ := needP_ok h1
        exact ⟨by show t < t + 1; omega, hJ.2 t ht (by omega) a2, by show 1 + t ≤ t + 1; omega, WF.lit (by omega) hb⟩
    · rw [if_neg kv] at hp
      cases h1 : needP kd pl 3 t with
      | error e => rw [h1] at hp; cases hp
      | ok t1 =>
        rw [h1] at hp
        cases hp
        obtain ⟨a1, a2, rfl⟩ := needP_ok h1
        have := hv t a1
        exact ⟨by show t < t + 1; omega, hJ.2 t ht (by omega) a2, by show 1 + t ≤ t + 1; omega, WF.lit (by omega) hb⟩
theorem opL_gd {kd pl : Nat → Nat} {U : Nat → Except (Nat × Nat) (Nat × List Nat)} {a J b t0 : Nat} (hJ : Jok kd J) (ha : a = 25 ∨ a = 27) (hU : ∀ t, t ≤ J → Rgd kd J b t (U t)) : ∀ F t cs, t0 < t → t ≤ J → cs.length + t0 ≤ t → WF cs (b + 1) → 401 ≤ F + t → ∀ p, opL kd pl a U F t cs = .ok p → t0 < p.1 ∧ p.1 ≤ J ∧ p.2.length + t0 ≤ p.1 ∧ WF p.2 (b + 1) ∧ ¬ (kd p.1 = a ∨ kd p.1 = a + 1) := by
  intro F
  induction F with
  | zero => intro t cs h1 h2 _ _ h5; have := hJ.1; omega
  | succ F ih =>
    intro t cs h1 h2 h3 h4 h5 p hp
    unfold opL at hp
    by_cases k : kd t = a ∨ kd t = a + 1
    · rw [if_pos k] at hp
      cases n1 : needP kd pl (kd t) t with
      | error e => rw [n1] at hp; cases hp
      | ok t1 =>
        rw [n1] at hp
        simp only [] at hp
        obtain ⟨a1, a2, rfl⟩ := needP_ok n1
        have j1 := hJ.2 t h2 (by omega) a2
        cases n2 : U (t + 1) with
        | error e => rw [n2] at hp; cases hp
        | ok p2 =>
          rw [n2] at hp
          simp only [] at hp
          obtain ⟨b1, b2, b3, b4⟩ := hU (t + 1) j1 p2 n2
          refine ih p2.1 _ (by omega) b2 ?_ (WF.op h4 b4 (by omega) (by omega)) (by omega) p hp
          rw [List.length_append, List.length_append]
          show cs.length + (p2.2.length + 1) + t0 ≤ p2.1
          omega
    · rw [if_neg k] at hp
      cases hp
      exact ⟨h1, h2, h3, h4, k⟩
theorem prP_gd {kd pl va : Nat → Nat} {S : Nat → Except (Nat × Nat) (Nat × List Nat)} {dp t J b : Nat} (hJ : Jok kd J) (ht : t ≤ J) (hb : 1 ≤ b) (hv : ∀ t, kd t = 3 → va t ≤ 9999) (hS : ∀ t, t ≤ J → Rgd kd J b t (S t)) : ∀ p, prP kd pl va S dp t = .ok p → t < p.1 ∧ p.1 ≤ J ∧ p.2.length + t ≤ p.1 ∧ WF p.2 (b + 1) ∧ ¬ (kd p.1 = 27 ∨ kd p.1 = 28) := by
  intro p hp
  unfold prP at hp
  cases h1 : unP kd pl va S dp t with
  | error e => rw [h1] at hp; cases hp
  | ok p1 =>
    rw [h1] at hp
    simp only [] at hp
    obtain ⟨a1, a2, a3, a4⟩ := unP_gd hJ ht hb hv hS p1 h1
    exact opL_gd hJ (Or.inr rfl) (fun t ht => unP_gd hJ ht hb hv hS) 400 p1.1 p1.2 a1 a2 a3 (a4.mono (by omega)) (by omega) p hp
theorem suP_gd {kd pl va : Nat → Nat} {S : Nat → Except (Nat × Nat) (Nat × List Nat)} {dp t J b : Nat} (hJ : Jok kd J) (ht : t ≤ J) (hb : 1 ≤ b) (hv : ∀ t, kd t = 3 → va t ≤ 9999) (hS : ∀ t, t ≤ J → Rgd kd J b t (S t)) : ∀ p, suP kd pl va S dp t = .ok p → t < p.1 ∧ p.1 ≤ J ∧ p.2.length + t ≤ p.1 ∧ WF p.2 (b + 2) ∧ ¬ (kd p.1 = 25 ∨ kd p.1 = 26) := by
  intro p hp
  unfold suP at hp
  cases h1 : prP kd pl va S dp t with
  | error e => rw [h1] at hp; cases hp
  | ok p1 =>
    rw [h1] at hp
    simp only [] at hp
    obtain ⟨a1, a2, a3, a4, -⟩ := prP_gd hJ ht hb hv hS p1 h1
    exact opL_gd hJ (Or.inl rfl) (fun t ht p hp => by obtain ⟨x1, x2, x3, x4, -⟩ := prP_gd hJ ht hb hv hS p hp; exact ⟨x1, x2, x3, x4⟩) 400 p1.1 p1.2 a1 a2 a3 (a4.mono (by omega)) (by omega) p hp
theorem smP_gd {kd pl va : Nat → Nat} {J : Nat} (hJ : Jok kd J) (hv : ∀ t, kd t = 3 → va t ≤ 9999) : ∀ g t, t ≤ J → ∀ p, smP kd pl va g t = .ok p → t < p.1 ∧ p.1 ≤ J ∧ p.2.length + t ≤ p.1 ∧ WF p.2 (3 + 2 * g) ∧ ¬ (kd p.1 = 25 ∨ kd p.1 = 26) := by
  intro g
  induction g with
  | zero => intro t ht p hp; exact suP_gd (b := 1) hJ ht (by omega) hv (fun t _ p hp => by cases hp) p hp
  | succ g ih =>
    intro t ht p hp
    have := suP_gd (b := 3 + 2 * g) hJ ht (by omega) hv (fun t ht p hp => by obtain ⟨x1, x2, x3, x4, -⟩ := ih t ht p hp; exact ⟨x1, x2, x3, x4⟩) p hp
    rw [show 3 + 2 * (g + 1) = 3 + 2 * g + 2 by omega]
    exact this
theorem WF.fin {ds : List Nat} {b : Nat} (h : WF ds b) (hb : b ≤ 30) : wfT ds 0 = true := by
  have := h [] 0 (by omega)
  rw [List.append_nil] at this
  rw [this]; rfl
/-! the same by a pile of waiting signs -/
def cntO : List Nat → Nat
  | [] => 0
  | x :: s => (if x = 30 then 1 else 0) + cntO s
def flW : List Nat → List Nat
  | [] => []
  | x :: s => if x = 30 then [] else (10075 + x) :: flW s
def rsW : List Nat → List Nat
  | [] => []
  | x :: s => if x = 30 then x :: s else rsW s
def flS : List Nat → List Nat
  | [] => []
  | x :: s => if x = 27 ∨ x = 28 then (10075 + x) :: flS s else []
def rsS : List Nat → List Nat
  | [] => []
  | x :: s => if x = 27 ∨ x = 28 then rsS s else x :: s
def mcF (kd pl va : Nat → Nat) : Nat → Bool → Nat → List Nat → List Nat → Except (Nat × Nat) (Nat × List Nat)
  | 0, _, _, _, _ => .error (8, 8)
  | k + 1, true, t, s, cs =>
    if kd t = 30 then (if cntO s < 6 ∧ t < 400 then mcF kd pl va k true (t + 1) (30 :: s) cs else .error (2, pl t))
    else if 14 ≤ kd t ∧ kd t < 23 then (if t < 400 then mcF kd pl va k false (t + 1) s (cs ++ [9986 + kd t]) else .error (2, pl t))
    else if kd t = 3 then (if t < 400 then mcF kd pl va k false (t + 1) s (cs ++ [va t]) else .error (2, pl t))
    else .error (1, pl t)
  | k + 1, false, t, s, cs =>
    if kd t = 31 ∧ 0 < cntO s then (if t < 400 then mcF kd pl va k false (t + 1) (rsW s).tail (cs ++ flW s) else .error (2, pl t))
    else if kd t = 27 ∨ kd t = 28 then (if t < 400 then mcF kd pl va k true (t + 1) (kd t :: rsS s) (cs ++ flS s) else .error (2, pl t))
    else if kd t = 25 ∨ kd t = 26 then (if t < 400 then mcF kd pl va k true (t + 1) (kd t :: rsW s) (cs ++ flW s) else .error (2, pl t))
    else if 0 < cntO s then .error (1, pl t) else .ok (t, cs ++ flW s)
def mcT (kd pl va : Nat → Nat) (ph : Bool) (t : Nat) (s cs : List Nat) : Except (Nat × Nat) (Nat × List Nat) := mcF kd pl va (500 - t) ph t s cs
theorem mcT_H {kd pl va : Nat → Nat} {t : Nat} {s cs : List Nat} (ht : t ≤ 400) : mcT kd pl va true t s cs = if kd t = 30 then (if cntO s < 6 ∧ t < 400 then mcT kd pl va true (t + 1) (30 :: s) cs else .error (2, pl t)) else if 14 ≤ kd t ∧ kd t < 23 then (if t < 400 then mcT kd pl va false (t + 1) s (cs ++ [9986 + kd t]) else .error (2, pl t)) else if kd t = 3 then (if t < 400 then mcT kd pl va false (t + 1) s (cs ++ [va t]) else .error (2, pl t)) else .error (1, pl t) := by
  unfold mcT
  rw [show 500 - t = (500 - (t + 1)) + 1 by omega]
  conv => lhs; unfold mcF
theorem mcT_A {kd pl va : Nat → Nat} {t : Nat} {s cs : List Nat} (ht : t ≤ 400) : mcT kd pl va false t s cs = if kd t = 31 ∧ 0 < cntO s then (if t < 400 then mcT kd pl va false (t + 1) (rsW s).tail (cs ++ flW s) else .error (2, pl t)) else if kd t = 27 ∨ kd t = 28 then (if t < 400 then mcT kd pl va true (t + 1) (kd t :: rsS s) (cs ++ flS s) else .error (2, pl t)) else if kd t = 25 ∨ kd t = 26 then (if t < 400 then mcT kd pl va true (t + 1) (kd t :: rsW s) (cs ++ flW s) else .error (2, pl t)) else if 0 < cntO s then .error (1, pl t) else .ok (t, cs ++ flW s) := by
  unfold mcT
  rw [show 500 - t = (500 - (t + 1)) + 1 by omega]
  conv => lhs; unfold mcF
