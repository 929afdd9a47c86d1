/-! both readings of a term are one -/
def pd0 (pd : List Nat) : Prop := ∀ x, x ∈ pd → ¬ x = 30
def topO (s : List Nat) : Prop := s = [] ∨ ∃ u, s = 30 :: u
def topW (s : List Nat) : Prop := ∀ x u, s = x :: u → ¬ (x = 27 ∨ x = 28)
theorem cntO_app {s : List Nat} : ∀ pd, pd0 pd → cntO (pd ++ s) = cntO s := by
  intro pd
  induction pd with
  | nil => intro _; rfl
  | cons x pd ih =>
    intro h
    show (if x = 30 then 1 else 0) + cntO (pd ++ s) = cntO s
    rw [if_neg (h x (by simp)), ih (fun y hy => h y (by simp [hy]))]; omega
theorem flW_top {s : List Nat} (hs : topO s) : flW s = [] ∧ rsW s = s := by
  rcases hs with rfl | ⟨u, rfl⟩
  · exact ⟨rfl, rfl⟩
  · exact ⟨by unfold flW; rw [if_pos rfl], by unfold rsW; rw [if_pos rfl]⟩
theorem flW_app {s : List Nat} (hs : topO s) : ∀ pd, pd0 pd → flW (pd ++ s) = flW pd ∧ rsW (pd ++ s) = s := by
  intro pd
  induction pd with
  | nil => intro _; exact flW_top hs
  | cons x pd ih =>
    intro h
    have i := ih (fun y hy => h y (by simp [hy]))
    have x30 := h x (by simp)
    constructor
    · show (if x = 30 then [] else (10075 + x) :: flW (pd ++ s)) = (if x = 30 then [] else (10075 + x) :: flW pd)
      rw [if_neg x30, if_neg x30, i.1]
    · show (if x = 30 then x :: (pd ++ s) else rsW (pd ++ s)) = s
      rw [if_neg x30]; exact i.2
theorem flW_snoc {o : Nat} (ho : ¬ o = 30) : ∀ pd, pd0 pd → flW (pd ++ [o]) = flW pd ++ [10075 + o] := by
  intro pd
  induction pd with
  | nil => intro _; show (if o = 30 then [] else (10075 + o) :: flW []) = _; rw [if_neg ho]; rfl
  | cons x pd ih =>
    intro h
    have x30 := h x (by simp)
    show (if x = 30 then [] else (10075 + x) :: flW (pd ++ [o])) = (if x = 30 then [] else (10075 + x) :: flW pd) ++ [10075 + o]
    rw [if_neg x30, if_neg x30, ih (fun y hy => h y (by simp [hy]))]; rfl
def pdT (pd : List Nat) : Prop := pd = [] ∨ ∃ o, (o = 27 ∨ o = 28) ∧ pd = [o]
theorem pdT.p0 {pd : List Nat} (h : pdT pd) : pd0 pd := by
  rcases h with rfl | ⟨o, ho, rfl⟩
  · intro x hx; cases hx
  · intro x hx; simp at hx; omega
theorem flS_app {s pd : List Nat} (hs : topW s) (h : pdT pd) : flS (pd ++ s) = flW pd ∧ rsS (pd ++ s) = s := by
  have s0 : flS s = [] ∧ rsS s = s := by
    cases s with
    | nil => exact ⟨rfl, rfl⟩
    | cons x u => exact ⟨by unfold flS; rw [if_neg (hs x u rfl)], by unfold rsS; rw [if_neg (hs x u rfl)]⟩
  rcases h with rfl | ⟨o, ho, rfl⟩
  · exact s0
  · constructor
    · show (if o = 27 ∨ o = 28 then (10075 + o) :: flS s else []) = (if o = 30 then [] else (10075 + o) :: flW [])
      rw [if_pos ho, if_neg (by omega), s0.1]; rfl
    · show (if o = 27 ∨ o = 28 then rsS s else o :: s) = s
      rw [if_pos ho]; exact s0.2
/-- a reading R from t on: the pile s reads so too -/
def simU (kd pl va : Nat → Nat) (s cs : List Nat) (t : Nat) (R : Except (Nat × Nat) (Nat × List Nat)) : Prop := (∀ e, R = .error e → mcT kd pl va true t s cs = .error e) ∧ (∀ p, R = .ok p → mcT kd pl va true t s cs = mcT kd pl va false p.1 s (cs ++ p.2))
def simP (kd pl va : Nat → Nat) (s cs : List Nat) (t : Nat) (R : Except (Nat × Nat) (Nat × List Nat)) : Prop := (∀ e, R = .error e → mcT kd pl va true t s cs = .error e) ∧ (∀ p, R = .ok p → ∃ pd ds, pdT pd ∧ p.2 = ds ++ flW pd ∧ mcT kd pl va true t s cs = mcT kd pl va false p.1 (pd ++ s) (cs ++ ds))
def simS (kd pl va : Nat → Nat) (s cs : List Nat) (t : Nat) (R : Except (Nat × Nat) (Nat × List Nat)) : Prop := (∀ e, R = .error e → mcT kd pl va true t s cs = .error e) ∧ (∀ p, R = .ok p → ∃ pd ds, pd0 pd ∧ p.2 = ds ++ flW pd ∧ mcT kd pl va true t s cs = mcT kd pl va false p.1 (pd ++ s) (cs ++ ds) ∧ ¬ (kd p.1 = 27 ∨ kd p.1 = 28) ∧ ¬ (kd p.1 = 25 ∨ kd p.1 = 26))
theorem un_sim {kd pl va : Nat → Nat} {S : Nat → Except (Nat × Nat) (Nat × List Nat)} {J t b : Nat} {s cs : List Nat} (hJ : Jok kd J) (ht : t ≤ J) (hg : ∀ t, t ≤ J → Rgd kd J b t (S t)) (hS : cntO s < 6 → ∀ t cs, t ≤ J → simS kd pl va (30 :: s) cs t (S t)) : simU kd pl va s cs t (unP kd pl va S (cntO s) t) := by
  have h4 : t ≤ 400 := by have := hJ.1; omega
  unfold simU unP
  rw [mcT_H h4]
  by_cases k30 : kd t = 30
  · rw [if_pos k30, if_pos k30]
    by_cases c6 : cntO s < 6
    · rw [if_pos c6]
      by_cases t4 : t < 400
      · rw [needP_t k30 t4, if_pos ⟨c6, t4⟩]
        simp only []
        have j1 := hJ.2 t ht (by omega) t4
        obtain ⟨s1, s2⟩ := hS c6 (t + 1) cs j1
        cases hR : S (t + 1) with
        | error e => exact ⟨fun e' he => by cases he; exact s1 e hR, fun p hp => by cases hp⟩
        | ok p2 =>
          simp only []
          obtain ⟨pd, ds, q1, q2, q3, q4, q5⟩ := s2 p2 hR
          have b2 := (hg (t + 1) j1 p2 hR).2.1
          have ca : cntO (pd ++ 30 :: s) = cntO s + 1 := by rw [cntO_app pd q1]; show (if (30 : Nat) = 30 then 1 else 0) + cntO s = _; rw [if_pos rfl]; omega
          have fa := flW_app (s := 30 :: s) (Or.inr ⟨s, rfl⟩) pd q1
          have p4 : p2.1 ≤ 400 := by have := hJ.1; omega
          rw [q3, mcT_A p4]
          by_cases k31 : kd p2.1 = 31
          · rw [if_pos ⟨k31, by omega⟩]
            by_cases t5 : p2.1 < 400
            · rw [needP_t k31 t5, if_pos t5, fa.1, fa.2]
              refine ⟨fun e he => (by cases he), fun p hp => ?_⟩
              cases hp
              show mcT kd pl va false (p2.1 + 1) s (cs ++ ds ++ flW pd) = mcT kd pl va false (p2.1 + 1) s (cs ++ p2.2)
              rw [q2, List.append_assoc]
            · rw [needP_2 k31 t5, if_neg t5]
              exact ⟨fun e he => by cases he; rfl, fun p hp => by cases hp⟩
          · rw [needP_1 k31, if_neg (fun w => k31 w.1), if_neg q4, if_neg q5, if_pos (by omega)]
            exact ⟨fun e he => by cases he; rfl, fun p hp => by cases hp⟩
      · rw [needP_2 k30 t4, if_neg (fun w => t4 w.2)]
        exact ⟨fun e he => by cases he; rfl, fun p hp => by cases hp⟩
    · rw [if_neg c6, if_neg (fun w => c6 w.1)]
      exact ⟨fun e he => by cases he; rfl, fun p hp => by cases hp⟩
  · rw [if_neg k30, if_neg k30]
    by_cases kv : 14 ≤ kd t ∧ kd t < 23
    · rw [if_pos kv, if_pos kv]
      by_cases t4 : t < 400
      · rw [needP_t rfl t4, if_pos t4]
        exact ⟨fun e he => (by cases he), fun p hp => by cases hp; rfl⟩
      · rw [needP_2 rfl t4, if_neg t4]
        exact ⟨fun e he => by cases he; rfl, fun p hp => by cases hp⟩
    · rw [if_neg kv, if_neg kv]
      by_cases k3 : kd t = 3
      · rw [if_pos k3]
        by_cases t4 : t < 400
        · rw [needP_t k3 t4, if_pos t4]
          exact ⟨fun e he => (by cases he), fun p hp => by cases hp; rfl⟩
        · rw [needP_2 k3 t4, if_neg t4]
          exact ⟨fun e he => by cases he; rfl, fun p hp => by cases hp⟩
      · rw [if_neg k3, needP_1 k3]
        exact ⟨fun e he => by cases he; rfl, fun p hp => by cases hp⟩
theorem pr_loop {kd pl va : Nat → Nat} {U : Nat → Except (Nat × Nat) (Nat × List Nat)} {J b : Nat} {s cs : List Nat} (hJ : Jok kd J) (hs : topW s) (hg : ∀ t, t ≤ J → Rgd kd J b t (U t)) (hU : ∀ o, (o = 27 ∨ o = 28) → ∀ t cs, t ≤ J → simU kd pl va (o :: s) cs t (U t)) : ∀ F t ds pd, 401 ≤ F + t → t ≤ J → pdT pd → (∀ e, opL kd pl 27 U F t (ds ++ flW pd) = .error e → mcT kd pl va false t (pd ++ s) (cs ++ ds) = .error e) ∧ (∀ p, opL kd pl 27 U F t (ds ++ flW pd) = .ok p → ∃ pd' ds', pdT pd' ∧ p.2 = ds' ++ flW pd' ∧ mcT kd pl va false t (pd ++ s) (cs ++ ds) = mcT kd pl va false p.1 (pd' ++ s) (cs ++ ds')) := by
  intro F
  induction F with
  | zero => intro t ds pd h1 h2; have := hJ.1; omega
  | succ F ih =>
    intro t ds pd h1 h2 hp
    have h4 : t ≤ 400 := by have := hJ.1; omega
    unfold opL
    by_cases k : kd t = 27 ∨ kd t = 27 + 1
    · have k' : kd t = 27 ∨ kd t = 28 := k
      rw [if_pos k]
      have fa := flS_app hs hp
      have em : mcT kd pl va false t (pd ++ s) (cs ++ ds) = if t < 400 then mcT kd pl va true (t + 1) (kd t :: s) (cs ++ (ds ++ flW pd)) else .error (2, pl t) := by
        rw [mcT_A h4, if_neg (by omega), if_pos k', fa.1, fa.2, List.append_assoc]
      rw [em]
      by_cases t4 : t < 400
      · rw [needP_t rfl t4, if_pos t4]
        simp only []
        have j1 := hJ.2 t h2 (by omega) t4
        obtain ⟨u1, u2⟩ := hU (kd t) k' (t + 1) (cs ++ (ds ++ flW pd)) j1
        cases hR : U (t + 1) with
        | error e => exact ⟨fun e' he => by cases he; exact u1 e hR, fun p hp => by cases hp⟩
        | ok p2 =>
          simp only []
          have b1 := hg (t + 1) j1 p2 hR
          rw [u2 p2 hR]
          have i := ih p2.1 ((ds ++ flW pd) ++ p2.2) [kd t] (by omega) b1.2.1 (Or.inr ⟨kd t, k', rfl⟩)
          have ef : flW [kd t] = [10075 + kd t] := by unfold flW; rw [if_neg (by omega)]; rfl
          rw [ef] at i
          have e1 : (ds ++ flW pd) ++ p2.2 ++ [10075 + kd t] = (ds ++ flW pd) ++ (p2.2 ++ [10075 + kd t]) := List.append_assoc _ _ _
          rw [e1] at i
          have e2 : cs ++ (ds ++ flW pd) ++ p2.2 = cs ++ ((ds ++ flW pd) ++ p2.2) := List.append_assoc _ _ _
          rw [e2]
          exact i
      · rw [needP_2 rfl t4, if_neg t4]
        exact ⟨fun e he => by cases he; rfl, fun p hp => by cases hp⟩
    · rw [if_neg k]
      exact ⟨fun e he => (by cases he), fun p hp' => by cases hp'; exact ⟨pd, ds, hp, rfl, rfl⟩⟩
theorem pr_sim {kd pl va : Nat → Nat} {S : Nat → Except (Nat × Nat) (Nat × List Nat)} {J t b : Nat} {s cs : List Nat} (hJ : Jok kd J) (ht : t ≤ J) (hb : 1 ≤ b) (hv : ∀ t, kd t = 3 → va t ≤ 9999) (hs : topW s) (hg : ∀ t, t ≤ J → Rgd kd J b t (S t)) (hS : ∀ s', cntO s' = cntO s → cntO s' < 6 → ∀ t cs, t ≤ J → simS kd pl va (30 :: s') cs t (S t)) : simP kd pl va s cs t (prP kd pl va S (cntO s) t) := by
  have u := un_sim (pl := pl) (va := va) (s := s) (cs := cs) hJ ht hg (hS s rfl)
  unfold simP prP
  cases hR : unP kd pl va S (cntO s) t with
  | error e => exact ⟨fun e' he => by cases he; exact u.1 e hR, fun p hp => by cases hp⟩
  | ok p1 =>
    simp only []
    have g1 := unP_gd (pl := pl) (va := va) (dp := cntO s) hJ ht hb hv hg p1 hR
    rw [u.2 p1 hR]
    have l := pr_loop (pl := pl) (va := va) (s := s) (cs := cs) (b := b) hJ hs (fun t ht => unP_gd (pl := pl) (va := va) (dp := cntO s) hJ ht hb hv hg) (fun o ho t cs ht => by
      have e : cntO (o :: s) = cntO s := by show (if o = 30 then 1 else 0) + cntO s = _; rw [if_neg (by omega)]; omega
      have := un_sim (pl := pl) (va := va) (s := o :: s) (cs := cs) hJ ht hg (hS (o :: s) e)
      rw [e] at this
      exact this) 400 p1.1 p1.2 [] (by omega) g1.2.1 (Or.inl rfl)
    rw [show flW [] = [] from rfl, List.append_nil] at l
    exact l
theorem su_loop {kd pl va : Nat → Nat} {U : Nat → Except (Nat × Nat) (Nat × List Nat)} {J b : Nat} {s cs : List Nat} (hJ : Jok kd J) (hs : topO s) (hg : ∀ t, t ≤ J → ∀ p, U t = .ok p → t < p.1 ∧ p.1 ≤ J ∧ p.2.length + t ≤ p.1 ∧ WF p.2 b ∧ ¬ (kd p.1 = 27 ∨ kd p.1 = 28)) (hU : ∀ o, (o = 25 ∨ o = 26) → ∀ t cs, t ≤ J → simP kd pl va (o :: s) cs t (U t)) : ∀ F t ds pd, 401 ≤ F + t → t ≤ J → pd0 pd → ¬ (kd t = 27 ∨ kd t = 28) → (∀ e, opL kd pl 25 U F t (ds ++ flW pd) = .error e → mcT kd pl va false t (pd ++ s) (cs ++ ds) = .error e) ∧ (∀ p, opL kd pl 25 U F t (ds ++ flW pd) = .ok p → ∃ pd' ds', pd0 pd' ∧ p.2 = ds' ++ flW pd' ∧ mcT kd pl va false t (pd ++ s) (cs ++ ds) = mcT kd pl va false p.1 (pd' ++ s) (cs ++ ds') ∧ ¬ (kd p.1 = 27 ∨ kd p.1 = 28) ∧ ¬ (kd p.1 = 25 ∨ kd p.1 = 26)) := by
  intro F
  induction F with
  | zero => intro t ds pd h1 h2; have := hJ.1; omega
  | succ F ih =>
    intro t ds pd h1 h2 hp hk
    have h4 : t ≤ 400 := by have := hJ.1; omega
    unfold opL
    by_cases k : kd t = 25 ∨ kd t = 25 + 1
    · have k' : kd t = 25 ∨ kd t = 26 := k
      rw [if_pos k]
      have fa := flW_app hs pd hp
      have em : mcT kd pl va false t (pd ++ s) (cs ++ ds) = if t < 400 then mcT kd pl va true (t + 1) (kd t :: s) (cs ++ (ds ++ flW pd)) else .error (2, pl t) := by
        rw [mcT_A h4, if_neg (by omega), if_neg hk, if_pos k', fa.1, fa.2, List.append_assoc]
      rw [em]
      by_cases t4 : t < 400
      · rw [needP_t rfl t4, if_pos t4]
        simp only []
        have j1 := hJ.2 t h2 (by omega) t4
        obtain ⟨u1, u2⟩ := hU (kd t) k' (t + 1) (cs ++ (ds ++ flW pd)) j1
        cases hR : U (t + 1) with
        | error e => exact ⟨fun e' he => by cases he; exact u1 e hR, fun p hp => by cases hp⟩
        | ok p2 =>
          simp only []
          have b1 := hg (t + 1) j1 p2 hR
          obtain ⟨pd1, ds1, q1, q2, q3⟩ := u2 p2 hR
          have p01 := q1.p0
          rw [q3]
          have i := ih p2.1 ((ds ++ flW pd) ++ ds1) (pd1 ++ [kd t]) (by omega) b1.2.1 (fun x hx => by
            rw [List.mem_append] at hx
            rcases hx with w | w
            · exact p01 x w
            · simp at w; omega) b1.2.2.2.2
          rw [flW_snoc (by omega) pd1 p01] at i
          have e1 : (ds ++ flW pd) ++ ds1 ++ (flW pd1 ++ [10075 + kd t]) = (ds ++ flW pd) ++ (p2.2 ++ [10075 + kd t]) := by rw [q2]; simp only [List.append_assoc]
          rw [e1] at i
          have e2 : cs ++ (ds ++ flW pd) ++ ds1 = cs ++ ((ds ++ flW pd) ++ ds1) := List.append_assoc _ _ _
          have e3 : pd1 ++ kd t :: s = pd1 ++ [kd t] ++ s := by rw [List.append_assoc]; rfl
          rw [e2, e3]
          exact i
      · rw [needP_2 rfl t4, if_neg t4]
        exact ⟨fun e he => by cases he; rfl, fun p hp => by cases hp⟩
    · rw [if_neg k]
      exact ⟨fun e he => (by cases he), fun p hp' => by cases hp'; exact ⟨pd, ds, hp, rfl, rfl, hk, k⟩⟩
theorem su_sim {kd pl va : Nat → Nat} {S : Nat → Except (Nat × Nat) (Nat × List Nat)} {J t b : Nat} {s cs : List Nat} (hJ : Jok kd J) (ht : t ≤ J) (hb : 1 ≤ b) (hv : ∀ t, kd t = 3 → va t ≤ 9999) (hs : topO s) (hg : ∀ t, t ≤ J → Rgd kd J b t (S t)) (hS : ∀ s', cntO s' = cntO s → cntO s' < 6 → ∀ t cs, t ≤ J → simS kd pl va (30 :: s') cs t (S t)) : simS kd pl va s cs t (suP kd pl va S (cntO s) t) := by
  have tw : topW s := by
    rcases hs with rfl | ⟨u, rfl⟩
    · intro x u h; cases h
    · intro x u' h; cases h; omega
  have u := pr_sim (pl := pl) (va := va) (s := s) (cs := cs) hJ ht hb hv tw hg hS
  unfold simS suP
  cases hR : prP kd pl va S (cntO s) t with
  | error e => exact ⟨fun e' he => by cases he; exact u.1 e hR, fun p hp => by cases hp⟩
  | ok p1 =>
    simp only []
    have g1 := prP_gd (pl := pl) (va := va) (dp := cntO s) hJ ht hb hv hg p1 hR
    obtain ⟨pd, ds, q1, q2, q3⟩ := u.2 p1 hR
    rw [q3, q2]
    exact su_loop (pl := pl) (va := va) (s := s) (cs := cs) (b := b + 1) hJ hs (fun t ht => prP_gd (pl := pl) (va := va) (dp := cntO s) hJ ht hb hv hg) (fun o ho t cs ht => by
      have e : cntO (o :: s) = cntO s := by show (if o = 30 then 1 else 0) + cntO s = _; rw [if_neg (by omega)]; omega
      have := pr_sim (pl := pl) (va := va) (s := o :: s) (cs := cs) hJ ht hb hv (fun x u h => by cases h; omega) hg (fun s' h => hS s' (by rw [h, e]))
      rw [e] at this
      exact this) 400 p1.1 ds pd (by omega) g1.2.1 q1.p0 g1.2.2.2.2
theorem sm_sim {kd pl va : Nat → Nat} {J : Nat} (hJ : Jok kd J) (hv : ∀ t, kd t = 3 → va t ≤ 9999) : ∀ g, g ≤ 6 → ∀ s cs t, t ≤ J → topO s → cntO s = 6 - g → simS kd pl va s cs t (smP kd pl va g t) := by
  intro g
  induction g with
  | zero =>
    intro _ s cs t ht hs hc
    have := su_sim (pl := pl) (va := va) (b := 1) (S := fun _ => .error (9, 9)) (s := s) (cs := cs) hJ ht (by omega) hv hs (fun t _ p hp => by cases hp) (fun s' h1 h2 => by omega)
    rw [hc] at this
    exact this
  | succ g ih =>
    intro hg s cs t ht hs hc
    have := su_sim (pl := pl) (va := va) (b := 3 + 2 * g) (S := smP kd pl va g) (s := s) (cs := cs) hJ ht (by omega) hv hs (fun t ht p hp => by obtain ⟨x1, x2, x3, x4, -⟩ := smP_gd hJ hv g t ht p hp; exact ⟨x1, x2, x3, x4⟩) (fun s' h1 h2 t cs ht => ih (by omega) (30 :: s') cs t ht (Or.inr ⟨s', rfl⟩) (by show (if (30 : Nat) = 30 then 1 else 0) + cntO s' = _; rw [if_pos rfl]; omega))
    rw [hc] at this
    show simS kd pl va s cs t (suP kd pl va (smP kd pl va g) (5 - g) t)
    rw [show 5 - g = 6 - (g + 1) by omega]
    exact this
/-- a term is read alike by both -/
theorem mc_eq {kd pl va : Nat → Nat} {J t : Nat} (hJ : Jok kd J) (hv : ∀ t, kd t = 3 → va t ≤ 9999) (ht : t ≤ J) : mcT kd pl va true t [] [] = smP kd pl va 6 t := by
  have h := sm_sim (pl := pl) hJ hv 6 (Nat.le_refl _) [] [] t ht (Or.inl rfl) rfl
  cases hR : smP kd pl va 6 t with
  | error e => exact h.1 e hR
  | ok p =>
    obtain ⟨pd, ds, q1, q2, q3, q4, q5⟩ := h.2 p hR
    have g := smP_gd hJ hv 6 t ht p hR
    have ca : cntO (pd ++ []) = 0 := cntO_app (s := []) pd q1
    have fa := flW_app (s := []) (Or.inl rfl) pd q1
    rw [q3, mcT_A (by have := hJ.1; omega), if_neg (by rw [ca]; omega), if_neg q4, if_neg q5, if_neg (by rw [ca]; omega), fa.1, List.nil_append, ← q2]
