/-! a whole text: what a draft keeps -/
def psL (kd pl va : Nat → Nat) (nm : Nat → List Nat) : Nat → Nat → PSt → Except (Nat × Nat) (Nat × PSt)
  | 0, _, _ => .error (0, 0)
  | k + 1, t, P => if kd t = 0 then .ok (t, P) else bnd (tellP kd pl va nm t P) (fun p => psL kd pl va nm k p.1 p.2)
def aflB (B : By) : Bool := !exF (fun k => !(decide (bX B k < bW B) && (decide (bY B k < bH B) && !decide (bK B (8 * bY B k + bX B k) = 1)))) (bN B)
def endF (n : Nat) (P : PSt) : Option (Nat × Nat) := addF (!aflB (dB P)) 6 n (dF P)
def rdP (c : Nat → Nat) (n : Nat) : Except (Nat × Nat) PSt := bnd (psL (kdT c n) (plT c n) (vaT c n) (nmT c n) 400 0 draft0) (fun p => match endF n p.2 with
  | none => .ok p.2
  | some e => .error e)
def PV (P : PSt) : Prop := (bW (dB P) ≤ 8 ∧ bH (dB P) ≤ 5 ∧ bN (dB P) ≤ 6 ∧ bSe (dB P) ≤ 9999 ∧ m31 (bPW (dB P)) ∧ m31 (bPS (dB P)) ∧ m31 (bPL (dB P)) ∧ ∀ c, bK (dB P) c ≤ 3) ∧ (dF P = none → bCo (dB P) ≤ 100 ∧ (∀ c, if c % 8 < bW (dB P) ∧ c / 8 < bH (dB P) then bK (dB P) c ≤ 2 else bK (dB P) c = 3) ∧ ∀ k, k < bN (dB P) → bS (dB P) k ≤ 9 ∧ bNo (dB P) k ≤ 9)
theorem PV0 : PV draft0 := ⟨⟨by decide, by decide, by decide, by decide, ⟨0, rfl⟩, ⟨0, rfl⟩, ⟨0, rfl⟩, fun _ => Nat.le_refl 3⟩, fun _ => ⟨by decide, fun c => by rw [if_neg (fun z => absurd z.1 (Nat.not_lt_zero _))]; rfl, fun k hk => absurd hk (Nat.not_lt_zero _)⟩⟩
theorem addF_n {b : Bool} {k p : Nat} {fl : Option (Nat × Nat)} (h : addF b k p fl = none) : fl = none ∧ b = false := by
  cases fl with
  | some x => cases h
  | none =>
    cases b with
    | false => exact ⟨rfl, rfl⟩
    | true => cases h
theorem PV_row {ls : List Nat} {p : Nat} {P : PSt} (g : PV P) (hl : ls.length ≤ 8) (hH : bH (dB P) < 5) : PV (rowS ls p P) := by
  obtain ⟨⟨g1, g2, g3, g4, g5, g6, g7, g8⟩, g9⟩ := g
  have lk : ∀ x, lkd x ≤ 2 := by
    intro x
    unfold lkd
    by_cases e : x = 15
    · rw [if_pos e]; omega
    · rw [if_neg e]
      by_cases e2 : x = 18
      · rw [if_pos e2]; omega
      · rw [if_neg e2]; omega
  have w8 : rowW ls (dB P) ≤ 8 := by unfold rowW; split <;> omega
  refine ⟨⟨w8, ?_, g3, g4, g5, g6, g7, fun c => ?_⟩, fun w => ?_⟩
  · show bH (dB P) + 1 ≤ 5; omega
  · show (if c / 8 = bH (dB P) ∧ c % 8 < ls.length then lkd (ls.getD (c % 8) 0) else bK (dB P) c) ≤ 3
    split
    · have := lk (ls.getD (c % 8) 0); omega
    · exact g8 c
  · obtain ⟨w1, w2⟩ := addF_n (show addF (!rowOk ls (dB P)) 6 p (dF P) = none from w)
    obtain ⟨a1, a2, a3⟩ := g9 w1
    have ok : rowOk ls (dB P) = true := by rw [Bool.not_eq_false'] at w2; exact w2
    unfold rowOk at ok
    rw [Bool.and_eq_true, decide_eq_true_iff] at ok
    have el := ok.1
    refine ⟨a1, fun c => ?_, a3⟩
    show if c % 8 < rowW ls (dB P) ∧ c / 8 < bH (dB P) + 1 then (if c / 8 = bH (dB P) ∧ c % 8 < ls.length then lkd (ls.getD (c % 8) 0) else bK (dB P) c) ≤ 2 else (if c / 8 = bH (dB P) ∧ c % 8 < ls.length then lkd (ls.getD (c % 8) 0) else bK (dB P) c) = 3
    have ac := a2 c
    by_cases e : c / 8 = bH (dB P) ∧ c % 8 < ls.length
    · rw [if_pos (by omega), if_pos e]; exact lk _
    · rw [if_neg e]
      by_cases e2 : c % 8 < rowW ls (dB P) ∧ c / 8 < bH (dB P) + 1
      · rw [if_pos e2]
        have nh : ¬ bH (dB P) = 0 := by omega
        have ew : rowW ls (dB P) = bW (dB P) := by unfold rowW; rw [if_neg nh]
        rw [ew] at e2
        rw [if_pos (by omega)] at ac; exact ac
      · rw [if_neg e2]
        by_cases nh : bH (dB P) = 0
        · rw [if_neg (by omega)] at ac; exact ac
        · have ew : rowW ls (dB P) = bW (dB P) := by unfold rowW; rw [if_neg nh]
          rw [ew] at e2
          rw [if_neg (by omega)] at ac; exact ac
theorem PV_boat {ls : List Nat} {p x y s o px py ps po : Nat} {P : PSt} (g : PV P) (hN : bN (dB P) < 6) : PV (boatS ls p x y s o px py ps po P) := by
  obtain ⟨⟨g1, g2, g3, g4, g5, g6, g7, g8⟩, g9⟩ := g
  refine ⟨⟨g1, g2, ?_, g4, g5, g6, g7, g8⟩, fun w => ?_⟩
  · show bN (dB P) + 1 ≤ 6; omega
  · obtain ⟨v4, u4⟩ := addF_n (show addF (decide (9 < o)) 5 po _ = none from w)
    obtain ⟨v3, u3⟩ := addF_n v4
    obtain ⟨v2, u2⟩ := addF_n v3
    obtain ⟨v1, u1⟩ := addF_n v2
    obtain ⟨v0, u0⟩ := addF_n v1
    rw [decide_eq_false_iff_not] at u4 u3
    obtain ⟨a1, a2, a3⟩ := g9 v0
    refine ⟨a1, a2, fun k hk => ?_⟩
    have hk2 : k < bN (dB P) + 1 := hk
    show upN (bS (dB P)) (bN (dB P)) s k ≤ 9 ∧ upN (bNo (dB P)) (bN (dB P)) o k ≤ 9
    unfold upN
    by_cases e : k = bN (dB P)
    · rw [if_pos e, if_pos e]; omega
    · rw [if_neg e, if_neg e]; exact a3 k (by omega)
theorem lwL_31 {kd pl va : Nat → Nat} {J : Nat} (hJ : Jok kd J) (hv : ∀ t, kd t = 3 → va t ≤ 9999) : ∀ k t (Ps : List (List Nat)) p, t ≤ J → (∃ j, Ps.length = 3 * j) → lwL kd pl va k t Ps = .ok p → m31 p.2 ∧ t < p.1 := by
  have last : ∀ t (Ps : List (List Nat)) p, t ≤ J → (∃ j, Ps.length = 3 * j) → lwE kd pl va t Ps = .ok p → m31 p.2 ∧ t < p.1 := by
    rintro t Ps p ht ⟨j, hj⟩ he
    unfold lwE at he
    obtain ⟨a, h1, h2⟩ := bnd_ok he
    cases h2
    exact ⟨⟨j, by simp [hj]⟩, (smP_gd hJ hv 6 t ht a h1).1⟩
  intro k
  induction k with
  | zero =>
    intro t Ps p ht hj he
    unfold lwL at he
    split at he
    · cases he
    · exact last t Ps p ht hj he
  | succ k ih =>
    intro t Ps p ht hj he
    unfold lwL at he
    split at he
    · obtain ⟨t1, c1, he⟩ := bnd_ok he
      obtain ⟨a, ca, he⟩ := bnd_ok he
      obtain ⟨t3, c3, he⟩ := bnd_ok he
      obtain ⟨b, cb, he⟩ := bnd_ok he
      obtain ⟨t5, c5, he⟩ := bnd_ok he
      obtain ⟨d, cd, he⟩ := bnd_ok he
      obtain ⟨t7, c7, he⟩ := bnd_ok he
      obtain ⟨j, hj⟩ := hj
      have d1 := needP_ok c1
      have j1 := hJ.2 t ht (by omega) d1.2.1
      have ga := smP_gd hJ hv 6 t1 (by omega) a ca
      have d3 := needP_ok c3
      have j3 := hJ.2 a.1 ga.2.1 (by omega) d3.2.1
      have gb := smP_gd hJ hv 6 t3 (by omega) b cb
      have d5 := needP_ok c5
      have j5 := hJ.2 b.1 gb.2.1 (by omega) d5.2.1
      have gd := smP_gd hJ hv 6 t5 (by omega) d cd
      have d7 := needP_ok c7
      have j7 := hJ.2 d.1 gd.2.1 (by omega) d7.2.1
      have r := ih _ _ p (by omega) ⟨j + 1, by simp [hj]; omega⟩ he
      exact ⟨r.1, by omega⟩
    · exact last t Ps p ht hj he
theorem PV_law {k : Nat} {Ps : List (List Nat)} {P : PSt} (g : PV P) (hm : m31 Ps) : PV (lawS k Ps P) := by
  obtain ⟨⟨g1, g2, g3, g4, g5, g6, g7, g8⟩, g9⟩ := g
  refine ⟨⟨g1, g2, g3, g4, ?_, ?_, ?_, g8⟩, g9⟩
  · show m31 (if k = 0 then Ps else bPW (dB P)); split <;> assumption
  · show m31 (if k = 1 then Ps else bPS (dB P)); split <;> assumption
  · show m31 (if k = 2 then Ps else bPL (dB P)); split <;> assumption
theorem PV_cold {v p : Nat} {P : PSt} (g : PV P) : PV (coldS v p P) := by
  obtain ⟨⟨g1, g2, g3, g4, g5, g6, g7, g8⟩, g9⟩ := g
  refine ⟨⟨g1, g2, g3, g4, g5, g6, g7, g8⟩, fun w => ?_⟩
  obtain ⟨v0, u0⟩ := addF_n (show addF (decide (100 < v)) 5 p (dF P) = none from w)
  rw [decide_eq_false_iff_not] at u0
  exact ⟨show v ≤ 100 by omega, (g9 v0).2⟩
theorem PV_seed {v : Nat} {P : PSt} (g : PV P) (hv : v ≤ 9999) : PV (seedS v P) := by
  obtain ⟨⟨g1, g2, g3, g4, g5, g6, g7, g8⟩, g9⟩ := g
  exact ⟨⟨g1, g2, g3, hv, g5, g6, g7, g8⟩, g9⟩
theorem PV_tell {kd pl va : Nat → Nat} {nm : Nat → List Nat} {t : Nat} {P : PSt} {p : Nat × PSt} {J : Nat} (hJ : Jok kd J) (ht : t ≤ J) (hv : ∀ t, kd t = 3 → va t ≤ 9999) (hn : ∀ t, kd t = 2 → (nm t).length ≤ 8) (g : PV P) (h : tellP kd pl va nm t P = .ok p) : PV p.2 ∧ t + 3 ≤ p.1 ∧ t < 400 := by
  unfold tellP at h
  obtain ⟨a, h1, h2⟩ := bnd_ok h
  clear h
  have h := h1
  clear h1
  obtain ⟨t9, h9, h2⟩ := bnd_ok h2
  have e9 := needP_ok h9
  cases h2
  show PV a.2 ∧ t + 3 ≤ t9 ∧ t < 400
  have key : PV a.2 ∧ t + 2 ≤ a.1 ∧ t < 400 := by
    unfold tellB at h
    split at h
    · unfold rowP at h
      split at h
      · obtain ⟨t1, b1, h⟩ := bnd_ok h
        obtain ⟨t2, b2, h⟩ := bnd_ok h
        have c1 := needP_ok b1
        have c2 := needP_ok b2
        cases h
        exact ⟨PV_row g (hn t1 c2.1) (by assumption), show t + 2 ≤ t2 by omega, c1.2.1⟩
      · cases h
    · split at h
      · unfold boatP at h
        split at h
        · obtain ⟨t1, b1, h⟩ := bnd_ok h
          obtain ⟨t2, b2, h⟩ := bnd_ok h
          obtain ⟨t3, b3, h⟩ := bnd_ok h
          obtain ⟨t4, b4, h⟩ := bnd_ok h
          obtain ⟨t5, b5, h⟩ := bnd_ok h
          obtain ⟨t6, b6, h⟩ := bnd_ok h
          have c1 := needP_ok b1
          have c2 := needP_ok b2
          have c3 := needP_ok b3
          have c4 := needP_ok b4
          have c5 := needP_ok b5
          have c6 := needP_ok b6
          cases h
          exact ⟨PV_boat g (by assumption), show t + 2 ≤ t6 by omega, c1.2.1⟩
        · cases h
      · split at h
        · obtain ⟨b, b1, h⟩ := bnd_ok h
          cases h
          unfold lawP at b1
          obtain ⟨t1, b1, b2⟩ := bnd_ok b1
          obtain ⟨t2, b3, b4⟩ := bnd_ok b2
          have c1 := needP_ok b1
          have c3 := needP_ok b3
          rename_i q1 q2 q3
          have j1 := hJ.2 t ht (by omega) c1.2.1
          have j3 := hJ.2 t1 (by omega) (by omega) c3.2.1
          have lt := lwL_31 hJ hv 4 t2 [] b (by omega) ⟨0, rfl⟩ b4
          exact ⟨PV_law g lt.1, show t + 2 ≤ b.1 by omega, c1.2.1⟩
        · split at h
          · obtain ⟨t1, b1, h⟩ := bnd_ok h
            obtain ⟨t2, b2, h⟩ := bnd_ok h
            have c1 := needP_ok b1
            have c2 := needP_ok b2
            cases h
            exact ⟨PV_cold g, show t + 2 ≤ t2 by omega, c1.2.1⟩
          · split at h
            · obtain ⟨t1, b1, h⟩ := bnd_ok h
              obtain ⟨t2, b2, h⟩ := bnd_ok h
              have c1 := needP_ok b1
              have c2 := needP_ok b2
              cases h
              exact ⟨PV_seed g (hv t1 c2.1), show t + 2 ≤ t2 by omega, c1.2.1⟩
            · cases h
  exact ⟨key.1, by omega, key.2.2⟩
