theorem lw_six {L k : Nat} (hL : L ≤ 3072) (hk : k ≤ 513) (h : ¬ (nI L - 6 < nI (6 * k))) : 6 * k + 6 ≤ L := by
  by_cases e : 6 ≤ L
  · have e1 : nI L - 6 = nI (L - 6) := by
      have e2 : nI L = nI (L - 6) + 6 := by
        have e3 := nI_add (L - 6) 6
        rw [show L - 6 + 6 = L by omega] at e3
        exact e3.symm
      rw [e2]
      exact Int32.add_sub_cancel _ _
    rw [e1, nI_ltI (by omega) (by omega)] at h
    omega
  · have e4 : (nI L - 6).toInt < 0 := by
      have e5 : L = 0 ∨ L = 1 ∨ L = 2 ∨ L = 3 ∨ L = 4 ∨ L = 5 := by omega
      rcases e5 with e5 | e5 | e5 | e5 | e5 | e5 <;> rw [e5] <;> decide
    exact absurd (Int32.lt_iff_toInt_lt.mpr (by rw [nI_toInt (n := 6 * k) (by omega)]; omega)) h
set_option maxHeartbeats 4000000 in
theorem law_loop {Y : CG} {b : Nat} {X : CX} {q m sb L cs sl : Nat} {xs : Nat → Int32} (C : NGd Y b X cL_law 4 RL 100 600000 7302250) (hY : ∀ a ∈ yL Y, b ≤ a) (S : Scr X b sb L xs) (tq : TO Y q 7) (tm : TO Y m 8) (hcs : cs ≤ 600000) (hsl : sl ≤ 7302250) (hL : L ≤ 3072) (hend : ∀ (x : Int32) (r : TR) (h : TH), LJ Y b X 4 1304 [(3, .int x), (2, .ref m), (1, .ref q), (0, .ref sb)] [] r h cs sl) : ∀ (n k : Nat) (x : Int32) (r : TR) (h : TH) (bb dd LL : Nat) (A : St), k + n = 513 → x = nI (6 * k) → Cx r q bb dd m LL (100 * k) h A → LJ Y b X 4 18 [(3, .int x), (2, .ref m), (1, .ref q), (0, .ref sb)] [] r h cs sl := by
  intro n
  induction n with
  | zero =>
    intro k x r h bb dd LL A hk hx hC
    refine l_iload_n (pc := 18) rfl 0 rfl C dL_law_18 ?_
    refine l_aload_n (pc := 19) rfl 3 rfl C dL_law_19 ?_
    refine l_slen (pc := 20) C S dL_law_20 ?_
    refine l_bipush (pc := 21) (v := 6) (by decide) C dL_law_21 ?_
    refine l_isub (pc := 23) C dL_law_23 ?_
    refine l_icmp_gt (pc := 24) 1304 C dL_law_24 (by decide) (fun _ => hend x r h) (fun cf => ?_)
    have h6 : 6 * k + 6 ≤ L := lw_six hL (by omega) (by rw [hx] at cf; exact cf)
    exact absurd h6 (by omega)
  | succ n ih =>
    intro k x r h bb dd LL A hk hx hC
    refine l_iload_n (pc := 18) rfl 0 rfl C dL_law_18 ?_
    refine l_aload_n (pc := 19) rfl 3 rfl C dL_law_19 ?_
    refine l_slen (pc := 20) C S dL_law_20 ?_
    refine l_bipush (pc := 21) (v := 6) (by decide) C dL_law_21 ?_
    refine l_isub (pc := 23) C dL_law_23 ?_
    refine l_icmp_gt (pc := 24) 1304 C dL_law_24 (by decide) (fun _ => hend x r h) (fun cf => ?_)
    have h6 : 6 * k + 6 ≤ L := lw_six hL (by omega) (by rw [hx] at cf; exact cf)
    have hi0 : vp_in x L := by rw [hx]; exact vp_in_nI (by omega) (by omega)
    have hi1 : ∀ c : Nat, c ≤ 5 → vp_in (x + nI c) L := fun c hc => by rw [hx, nI_add]; exact vp_in_nI (by omega) (by omega)
    have hi : vp_in (x + 1) L ∧ vp_in (x + 2) L ∧ vp_in (x + 3) L ∧ vp_in (x + 4) L ∧ vp_in (x + 5) L := ⟨hi1 1 (by omega), hi1 2 (by omega), hi1 3 (by omega), hi1 4 (by omega), hi1 5 (by omega)⟩
    have hT : 100 * k + 100 ≤ 100000 := by omega
    have nx : ∀ r' b' d' L' h' A', Cx r' q b' d' m L' (100 * k + 100) h' A' → LJ Y b X 4 1298 [(3, .int x), (2, .ref m), (1, .ref q), (0, .ref sb)] [] r' h' cs sl := fun r' b' d' L' h' A' c' => by
      refine l_iinc (pc := 1298) (q := 0) (c := 6) (fun y => [(3, .int y), (2, .ref m), (1, .ref q), (0, .ref sb)]) C dL_law_1298 rfl (by decide) (by decide) rfl (fun y hy => ?_)
      refine l_goto (pc := 1301) 18 C dL_law_1301 (by decide) ?_
      refine ih (k + 1) y r' h' b' d' L' A' (by omega) ?_ ?_
      · rw [hy, hx]
        exact nI_add (6 * k) 6
      · rw [show 100 * (k + 1) = 100 * k + 100 by omega]
        exact c'
    refine l_aload_n (pc := 27) rfl 3 rfl C dL_law_27 ?_
    refine l_iload_n (pc := 28) rfl 0 rfl C dL_law_28 ?_
    refine l_sld (pc := 29) C S hi0 dL_law_29 ?_
    refine l_bipush (pc := 30) (v := 63) (by decide) C dL_law_30 ?_
    refine l_iand (pc := 32) C dL_law_32 ?_
    generalize (xs x.toNatClampNeg &&& 63) = w
    by_cases e0 : w = 0
    · exact l_tswIn (pc := 33) 192 C dL_law_33 0 e0 (by decide) (by decide) rfl (by decide) (LC_0 C hY S tq tm hcs hsl hi hC hT nx)
    by_cases e1 : w = 1
    · exact l_tswIn (pc := 33) 255 C dL_law_33 1 e1 (by decide) (by decide) rfl (by decide) (LC_1 C hY S tq tm hcs hsl hi hC hT nx)
    by_cases e2 : w = 2
    · exact l_tswIn (pc := 33) 278 C dL_law_33 2 e2 (by decide) (by decide) rfl (by decide) (LC_2 C hY S tq tm hcs hsl hi hC hT nx)
    by_cases e3 : w = 3
    · exact l_tswIn (pc := 33) 291 C dL_law_33 3 e3 (by decide) (by decide) rfl (by decide) (LC_3 C hY S tq tm hcs hsl hi hC hT nx)
    by_cases e4 : w = 4
    · exact l_tswIn (pc := 33) 304 C dL_law_33 4 e4 (by decide) (by decide) rfl (by decide) (LC_4 C hY S tq tm hcs hsl hi hC hT nx)
    by_cases e5 : w = 5
    · exact l_tswIn (pc := 33) 337 C dL_law_33 5 e5 (by decide) (by decide) rfl (by decide) (LC_5 C hY S tq tm hcs hsl hi hC hT nx)
    by_cases e6 : w = 6
    · exact l_tswIn (pc := 33) 380 C dL_law_33 6 e6 (by decide) (by decide) rfl (by decide) (LC_6 C hY S tq tm hcs hsl hi hC hT nx)
    by_cases e7 : w = 7
    · exact l_tswIn (pc := 33) 449 C dL_law_33 7 e7 (by decide) (by decide) rfl (by decide) (LC_7 C hY S tq tm hcs hsl hi hC hT nx)
    by_cases e8 : w = 8
    · exact l_tswIn (pc := 33) 472 C dL_law_33 8 e8 (by decide) (by decide) rfl (by decide) (LC_8 C hY S tq tm hcs hsl hi hC hT nx)
    by_cases e9 : w = 9
    · exact l_tswIn (pc := 33) 495 C dL_law_33 9 e9 (by decide) (by decide) rfl (by decide) (LC_9 C hY S tq tm hcs hsl hi hC hT nx)
    by_cases e10 : w = 10
    · exact l_tswIn (pc := 33) 518 C dL_law_33 10 e10 (by decide) (by decide) rfl (by decide) (LC_10 C hY S tq tm hcs hsl hi hC hT nx)
    by_cases e11 : w = 11
    · exact l_tswIn (pc := 33) 551 C dL_law_33 11 e11 (by decide) (by decide) rfl (by decide) (LC_11 C hY S tq tm hcs hsl hi hC hT nx)
    by_cases e12 : w = 12
    · exact l_tswIn (pc := 33) 600 C dL_law_33 12 e12 (by decide) (by decide) rfl (by decide) (LC_12 C hY S tq tm hcs hsl hi hC hT nx)
    by_cases e13 : w = 13
    · exact l_tswIn (pc := 33) 613 C dL_law_33 13 e13 (by decide) (by decide) rfl (by decide) (LC_13 C hY S tq tm hcs hsl hi hC hT nx)
    by_cases e14 : w = 14
    · exact l_tswIn (pc := 33) 656 C dL_law_33 14 e14 (by decide) (by decide) rfl (by decide) (LC_14 C hY S tq tm hcs hsl hi hC hT nx)
    by_cases e15 : w = 15
    · exact l_tswIn (pc := 33) 705 C dL_law_33 15 e15 (by decide) (by decide) rfl (by decide) (LC_15 C hY S tq tm hcs hsl hi hC hT nx)
    by_cases e16 : w = 16
    · exact l_tswIn (pc := 33) 728 C dL_law_33 16 e16 (by decide) (by decide) rfl (by decide) (LC_16 C hY S tq tm hcs hsl hi hC hT nx)
    by_cases e17 : w = 17
    · exact l_tswIn (pc := 33) 751 C dL_law_33 17 e17 (by decide) (by decide) rfl (by decide) (LC_17 C hY S tq tm hcs hsl hi hC hT nx)
    by_cases e18 : w = 18
    · exact l_tswIn (pc := 33) 784 C dL_law_33 18 e18 (by decide) (by decide) rfl (by decide) (LC_18 C hY S tq tm hcs hsl hi hC hT nx)
    by_cases e19 : w = 19
    · exact l_tswIn (pc := 33) 807 C dL_law_33 19 e19 (by decide) (by decide) rfl (by decide) (LC_19 C hY S tq tm hcs hsl hi hC hT nx)
    by_cases e20 : w = 20
    · exact l_tswIn (pc := 33) 840 C dL_law_33 20 e20 (by decide) (by decide) rfl (by decide) (LC_20 C hY S tq tm hcs hsl hi hC hT nx)
    by_cases e21 : w = 21
    · exact l_tswIn (pc := 33) 873 C dL_law_33 21 e21 (by decide) (by decide) rfl (by decide) (LC_21 C hY S tq tm hcs hsl hi hC hT nx)
    by_cases e22 : w = 22
    · exact l_tswIn (pc := 33) 896 C dL_law_33 22 e22 (by decide) (by decide) rfl (by decide) (LC_22 C hY S tq tm hcs hsl hi hC hT nx)
    by_cases e23 : w = 23
    · exact l_tswIn (pc := 33) 939 C dL_law_33 23 e23 (by decide) (by decide) rfl (by decide) (LC_23 C hY S tq tm hcs hsl hi hC hT nx)
    by_cases e24 : w = 24
    · exact l_tswIn (pc := 33) 962 C dL_law_33 24 e24 (by decide) (by decide) rfl (by decide) (LC_24 C hY S tq tm hcs hsl hi hC hT nx)
    by_cases e25 : w = 25
    · exact l_tswIn (pc := 33) 985 C dL_law_33 25 e25 (by decide) (by decide) rfl (by decide) (LC_25 C hY S tq tm hcs hsl hi hC hT nx)
    by_cases e26 : w = 26
    · exact l_tswIn (pc := 33) 1018 C dL_law_33 26 e26 (by decide) (by decide) rfl (by decide) (LC_26 C hY S tq tm hcs hsl hi hC hT nx)
    by_cases e27 : w = 27
    · exact l_tswIn (pc := 33) 1061 C dL_law_33 27 e27 (by decide) (by decide) rfl (by decide) (LC_27 C hY S tq tm hcs hsl hi hC hT nx)
    by_cases e28 : w = 28
    · exact l_tswIn (pc := 33) 1084 C dL_law_33 28 e28 (by decide) (by decide) rfl (by decide) (LC_28 C hY S tq tm hcs hsl hi hC hT nx)
    by_cases e29 : w = 29
    · exact l_tswIn (pc := 33) 1117 C dL_law_33 29 e29 (by decide) (by decide) rfl (by decide) (LC_29 C hY S tq tm hcs hsl hi hC hT nx)
    by_cases e30 : w = 30
    · exact l_tswIn (pc := 33) 1130 C dL_law_33 30 e30 (by decide) (by decide) rfl (by decide) (LC_30 C hY S tq tm hcs hsl hi hC hT nx)
    by_cases e31 : w = 31
    · exact l_tswIn (pc := 33) 1153 C dL_law_33 31 e31 (by decide) (by decide) rfl (by decide) (LC_31 C hY S tq tm hcs hsl hi hC hT nx)
    by_cases e32 : w = 32
    · exact l_tswIn (pc := 33) 1186 C dL_law_33 32 e32 (by decide) (by decide) rfl (by decide) (LC_32 C hY S tq tm hcs hsl hi hC hT nx)
    by_cases e33 : w = 33
    · exact l_tswIn (pc := 33) 1229 C dL_law_33 33 e33 (by decide) (by decide) rfl (by decide) (LC_33 C hY S tq tm hcs hsl hi hC hT nx)
    by_cases e34 : w = 34
    · exact l_tswIn (pc := 33) 1252 C dL_law_33 34 e34 (by decide) (by decide) rfl (by decide) (LC_34 C hY S tq tm hcs hsl hi hC hT nx)
    by_cases e35 : w = 35
    · exact l_tswIn (pc := 33) 1275 C dL_law_33 35 e35 (by decide) (by decide) rfl (by decide) (LC_35 C hY S tq tm hcs hsl hi hC hT nx)
    have n0 : ¬ w.toInt = 0 := tsw_ne e0
    have n1 : ¬ w.toInt = 1 := tsw_ne e1
    have n2 : ¬ w.toInt = 2 := tsw_ne e2
    have n3 : ¬ w.toInt = 3 := tsw_ne e3
    have n4 : ¬ w.toInt = 4 := tsw_ne e4
    have n5 : ¬ w.toInt = 5 := tsw_ne e5
    have n6 : ¬ w.toInt = 6 := tsw_ne e6
    have n7 : ¬ w.toInt = 7 := tsw_ne e7
    have n8 : ¬ w.toInt = 8 := tsw_ne e8
    have n9 : ¬ w.toInt = 9 := tsw_ne e9
    have n10 : ¬ w.toInt = 10 := tsw_ne e10
    have n11 : ¬ w.toInt = 11 := tsw_ne e11
    have n12 : ¬ w.toInt = 12 := tsw_ne e12
    have n13 : ¬ w.toInt = 13 := tsw_ne e13
    have n14 : ¬ w.toInt = 14 := tsw_ne e14
    have n15 : ¬ w.toInt = 15 := tsw_ne e15
    have n16 : ¬ w.toInt = 16 := tsw_ne e16
    have n17 : ¬ w.toInt = 17 := tsw_ne e17
    have n18 : ¬ w.toInt = 18 := tsw_ne e18
    have n19 : ¬ w.toInt = 19 := tsw_ne e19
    have n20 : ¬ w.toInt = 20 := tsw_ne e20
    have n21 : ¬ w.toInt = 21 := tsw_ne e21
    have n22 : ¬ w.toInt = 22 := tsw_ne e22
    have n23 : ¬ w.toInt = 23 := tsw_ne e23
    have n24 : ¬ w.toInt = 24 := tsw_ne e24
    have n25 : ¬ w.toInt = 25 := tsw_ne e25
    have n26 : ¬ w.toInt = 26 := tsw_ne e26
    have n27 : ¬ w.toInt = 27 := tsw_ne e27
    have n28 : ¬ w.toInt = 28 := tsw_ne e28
    have n29 : ¬ w.toInt = 29 := tsw_ne e29
    have n30 : ¬ w.toInt = 30 := tsw_ne e30
    have n31 : ¬ w.toInt = 31 := tsw_ne e31
    have n32 : ¬ w.toInt = 32 := tsw_ne e32
    have n33 : ¬ w.toInt = 33 := tsw_ne e33
    have n34 : ¬ w.toInt = 34 := tsw_ne e34
    have n35 : ¬ w.toInt = 35 := tsw_ne e35
    exact l_tswOut (pc := 33) 1298 C dL_law_33 (by omega) (by decide) (nx _ _ _ _ _ _ (hC.up (Nat.le_add_right _ _) hT))
