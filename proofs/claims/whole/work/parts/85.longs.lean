/-! sets of cells as longs -/
theorem setF_bitG (p : Nat → Bool) : ∀ n k, (setF p n).testBit k = (decide (k < n) && p k) := by
  intro n
  induction n with
  | zero => intro k; show (0 : Nat).testBit k = _; simp
  | succ n ih =>
    intro k
    unfold setF
    by_cases hp : p n = true
    · rw [if_pos hp, Nat.testBit_or, ih k, Nat.testBit_two_pow]
      by_cases hkn : n = k
      · subst hkn; rw [hp]; simp
      · have : decide (k < n + 1) = decide (k < n) := decide_eq_decide.mpr (by omega)
        rw [this]; simp [hkn]
    · rw [if_neg hp, ih k]
      by_cases hkn : k = n
      · subst hkn
        have hp' : p k = false := by cases hq : p k with | true => exact absurd hq hp | false => rfl
        rw [hp']; simp
      · have : decide (k < n + 1) = decide (k < n) := decide_eq_decide.mpr (by omega)
        rw [this]
theorem lt_of_bits {m n : Nat} (h : ∀ k, n ≤ k → m.testBit k = false) : m < 2 ^ n := Nat.lt_pow_two_of_testBit m (fun i hi => h i hi)
theorem setF_ltG (p : Nat → Bool) (n : Nat) : setF p n < 2 ^ n := lt_of_bits (fun k hk => by rw [setF_bitG, decide_eq_false (by omega)]; rfl)
theorem la_or (a b : Nat) : lN a ||| lN b = lN (a ||| b) := by
  apply Int64.toBitVec_inj.1
  show BitVec.ofNat 64 a ||| BitVec.ofNat 64 b = BitVec.ofNat 64 (a ||| b)
  apply BitVec.eq_of_getLsbD_eq
  intro i hi
  simp [hi]
theorem la_and (a b : Nat) : lN a &&& lN b = lN (a &&& b) := by
  apply Int64.toBitVec_inj.1
  show BitVec.ofNat 64 a &&& BitVec.ofNat 64 b = BitVec.ofNat 64 (a &&& b)
  apply BitVec.eq_of_getLsbD_eq
  intro i hi
  simp [hi]
theorem la_add (a b : Nat) : lN a + lN b = lN (a + b) := by
  apply Int64.toBitVec_inj.1
  show BitVec.ofNat 64 a + BitVec.ofNat 64 b = BitVec.ofNat 64 (a + b)
  rw [BitVec.ofNat_add]
theorem la_sub {a b : Nat} (h : b ≤ a) : lN a - lN b = lN (a - b) := by
  have e : lN a = lN (a - b) + lN b := by rw [la_add]; congr 1; omega
  rw [e, Int64.add_sub_cancel]
theorem sh64 : ∀ s : Fin 63, (((nI s.1).toInt64.toUInt64 &&& Int64.toUInt64 63)).toNat = s.1 := by decide +kernel
theorem la_shr {a s : Nat} (ha : a < 2 ^ 64) (hs : s < 63) : jushrl (lN a) (nI s) = lN (a / 2 ^ s) := by
  have e := sh64 ⟨s, hs⟩
  simp only [] at e
  unfold jushrl
  apply Int64.toBitVec_inj.1
  apply BitVec.eq_of_toNat_eq
  show ((lN a).toUInt64 >>> ((nI s).toInt64.toUInt64 &&& Int64.toUInt64 63)).toNat = _
  rw [UInt64.toNat_shiftRight, e]
  show (BitVec.ofNat 64 a).toNat >>> (s % 64) = (BitVec.ofNat 64 (a / 2 ^ s)).toNat
  rw [BitVec.toNat_ofNat, BitVec.toNat_ofNat, Nat.mod_eq_of_lt ha, Nat.mod_eq_of_lt (show s < 64 by omega), Nat.shiftRight_eq_div_pow, Nat.mod_eq_of_lt (Nat.lt_of_le_of_lt (Nat.div_le_self _ _) ha)]
theorem lsh1 : ∀ c : Fin 40, jshl 1 (nI c.1) = lN (2 ^ c.1) := by decide +kernel
theorem lsh {c : Nat} (hc : c < 40) : jshl 1 (nI c) = lN (2 ^ c) := lsh1 ⟨c, hc⟩
theorem and_split (a b d e : Nat) (hd : d < 256) (he : e < 256) : (256 * a + d) &&& (256 * b + e) = 256 * (a &&& b) + (d &&& e) := by
  apply Nat.eq_of_testBit_eq
  intro i
  have h8 : (256 : Nat) = 2 ^ 8 := rfl
  have hde : d &&& e < 2 ^ 8 := Nat.and_lt_two_pow d (by omega)
  rw [Nat.testBit_and, h8, Nat.testBit_two_pow_mul_add _ hd, Nat.testBit_two_pow_mul_add _ he, Nat.testBit_two_pow_mul_add _ hde]
  split
  · rw [Nat.testBit_and]
  · rw [Nat.testBit_and]
def s1F (M a : Nat) : Nat := a - ((a / 2) &&& M)
def s2F (M a : Nat) : Nat := (a &&& M) + ((a / 4) &&& M)
def s3F (M a : Nat) : Nat := (a + a / 16) &&& M
theorem s1b : ∀ b : Fin 2, ∀ x : Fin 128, (128 * b.1 + x.1) &&& 85 = x.1 &&& 85 := by decide +kernel
theorem s2b : ∀ b : Fin 4, ∀ x : Fin 64, (64 * b.1 + x.1) &&& 51 = x.1 &&& 51 := by decide +kernel
theorem s3b : ∀ e : Fin 69, ∀ t : Fin 5, (e.1 + 16 * t.1 + e.1 / 16) &&& 15 = (e.1 + e.1 / 16) &&& 15 := by decide +kernel
theorem s1_split (M a d : Nat) (hd : d < 256) : s1F (256 * M + 85) (256 * a + d) = 256 * s1F M a + s1F 85 d := by
  have e : (256 * a + d) / 2 = 256 * (a / 2) + (128 * (a % 2) + d / 2) := by omega
  have l1 : (a / 2) &&& M ≤ a / 2 := Nat.and_le_left
  have l2 : (d / 2) &&& 85 ≤ d / 2 := Nat.and_le_left
  have b := s1b ⟨a % 2, by omega⟩ ⟨d / 2, by omega⟩
  simp only [] at b
  unfold s1F
  rw [e, and_split _ _ _ _ (by omega) (by omega), b]
  omega
theorem s2_split (M a e : Nat) (he : e < 256) : s2F (256 * M + 51) (256 * a + e) = 256 * s2F M a + s2F 51 e := by
  have h : (256 * a + e) / 4 = 256 * (a / 4) + (64 * (a % 4) + e / 4) := by omega
  have b := s2b ⟨a % 4, by omega⟩ ⟨e / 4, by omega⟩
  simp only [] at b
  unfold s2F
  rw [h, and_split _ _ _ _ (by omega) (by omega), and_split _ _ _ _ (by omega) (by omega), b]
  omega
theorem s3_split (M a e : Nat) (he : e ≤ 68) (ha : a % 16 ≤ 4) : s3F (256 * M + 15) (256 * a + e) = 256 * s3F M a + s3F 15 e := by
  have h : 256 * a + e + (256 * a + e) / 16 = 256 * (a + a / 16) + (e + 16 * (a % 16) + e / 16) := by omega
  have b := s3b ⟨e, by omega⟩ ⟨a % 16, by omega⟩
  simp only [] at b
  unfold s3F
  rw [h, and_split _ _ _ _ (by omega) (by omega), b]
theorem pb1 : ∀ d : Fin 256, s1F 85 d.1 < 256 ∧ s2F 51 (s1F 85 d.1) ≤ 68 ∧ s2F 51 (s1F 85 d.1) % 16 ≤ 4 ∧ s3F 15 (s2F 51 (s1F 85 d.1)) = cntF (fun c => d.1.testBit c) 8 := by decide +kernel
theorem s_zero (M : Nat) : s1F M 0 = 0 ∧ s2F M 0 = 0 ∧ s3F M 0 = 0 := by
  refine ⟨?_, ?_, ?_⟩
  · unfold s1F; simp
  · unfold s2F; simp
  · unfold s3F; simp
/-- one byte of the count -/
theorem pb_step (M1 M2 M3 a d : Nat) (hd : d < 256) (h : s2F M2 (s1F M1 a) % 16 ≤ 4) : s2F (256 * M2 + 51) (s1F (256 * M1 + 85) (256 * a + d)) = 256 * s2F M2 (s1F M1 a) + s2F 51 (s1F 85 d) ∧ s3F (256 * M3 + 15) (s2F (256 * M2 + 51) (s1F (256 * M1 + 85) (256 * a + d))) = 256 * s3F M3 (s2F M2 (s1F M1 a)) + cntF (fun c => d.testBit c) 8 ∧ s2F (256 * M2 + 51) (s1F (256 * M1 + 85) (256 * a + d)) % 16 ≤ 4 := by
  obtain ⟨p1, p2, p3, p4⟩ := pb1 ⟨d, hd⟩
  simp only [] at p1 p2 p3 p4
  have e2 : s2F (256 * M2 + 51) (s1F (256 * M1 + 85) (256 * a + d)) = 256 * s2F M2 (s1F M1 a) + s2F 51 (s1F 85 d) := by rw [s1_split _ _ _ hd, s2_split _ _ _ p1]
  refine ⟨e2, ?_, ?_⟩
  · rw [e2, s3_split _ _ _ p2 h, p4]
  · rw [e2]; omega
theorem cntF_add (p : Nat → Bool) (a : Nat) : ∀ n, cntF p (a + n) = cntF p a + cntF (fun i => p (a + i)) n := by
  intro n
  induction n with
  | zero => rfl
  | succ n ih =>
    show (if p (a + n) = true then cntF p (a + n) + 1 else cntF p (a + n)) = cntF p a + (if p (a + n) = true then cntF (fun i => p (a + i)) n + 1 else cntF (fun i => p (a + i)) n)
    rw [ih]
    split
    · omega
    · rfl
theorem pb_sum (p0 p1 p2 p3 p4 : Nat) (l0 : p0 ≤ 8) (l1 : p1 ≤ 8) (l2 : p2 ≤ 8) (l3 : p3 ≤ 8) (l4 : p4 ≤ 8) (v3 v4 v5 v6 : Nat) (e3 : v3 = 256 * (256 * (256 * (256 * (256 * 0 + p4) + p3) + p2) + p1) + p0) (e4 : v4 = v3 + v3 / 256) (e5 : v5 = v4 + v4 / 65536) (e6 : v6 = v5 + v5 / 4294967296) : v6 % 128 = p0 + p1 + p2 + p3 + p4 ∧ v6 < 2 ^ 50 := by
  have q3 : v3 / 256 = 256 * (256 * (256 * p4 + p3) + p2) + p1 := by omega
  have q4 : v4 = 4294967296 * p4 + 16777216 * (p3 + p4) + 65536 * (p2 + p3) + 256 * (p1 + p2) + (p0 + p1) := by omega
  have r4 : v4 / 65536 = 65536 * p4 + 256 * (p3 + p4) + (p2 + p3) := by omega
  have q5 : v5 = 4294967296 * p4 + 16777216 * (p3 + p4) + 65536 * (p2 + p3 + p4) + 256 * (p1 + p2 + p3 + p4) + (p0 + p1 + p2 + p3) := by omega
  have r5 : v5 / 4294967296 = p4 := by omega
  omega
theorem cnt8 (m i : Nat) : cntF (fun c => (m / 2 ^ (8 * i) % 256).testBit c) 8 = cntF (fun c => m.testBit (8 * i + c)) 8 := by
  refine cntF_cg 8 (fun k hk => ?_)
  show (m / 2 ^ (8 * i) % 2 ^ 8).testBit k = m.testBit (8 * i + k)
  rw [Nat.testBit_mod_two_pow, Nat.testBit_div_two_pow, decide_eq_true hk, Bool.true_and, Nat.add_comm]
theorem P_JLbitCount {r : TR} {m : Nat} {h : TH} {Q : Int32 → TH → Prop} (hm : m < 2 ^ 40) (hQ : Q (nI (cntF (fun c => m.testBit c) 40)) h) : D_JL_bitCount r (lN m) h Q := by
  have M1 : (6148914691236517205 : Int64) = lN 6148914691236517205 := rfl
  have M2 : (3689348814741910323 : Int64) = lN 3689348814741910323 := rfl
  have M3 : (1085102592571150095 : Int64) = lN 1085102592571150095 := rfl
  have h2 : m / 2 ^ 1 &&& 6148914691236517205 ≤ m / 2 ^ 1 := Nat.and_le_left
  have h21 : m / 2 ^ 1 ≤ m := Nat.div_le_self _ _
  have x1b : s1F 6148914691236517205 m ≤ m := Nat.sub_le _ _
  -- the bytes
  obtain ⟨d0, e0⟩ : ∃ d0, d0 = m / 2 ^ (8 * 0) % 256 := ⟨_, rfl⟩
  obtain ⟨d1, e1⟩ : ∃ d1, d1 = m / 2 ^ (8 * 1) % 256 := ⟨_, rfl⟩
  obtain ⟨d2, e2⟩ : ∃ d2, d2 = m / 2 ^ (8 * 2) % 256 := ⟨_, rfl⟩
  obtain ⟨d3, e3⟩ : ∃ d3, d3 = m / 2 ^ (8 * 3) % 256 := ⟨_, rfl⟩
  obtain ⟨d4, e4⟩ : ∃ d4, d4 = m / 2 ^ (8 * 4) % 256 := ⟨_, rfl⟩
  have em : m = 256 * (256 * (256 * (256 * (256 * 0 + d4) + d3) + d2) + d1) + d0 := by
    rw [show (2 : Nat) ^ (8 * 0) = 1 by rfl] at e0
    rw [show (2 : Nat) ^ (8 * 1) = 256 by rfl] at e1
    rw [show (2 : Nat) ^ (8 * 2) = 65536 by rfl] at e2
    rw [show (2 : Nat) ^ (8 * 3) = 16777216 by rfl] at e3
    rw [show (2 : Nat) ^ (8 * 4) = 4294967296 by rfl] at e4
    omega
  have ec : cntF (fun c => m.testBit c) 40 = cntF (fun c => d0.testBit c) 8 + cntF (fun c => d1.testBit c) 8 + cntF (fun c => d2.testBit c) 8 + cntF (fun c => d3.testBit c) 8 + cntF (fun c => d4.testBit c) 8 := by
    rw [e0, e1, e2, e3, e4, cnt8, cnt8, cnt8, cnt8, cnt8]
    have a1 := cntF_add (fun c => m.testBit c) 32 8
    have a2 := cntF_add (fun c => m.testBit c) 24 8
    have a3 := cntF_add (fun c => m.testBit c) 16 8
    have a4 := cntF_add (fun c => m.testBit c) 8 8
    have a5 : cntF (fun c => m.testBit (8 * 0 + c)) 8 = cntF (fun c => m.testBit c) 8 := cntF_cg 8 (fun k _ => by rw [show 8 * 0 + k = k by omega])
    show cntF (fun c => m.testBit c) (32 + 8) = _
    rw [a1, show (32 : Nat) = 24 + 8 by rfl, a2, show (24 : Nat) = 16 + 8 by rfl, a3, show (16 : Nat) = 8 + 8 by rfl, a4, a5]
  obtain ⟨z1, z2, z3⟩ := s_zero 1431655765
  have q4 := pb_step 5592405 3355443 986895 0 d4 (by omega) (by rw [(s_zero _).1, (s_zero _).2.1]; omega)
  have q3 := pb_step (256 * 5592405 + 85) (256 * 3355443 + 51) (256 * 986895 + 15) (256 * 0 + d4) d3 (by omega) q4.2.2
  have q2 := pb_step (256 * (256 * 5592405 + 85) + 85) (256 * (256 * 3355443 + 51) + 51) (256 * (256 * 986895 + 15) + 15) _ d2 (by omega) q3.2.2
  have q1 := pb_step (256 * (256 * (256 * 5592405 + 85) + 85) + 85) (256 * (256 * (256 * 3355443 + 51) + 51) + 51) (256 * (256 * (256 * 986895 + 15) + 15) + 15) _ d1 (by omega) q2.2.2
  have q0 := pb_step (256 * (256 * (256 * (256 * 5592405 + 85) + 85) + 85) + 85) (256 * (256 * (256 * (256 * 3355443 + 51) + 51) + 51) + 51) (256 * (256 * (256 * (256 * 986895 + 15) + 15) + 15) + 15) _ d0 (by omega) q1.2.2
  rw [q4.2.1] at q3
  rw [q3.2.1] at q2
  rw [q2.2.1] at q1
  rw [q1.2.1, ← em, (s_zero _).1, (s_zero _).2.1, (s_zero _).2.2] at q0
  have x3e := q0.2.1
  have K1 : 256 * (256 * (256 * (256 * (256 * 5592405 + 85) + 85) + 85) + 85) + 85 = 6148914691236517205 := by rfl
  have K2 : 256 * (256 * (256 * (256 * (256 * 3355443 + 51) + 51) + 51) + 51) + 51 = 3689348814741910323 := by rfl
  have K3 : 256 * (256 * (256 * (256 * (256 * 986895 + 15) + 15) + 15) + 15) + 15 = 1085102592571150095 := by rfl
  rw [K1, K2, K3] at x3e
  have l0 := cntF_le (fun c => d0.testBit c) 8
  have l1 := cntF_le (fun c => d1.testBit c) 8
  have l2 := cntF_le (fun c => d2.testBit c) 8
  have l3 := cntF_le (fun c => d3.testBit c) 8
  have l4 := cntF_le (fun c => d4.testBit c) 8
  have x2b : s2F 3689348814741910323 (s1F 6148914691236517205 m) ≤ 2 * m := by
    have a : s1F 6148914691236517205 m &&& 3689348814741910323 ≤ s1F 6148914691236517205 m := Nat.and_le_left
    have b : s1F 6148914691236517205 m / 4 &&& 3689348814741910323 ≤ s1F 6148914691236517205 m / 4 := Nat.and_le_left
    unfold s2F
    omega
  rw [ec] at hQ
  generalize cntF (fun c => d0.testBit c) 8 = p0 at *
  generalize cntF (fun c => d1.testBit c) 8 = p1 at *
  generalize cntF (fun c => d2.testBit c) 8 = p2 at *
  generalize cntF (fun c => d3.testBit c) 8 = p3 at *
  generalize cntF (fun c => d4.testBit c) 8 = p4 at *
  unfold D_JL_bitCount
  intro x1 ex1 x2 ex2 x3 ex3 x4 ex4 x5 ex5 x6 ex6
  rw [M1, show (1 : Int32) = nI 1 by rfl, la_shr (by omega) (by omega), la_and, la_sub (by omega)] at ex1
  replace ex1 : x1 = lN (s1F 6148914691236517205 m) := ex1
  rw [ex1, M2, show (2 : Int32) = nI 2 by rfl, la_shr (by omega) (by omega), la_and, la_and, la_add] at ex2
  replace ex2 : x2 = lN (s2F 3689348814741910323 (s1F 6148914691236517205 m)) := ex2
  rw [ex2, M3, show (4 : Int32) = nI 4 by rfl, la_shr (by omega) (by omega), la_add, la_and] at ex3
  replace ex3 : x3 = lN (s3F 1085102592571150095 (s2F 3689348814741910323 (s1F 6148914691236517205 m))) := ex3
  rw [x3e] at ex3
  obtain ⟨v3, ev3⟩ : ∃ v3, v3 = 256 * (256 * (256 * (256 * (256 * 0 + p4) + p3) + p2) + p1) + p0 := ⟨_, rfl⟩
  rw [← ev3] at ex3
  obtain ⟨v4, ev4⟩ : ∃ v4, v4 = v3 + v3 / 256 := ⟨_, rfl⟩
  obtain ⟨v5, ev5⟩ : ∃ v5, v5 = v4 + v4 / 65536 := ⟨_, rfl⟩
  obtain ⟨v6, ev6⟩ : ∃ v6, v6 = v5 + v5 / 4294967296 := ⟨_, rfl⟩
  have pv := pb_sum p0 p1 p2 p3 p4 l0 l1 l2 l3 l4 v3 v4 v5 v6 ev3 ev4 ev5 ev6
  have b4 : v4 ≤ v6 := by clear q0 q1 q2 q3 q4 x3e hQ; omega
  have b3 : v3 ≤ v6 := by clear q0 q1 q2 q3 q4 x3e hQ; omega
  have b5 : v5 ≤ v6 := by clear q0 q1 q2 q3 q4 x3e hQ; omega
  have b50 : (2 : Nat) ^ 50 ≤ 2 ^ 64 := by decide
  have bb := pv.2
  rw [ex3, show (8 : Int32) = nI 8 by rfl, la_shr (Nat.lt_of_le_of_lt b3 (Nat.lt_of_lt_of_le bb b50)) (by decide), la_add, show (2 : Nat) ^ 8 = 256 by rfl, ← ev4] at ex4
  rw [ex4, show (16 : Int32) = nI 16 by rfl, la_shr (Nat.lt_of_le_of_lt b4 (Nat.lt_of_lt_of_le bb b50)) (by decide), la_add, show (2 : Nat) ^ 16 = 65536 by rfl, ← ev5] at ex5
  rw [ex5, show (32 : Int32) = nI 32 by rfl, la_shr (Nat.lt_of_le_of_lt b5 (Nat.lt_of_lt_of_le bb b50)) (by decide), la_add, show (2 : Nat) ^ 32 = 4294967296 by rfl, ← ev6] at ex6
  have fin : ∀ v : Nat, v % 128 = p0 + p1 + p2 + p3 + p4 → (lN v).toInt32 &&& 127 = nI (p0 + p1 + p2 + p3 + p4) := by
    intro v hv
    have : (lN v).toInt32 = nI v := by
      apply Int32.toBitVec_inj.1
      show (BitVec.ofNat 64 v).signExtend 32 = BitVec.ofNat 32 v
      rw [BitVec.signExtend_eq_setWidth_of_le _ (by omega)]
      apply BitVec.eq_of_getLsbD_eq
      intro i hi
      simp [hi]
    rw [this, ← hv, show (127 : Int32) = nI 127 by rfl, fa_and]
    congr 1
    exact Nat.and_two_pow_sub_one_eq_mod v 7
  rw [ex6, fin _ pv.1]
  exact hQ
