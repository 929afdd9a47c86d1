/-! what holds of every scene stays -/
def SJ (B : By) (S : Sc) : Prop := ScA S ∧ (∀ k, bN B ≤ k → k < 6 → (sP S).testBit k = false ∧ (sL S).testBit k = false ∧ (sO S).testBit k = false) ∧ (∀ k, k < bN B → sail S k = true → bK B (sC S k) = 0) ∧ ∀ k, k < bN B → (sO S).testBit k = true → bK B (sC S k) = 2 ∧ sA S k ≤ popc (sO S)
theorem SI.mk {B : By} {T : Nat} {S : Sc} (a : ScB S) (p : ScP (bN B) S) (t : sH S ≤ T) (j : SJ B S) : SI B T S := ⟨a, p, j.1, t, j.2.1, j.2.2.1, j.2.2.2⟩
theorem SI.j {B : By} {T : Nat} {S : Sc} (h : SI B T S) : SJ B S := ⟨h.2.2.1, h.2.2.2.2.1, h.2.2.2.2.2.1, h.2.2.2.2.2.2⟩
theorem SI.mono {B : By} {T T' : Nat} {S : Sc} (h : SI B T S) (t : T ≤ T') : SI B T' S := ⟨h.1, h.2.1, h.2.2.1, Nat.le_trans h.2.2.2.1 t, h.2.2.2.2⟩
theorem SJ.cg {B : By} {S S' : Sc} (e2 : sP S' = sP S) (e3 : sL S' = sL S) (e4 : sO S' = sO S) (e5 : sC S' = sC S) (e6 : sA S' = sA S) (h : SJ B S) : SJ B S' := by
  unfold SJ ScA sail at *
  rw [e2, e3, e4, e5, e6]
  exact h
theorem layUp_same (B : By) (w fr : Nat) (S : Sc) : ∀ j, sP (layUp B w fr j S) = sP S ∧ sL (layUp B w fr j S) = sL S ∧ sO (layUp B w fr j S) = sO S ∧ sC (layUp B w fr j S) = sC S ∧ sA (layUp B w fr j S) = sA S := by
  intro j
  induction j with
  | zero => exact ⟨rfl, rfl, rfl, rfl, rfl⟩
  | succ j ih =>
    unfold layUp
    split
    · exact ih
    · exact ih
theorem layAll_J {B : By} {S : Sc} (h : SJ B S) : SJ B (layAll B S) := by
  obtain ⟨a, b, c, d, e⟩ := layUp_same B (windF B (sH S)) (sailM B S &&& sP S) S (bN B)
  exact h.cg a b c d e
theorem pc_mono {m k : Nat} (hm : m < 64) (hk : k < 6) (h : m.testBit k = false) : popc (m ||| 2 ^ k) = popc m + 1 := pc_set ⟨m, hm⟩ ⟨k, hk⟩ h
theorem moveS_J {B : By} {S : Sc} {k w : Nat} (hB : ByB B) (hSB : ScB S) (h : SJ B S) (hk : k < bN B) (hs : sail S k = true) : SJ B (moveS B k w S).2 := by
  have hn := hB.2.2.1
  obtain ⟨hl, ho⟩ := sail_iff.mp hs
  have l64 := hSB.2.2.1
  have o64 := hSB.2.2.2.1
  obtain ⟨j1, j2, j3, j4⟩ := h
  unfold moveS
  cases hb : besF (bW B) (bH B) (sC S k) w with
  | none => exact ⟨j1, j2, j3, j4⟩
  | some d =>
    have hd := besF_lt hB.1 hB.2.1 hb
    have kd := hB.2.2.2.2.2.1 d hd.1
    rw [if_pos hd.2] at kd
    show SJ B (if w = 0 then ((3 : Int32), S) else if bK B d = 1 then (2, lostS k (cellS k d S)) else if bK B d = 2 then (1, homeS k (cellS k d S)) else (0, cellS k d S)).2
    by_cases w0 : w = 0
    · rw [if_pos w0]; exact ⟨j1, j2, j3, j4⟩
    rw [if_neg w0]
    by_cases k1 : bK B d = 1
    · rw [if_pos k1]
      refine ⟨j1, fun i hi hi6 => ?_, fun i hi hsi => ?_, fun i hi hoi => ?_⟩
      · show (sP S).testBit i = false ∧ (sL S ||| 2 ^ k).testBit i = false ∧ (sO S).testBit i = false
        rw [tbor l64 (by omega) hi6]
        have := j2 i hi hi6
        rw [this.2.1, decide_eq_false (show ¬ i = k by omega)]
        exact ⟨this.1, rfl, this.2.2⟩
      · obtain ⟨x, y⟩ := sail_iff.mp hsi
        have x' : (sL S ||| 2 ^ k).testBit i = false := x
        rw [tbor l64 (by omega) (by omega)] at x'
        obtain ⟨u, v⟩ := Bool.or_eq_false_iff.mp x'
        have : ¬ i = k := of_decide_eq_false v
        show bK B (if i = k then d else sC S i) = 0
        rw [if_neg this]
        exact j3 i hi (sail_iff.mpr ⟨u, y⟩)
      · have hne : ¬ i = k := fun e => by rw [e] at hoi; exact absurd (ho.symm.trans hoi) (by decide)
        show bK B (if i = k then d else sC S i) = 2 ∧ _
        rw [if_neg hne]
        exact j4 i hi hoi
    rw [if_neg k1]
    by_cases k2 : bK B d = 2
    · rw [if_pos k2]
      have pcs := pc_mono o64 (show k < 6 by omega) ho
      have pcl := pc_le ⟨sO S ||| 2 ^ k, bo_lt o64 (by omega)⟩
      refine ⟨fun i hi => ?_, fun i hi hi6 => ?_, fun i hi hsi => ?_, fun i hi hoi => ?_⟩
      · show (if i = k then popc (sO S ||| 2 ^ k) else sA S i) ≤ 6
        split
        · exact pcl
        · exact j1 i hi
      · show (sP S).testBit i = false ∧ (sL S).testBit i = false ∧ (sO S ||| 2 ^ k).testBit i = false
        rw [tbor o64 (by omega) hi6]
        have := j2 i hi hi6
        rw [this.2.2, decide_eq_false (show ¬ i = k by omega)]
        exact ⟨this.1, this.2.1, rfl⟩
      · obtain ⟨x, y⟩ := sail_iff.mp hsi
        have y' : (sO S ||| 2 ^ k).testBit i = false := y
        rw [tbor o64 (by omega) (by omega)] at y'
        obtain ⟨u, v⟩ := Bool.or_eq_false_iff.mp y'
        have : ¬ i = k := of_decide_eq_false v
        show bK B (if i = k then d else sC S i) = 0
        rw [if_neg this]
        exact j3 i hi (sail_iff.mpr ⟨x, u⟩)
      · show bK B (if i = k then d else sC S i) = 2 ∧ (if i = k then popc (sO S ||| 2 ^ k) else sA S i) ≤ popc (sO S ||| 2 ^ k)
        by_cases e : i = k
        · rw [if_pos e, if_pos e]; exact ⟨k2, Nat.le_refl _⟩
        · rw [if_neg e, if_neg e]
          have hoi' : (sO S ||| 2 ^ k).testBit i = true := hoi
          rw [tbor o64 (by omega) (by omega), decide_eq_false e, Bool.or_false] at hoi'
          have := j4 i hi hoi'
          exact ⟨this.1, by omega⟩
    · rw [if_neg k2]
      refine ⟨j1, j2, fun i hi hsi => ?_, fun i hi hoi => ?_⟩
      · show bK B (if i = k then d else sC S i) = 0
        split
        · omega
        · exact j3 i hi hsi
      · have hne : ¬ i = k := fun e => by rw [e] at hoi; exact absurd (ho.symm.trans hoi) (by decide)
        show bK B (if i = k then d else sC S i) = 2 ∧ _
        rw [if_neg hne]
        exact j4 i hi hoi
theorem mUp_J {B : By} {S : Sc} {seed : Int32} (hB : ByB B) (hSB : ScB S) (hP : ScP (bN B) S) (h : SJ B S) : ∀ j, j ≤ bN B → SJ B (mUp B S seed j) := by
  have hn := hB.2.2.1
  intro j
  induction j with
  | zero => intro _; exact h
  | succ j ih =>
    intro hj
    have i := ih (by omega)
    unfold mUp
    split
    · rename_i hs
      rw [sailM_bit hB hSB (by omega)] at hs
      refine moveS_J hB (mUp_B hB hSB j (by omega)).1 i (by omega) ?_
      rw [(mUp_P hn hB hSB hP j (by omega)).2 j (by omega) (by omega)]
      exact (Bool.and_eq_true_iff.mp hs).2
    · exact i
theorem hourS_J {B : By} {S : Sc} {seed : Int32} (hB : ByB B) (hSB : ScB S) (hP : ScP (bN B) S) (h : SJ B S) : SJ B (hourS B seed S) := by
  refine layAll_J ?_
  exact (mUp_J hB hSB hP h (bN B) (Nat.le_refl _)).cg rfl rfl rfl rfl rfl
theorem hoursS_I {B : By} {S : Sc} {seed : Int32} {T : Nat} (hB : ByB B) (h : SI B T S) : ∀ n, T + n ≤ 1000000 → SI B (T + n) (hoursS B seed n S) := by
  intro n
  induction n with
  | zero => intro _; exact h
  | succ n ih =>
    intro hn
    have i := ih (by omega)
    have hb := hoursS_B (seed := seed) hB h.1 (n + 1) (by have := h.2.2.2.1; omega)
    have hp := hoursS_P (seed := seed) hB.2.2.1 hB h.1 h.2.1 (n + 1) (by have := h.2.2.2.1; omega)
    refine SI.mk hb.1 hp (by have := h.2.2.2.1; omega) ?_
    exact hourS_J hB i.1 i.2.1 i.j
/-- no boat is told on a rock -/
def afl (B : By) : Prop := ∀ k, k < bN B → ¬ bK B (startF B k) = 1
theorem begUp_J {B : By} (hB : ByB B) (ha : afl B) : ∀ j, j ≤ bN B → ScA (begUp B j) ∧ (∀ k, bN B ≤ k → k < 6 → (sO (begUp B j)).testBit k = false) ∧ (∀ k, k < j → sail (begUp B j) k = true → bK B (sC (begUp B j) k) = 0) ∧ ∀ k, k < bN B → (sO (begUp B j)).testBit k = true → bK B (sC (begUp B j) k) = 2 ∧ sA (begUp B j) k ≤ popc (sO (begUp B j)) := by
  have hn := hB.2.2.1
  intro j
  induction j with
  | zero =>
    intro _
    refine ⟨fun k hk => ?_, fun k _ _ => ?_, fun k hk => absurd hk (Nat.not_lt_zero _), fun k _ z => ?_⟩
    · exact Nat.zero_le _
    · exact Nat.zero_testBit k
    · exact absurd ((Nat.zero_testBit k).symm.trans z) (by decide)
  | succ j ih =>
    intro hj
    obtain ⟨i1, i2, i3, i4⟩ := ih (by omega)
    have hBj := (begUp_B hB j (by omega)).1
    have hPj := begUp_P hn hB j (by omega)
    have oj := hPj.2.1 j (Nat.le_refl _) (by omega)
    have o64 := hBj.2.2.2.1
    have hc := startF_lt hB (k := j) (by omega)
    have kd := hB.2.2.2.2.2.1 _ hc
    have hx := hB.2.2.2.2.2.2.1 j (by omega)
    have hw8 := hB.1
    rw [if_pos (by unfold startF; omega)] at kd
    have na := ha j (by omega)
    unfold begUp
    by_cases k2 : bK B (startF B j) = 2
    · rw [if_pos k2]
      have pcs := pc_mono o64 (show j < 6 by omega) oj
      have pcl := pc_le ⟨sO (begUp B j) ||| 2 ^ j, bo_lt o64 (by omega)⟩
      refine ⟨fun i hi => ?_, fun i hi hi6 => ?_, fun i hi hsi => ?_, fun i hi hoi => ?_⟩
      · show (if i = j then popc (sO (begUp B j) ||| 2 ^ j) else sA (begUp B j) i) ≤ 6
        split
        · exact pcl
        · exact i1 i hi
      · show (sO (begUp B j) ||| 2 ^ j).testBit i = false
        rw [tbor o64 (by omega) hi6, i2 i hi hi6, decide_eq_false (show ¬ i = j by omega)]; rfl
      · obtain ⟨x, y⟩ := sail_iff.mp hsi
        have y' : (sO (begUp B j) ||| 2 ^ j).testBit i = false := y
        rw [tbor o64 (by omega) (by omega)] at y'
        obtain ⟨u, v⟩ := Bool.or_eq_false_iff.mp y'
        have : ¬ i = j := of_decide_eq_false v
        show bK B (if i = j then startF B j else sC (begUp B j) i) = 0
        rw [if_neg this]
        exact i3 i (by omega) (sail_iff.mpr ⟨x, u⟩)
      · show bK B (if i = j then startF B j else sC (begUp B j) i) = 2 ∧ (if i = j then popc (sO (begUp B j) ||| 2 ^ j) else sA (begUp B j) i) ≤ popc (sO (begUp B j) ||| 2 ^ j)
        by_cases e : i = j
        · rw [if_pos e, if_pos e]; exact ⟨k2, Nat.le_refl _⟩
        · rw [if_neg e, if_neg e]
          have hoi' : (sO (begUp B j) ||| 2 ^ j).testBit i = true := hoi
          rw [tbor o64 (by omega) (by omega), decide_eq_false e, Bool.or_false] at hoi'
          have := i4 i hi hoi'
          exact ⟨this.1, by omega⟩
    · rw [if_neg k2]
      refine ⟨i1, i2, fun i hi hsi => ?_, fun i hi hoi => ?_⟩
      · show bK B (if i = j then startF B j else sC (begUp B j) i) = 0
        split
        · omega
        · exact i3 i (by omega) hsi
      · have hne : ¬ i = j := fun e => by rw [e] at hoi; exact absurd (oj.symm.trans hoi) (by decide)
        show bK B (if i = j then startF B j else sC (begUp B j) i) = 2 ∧ _
        rw [if_neg hne]
        exact i4 i hi hoi
theorem beginS_I {B : By} {T : Nat} (hB : ByB B) (ha : afl B) : SI B T (beginS B) := by
  have hn := hB.2.2.1
  have hb := beginS_B hB
  have hP := begUp_P hn hB (bN B) (Nat.le_refl _)
  obtain ⟨i1, i2, i3, i4⟩ := begUp_J hB ha (bN B) (Nat.le_refl _)
  refine SI.mk hb.1 (layAll_P hP.1) (by rw [hb.2]; exact Nat.zero_le _) (layAll_J ⟨i1, fun k hk hk6 => ⟨?_, ?_, i2 k hk hk6⟩, i3, i4⟩)
  · rw [begUp_pans, all_bit ⟨bN B, by omega⟩ ⟨k, hk6⟩]
    exact decide_eq_false (by show ¬ k < bN B; omega)
  · rw [hP.2.2]; exact Nat.zero_testBit k
