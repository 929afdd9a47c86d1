theorem jr8 {a : Nat} (h : a < 2 ^ 31) : jrem (nI a) 8 = nI (a % 8) := jrem_nI (d := 8) h (by decide) (by decide)
theorem dv8 {a : Nat} (h : a < 2 ^ 31) : nI a / 8 = nI (a / 8) := pk_div (d := 8) h (by decide) (by decide)
theorem jr4 {a : Nat} (h : a < 2 ^ 31) : jrem (nI a) 4 = nI (a % 4) := jrem_nI (d := 4) h (by decide) (by decide)
theorem jr5 {a : Nat} (h : a < 2 ^ 31) : jrem (nI a) 5 = nI (a % 5) := jrem_nI (d := 5) h (by decide) (by decide)
/-! a scene and a bay, as numbers; the class's cells that hold them -/
/-- hour, pans, lost, home (sets), each boat's cell, each boat's place, layings by 40 * dish + cell (0: never, else 16 * (hour + 1) + how long) -/
abbrev Sc : Type := Nat × Nat × Nat × Nat × (Nat → Nat) × (Nat → Nat) × (Nat → Nat)
abbrev sH (S : Sc) : Nat := S.1
abbrev sP (S : Sc) : Nat := S.2.1
abbrev sL (S : Sc) : Nat := S.2.2.1
abbrev sO (S : Sc) : Nat := S.2.2.2.1
abbrev sC (S : Sc) : Nat → Nat := S.2.2.2.2.1
abbrev sA (S : Sc) : Nat → Nat := S.2.2.2.2.2.1
abbrev sY (S : Sc) : Nat → Nat := S.2.2.2.2.2.2
def ScB (S : Sc) : Prop := sH S ≤ 1000000 ∧ sP S < 64 ∧ sL S < 64 ∧ sO S < 64 ∧ (∀ k, k < 6 → sC S k < 40) ∧ ∀ i, i < 240 → sY S i = 0 ∨ (16 ≤ sY S i ∧ sY S i < 2 ^ 26)
def ScOK (h : TH) (s : Nat) (S : Sc) : Prop := h.1 s 0 = nI (sH S) ∧ h.1 s 1 = nI (sP S) ∧ h.1 s 2 = nI (sL S) ∧ h.1 s 3 = nI (sO S) ∧ (∀ k, k < 6 → h.1 (s + 1) k = nI (sC S k)) ∧ (∀ k, k < 6 → h.1 (s + 2) k = nI (sA S k)) ∧ ∀ i, i < 240 → h.1 (s + 3) i = nI (sY S i)
def RSc (r : TR) (s : Nat) : Prop := r s 4 = s + 1 ∧ r s 5 = s + 2 ∧ r s 6 = s + 3
theorem ScOK.fr {h h' : TH} {s : Nat} {S : Sc} (hS : ScOK h s S) (e : ∀ a, s ≤ a → a < s + 4 → h'.1 a = h.1 a) : ScOK h' s S := by
  obtain ⟨h1, h2, h3, h4, h5, h6, h7⟩ := hS
  refine ⟨?_, ?_, ?_, ?_, fun k hk => ?_, fun k hk => ?_, fun k hk => ?_⟩
  · rw [e s (by omega) (by omega)]; exact h1
  · rw [e s (by omega) (by omega)]; exact h2
  · rw [e s (by omega) (by omega)]; exact h3
  · rw [e s (by omega) (by omega)]; exact h4
  · rw [e (s + 1) (by omega) (by omega)]; exact h5 k hk
  · rw [e (s + 2) (by omega) (by omega)]; exact h6 k hk
  · rw [e (s + 3) (by omega) (by omega)]; exact h7 k hk
/-- neither lost nor home -/
def sail (S : Sc) (k : Nat) : Bool := !(sL S).testBit k && !(sO S).testBit k
theorem P_isSailing {r : TR} {h : TH} {s k : Nat} {S : Sc} {Q : Int32 → TH → Prop} (hS : ScOK h s S) (hB : ScB S) (hk : k < 6) (h1 : sail S k = true → Q 1 h) (h0 : sail S k = false → Q 0 h) : D_Sc_isSailing r s (nI k) h Q := by
  have ho := or_lt64 hB.2.2.1 hB.2.2.2.1
  have e : ((sL S ||| sO S).testBit k = false) ↔ sail S k = true := by
    unfold sail
    rw [Nat.testBit_or]
    cases (sL S).testBit k <;> cases (sO S).testBit k <;> simp
  unfold D_Sc_isSailing
  rw [hS.2.2.1, hS.2.2.2.1, bor hB.2.2.1 hB.2.2.2.1]
  refine ⟨fun q => h0 ?_, fun q => h1 (e.mp ((bt_0 ho hk).mp q))⟩
  cases hc : sail S k with
  | false => rfl
  | true => exact absurd ((bt_0 ho hk).mpr (e.mpr hc)) q
theorem P_isLost {r : TR} {h : TH} {s k : Nat} {S : Sc} {Q : Int32 → TH → Prop} (hS : ScOK h s S) (hB : ScB S) (hk : k < 6) (h1 : (sL S).testBit k = true → Q 1 h) (h0 : (sL S).testBit k = false → Q 0 h) : D_Sc_isLost r s (nI k) h Q := by
  unfold D_Sc_isLost
  rw [hS.2.2.1]
  refine ⟨fun q => h0 ?_, fun q => h1 ((bt_1 hB.2.2.1 hk).mp q)⟩
  cases hc : (sL S).testBit k with
  | false => rfl
  | true => exact absurd ((bt_1 hB.2.2.1 hk).mpr hc) q
theorem P_isHome {r : TR} {h : TH} {s k : Nat} {S : Sc} {Q : Int32 → TH → Prop} (hS : ScOK h s S) (hB : ScB S) (hk : k < 6) (h1 : (sO S).testBit k = true → Q 1 h) (h0 : (sO S).testBit k = false → Q 0 h) : D_Sc_isHome r s (nI k) h Q := by
  unfold D_Sc_isHome
  rw [hS.2.2.2.1]
  refine ⟨fun q => h0 ?_, fun q => h1 ((bt_1 hB.2.2.2.1 hk).mp q)⟩
  cases hc : (sO S).testBit k with
  | false => rfl
  | true => exact absurd ((bt_1 hB.2.2.2.1 hk).mpr hc) q
/-- X of a boat, -2 if it is lost -/
def eastI (S : Sc) (k : Nat) : Int32 := if (sL S).testBit k then -2 else nI (sC S k % 8)
def southI (S : Sc) (k : Nat) : Int32 := if (sL S).testBit k then -2 else nI (sC S k / 8)
def placeI (S : Sc) (k : Nat) : Int32 := if (sO S).testBit k then nI (sA S k) else -2
theorem z01 : ¬ ((1 : Int32) = 0) := by decide
theorem P_eastOf {r : TR} {h : TH} {s k : Nat} {S : Sc} {Q : Int32 → TH → Prop} (hr : RSc r s) (hS : ScOK h s S) (hB : ScB S) (hk : k < 6) (hQ : Q (eastI S k) h) : D_Sc_eastOf r s (nI k) h Q := by
  have hc := hB.2.2.2.2.1 k hk
  unfold D_Sc_eastOf
  refine P_isLost hS hB hk (fun q => ⟨fun z => absurd z z01, fun _ => ?_⟩) (fun q => ⟨fun _ => ⟨vp_in_nI hk (by omega), ?_⟩, fun z => absurd rfl z⟩)
  · unfold eastI at hQ; rw [if_pos q] at hQ; exact hQ
  · unfold eastI at hQ; rw [if_neg (by rw [q]; decide)] at hQ
    rw [hr.1, nI_clamp (by omega), hS.2.2.2.2.1 k hk, jr8 (by omega)]
    exact hQ
theorem P_southOf {r : TR} {h : TH} {s k : Nat} {S : Sc} {Q : Int32 → TH → Prop} (hr : RSc r s) (hS : ScOK h s S) (hB : ScB S) (hk : k < 6) (hQ : Q (southI S k) h) : D_Sc_southOf r s (nI k) h Q := by
  have hc := hB.2.2.2.2.1 k hk
  unfold D_Sc_southOf
  refine P_isLost hS hB hk (fun q => ⟨fun z => absurd z z01, fun _ => ?_⟩) (fun q => ⟨fun _ => ⟨vp_in_nI hk (by omega), ?_⟩, fun z => absurd rfl z⟩)
  · unfold southI at hQ; rw [if_pos q] at hQ; exact hQ
  · unfold southI at hQ; rw [if_neg (by rw [q]; decide)] at hQ
    rw [hr.1, nI_clamp (by omega), hS.2.2.2.2.1 k hk, dv8 (by omega)]
    exact hQ
theorem P_arrivalOf {r : TR} {h : TH} {s k : Nat} {S : Sc} {Q : Int32 → TH → Prop} (hr : RSc r s) (hS : ScOK h s S) (hB : ScB S) (hk : k < 6) (hQ : Q (placeI S k) h) : D_Sc_arrivalOf r s (nI k) h Q := by
  unfold D_Sc_arrivalOf
  refine P_isHome hS hB hk (fun q => ⟨fun z => absurd z z01, fun _ => ⟨vp_in_nI hk (by omega), ?_⟩⟩) (fun q => ⟨fun _ => ?_, fun z => absurd rfl z⟩)
  · unfold placeI at hQ; rw [if_pos q] at hQ
    rw [hr.2.1, nI_clamp (by omega), hS.2.2.2.2.2.1 k hk]
    exact hQ
  · unfold placeI at hQ; rw [if_neg (by rw [q]; decide)] at hQ; exact hQ
/-- a dish lies in a cell now -/
def lies (S : Sc) (i : Nat) : Bool := decide (¬ sY S i = 0) && decide (sH S + 1 ≤ sY S i / 16 + sY S i % 16)
theorem lay_div {L : Nat} (h : L < 2 ^ 26) : nI L / 16 = nI (L / 16) := pk_div (d := 16) (by omega) (by decide) (by decide)
theorem lay_rem {L : Nat} (h : L < 2 ^ 26) : jrem (nI L) 16 = nI (L % 16) := jrem_nI (d := 16) (by omega) (by decide) (by decide)
theorem P_laidHour {r : TR} {h : TH} {s i : Nat} {S : Sc} {Q : Int32 → TH → Prop} (hr : RSc r s) (hS : ScOK h s S) (hB : ScB S) (hi : i < 240) (hQ : Q (nI (sY S i / 16) - 1) h) : D_Sc_laidHour r s (nI i) h Q := by
  unfold D_Sc_laidHour
  refine ⟨vp_in_nI hi (by omega), ?_⟩
  rw [hr.2.2, nI_clamp (by omega), hS.2.2.2.2.2.2 i hi, lay_div (by have := hB.2.2.2.2.2 i hi; omega)]
  exact hQ
theorem P_wasLaid {r : TR} {h : TH} {s i : Nat} {S : Sc} {Q : Int32 → TH → Prop} (hr : RSc r s) (hS : ScOK h s S) (hB : ScB S) (hi : i < 240) (h1 : ¬ sY S i = 0 → Q 1 h) (h0 : sY S i = 0 → Q 0 h) : D_Sc_wasLaid r s (nI i) h Q := by
  have hb := hB.2.2.2.2.2 i hi
  unfold D_Sc_wasLaid
  rw [hr.2.2, nI_clamp (by omega), hS.2.2.2.2.2.2 i hi]
  refine ⟨vp_in_nI hi (by omega), fun q => h0 ((nI_eq (a := sY S i) (b := 0) (by omega) (by omega)).mp q), fun q => h1 (fun z => q (by rw [z]; rfl))⟩
theorem P_liesTill {r : TR} {h : TH} {s i : Nat} {S : Sc} {Q : Int32 → TH → Prop} (hr : RSc r s) (hS : ScOK h s S) (hB : ScB S) (hi : i < 240) (hn : ¬ sY S i = 0) (hQ : Q (nI (sY S i / 16 - 1 + sY S i % 16)) h) : D_Sc_liesTill r s (nI i) h Q := by
  have hb := hB.2.2.2.2.2 i hi
  unfold D_Sc_liesTill
  rw [hr.2.2, nI_clamp (by omega), hS.2.2.2.2.2.2 i hi, lay_div (by omega), lay_rem (by omega), nI_s1 (by omega), nI_add]
  exact ⟨vp_in_nI hi (by omega), vp_in_nI hi (by omega), hQ⟩
theorem P_lies {r : TR} {h : TH} {s i : Nat} {S : Sc} {Q : Int32 → TH → Prop} (hr : RSc r s) (hS : ScOK h s S) (hB : ScB S) (hi : i < 240) (h1 : lies S i = true → Q 1 h) (h0 : lies S i = false → Q 0 h) : D_Sc_lies r s (nI i) h Q := by
  have hb := hB.2.2.2.2.2 i hi
  have hh := hB.1
  unfold D_Sc_lies
  refine P_wasLaid hr hS hB hi (fun hn => ⟨fun z => absurd z z01, fun _ => ?_⟩) (fun hz => ⟨fun _ => h0 ?_, fun z => absurd rfl z⟩)
  · refine P_liesTill hr hS hB hi hn ?_
    rw [hS.1]
    refine ⟨fun q => h0 ?_, fun q => h1 ?_⟩
    · have q' := (nI_ltI (by omega) (by omega)).mp q
      unfold lies
      simp only [Bool.and_eq_false_iff, decide_eq_false_iff_not]
      right; omega
    · have q' : ¬ (sY S i / 16 - 1 + sY S i % 16 < sH S) := fun z => q ((nI_ltI (by omega) (by omega)).mpr z)
      unfold lies
      simp only [Bool.and_eq_true, decide_eq_true_eq]
      exact ⟨hn, by omega⟩
  · unfold lies
    simp only [Bool.and_eq_false_iff, decide_eq_false_iff_not]
    left; exact fun z => z hz
/-- LOT -/
def mixI (x v : Int32) : Int32 := (((x ^^^ v) * 1103515245) + 12345) ^^^ (jushr (((x ^^^ v) * 1103515245) + 12345) 15)
def lotI (seed which : Int32) : Int32 := jrem (jushr (mixI (mixI seed 69) which) 1) 100
theorem P_lot {r : TR} {h : TH} {seed which : Int32} {Q : Int32 → TH → Prop} (hQ : Q (lotI seed which) h) : D_Bay_lot r 100 seed which h Q := by
  unfold D_Bay_lot
  refine ⟨3, lp_s ?_⟩
  unfold DB_Bay_lot_5 DJ_Bay_lot_23
  refine ⟨fun q => absurd (show (2 : Int32) ≤ 0 from q) (by decide), fun _ => ⟨fun q => absurd rfl q, fun _ => ?_⟩⟩
  intro x5 e5 x6 e6 x7 e7
  refine lp_s ?_
  have e7' : x7 = 1 := e7
  subst e7'
  refine ⟨fun q => absurd (show (2 : Int32) ≤ 1 from q) (by decide), fun _ => ⟨fun _ => ?_, fun q => absurd (show (1 : Int32) = 0 from q) (by decide)⟩⟩
  intro y5 f5 y6 f6 y7 f7
  refine lp_s ?_
  have f7' : y7 = 2 := f7
  subst f7'
  refine ⟨fun _ => ⟨fun _ => ⟨by decide, ?_⟩, fun q => absurd (by decide) q⟩, fun q => absurd (show (2 : Int32) ≤ 2 by decide) q⟩
  have e : y6 = mixI (mixI seed 69) which := by rw [f6, f5, e6, e5]; rfl
  have hQ' := hQ
  unfold lotI at hQ'
  rw [← e] at hQ'
  exact hQ'
/-- a boat has a cold: c is COLD -/
def coldB (c : Nat) (seed which : Int32) : Bool := decide (¬ (nI c ≤ 0)) && decide (¬ (nI c ≤ lotI seed which))
theorem P_hasCold {r : TR} {h : TH} {o c : Nat} {k t seed : Int32} {Q : Int32 → TH → Prop} (hc : h.1 o 3 = nI c) (h1 : coldB c seed (16 * t + k) = true → Q 1 h) (h0 : coldB c seed (16 * t + k) = false → Q 0 h) : D_Bay_hasCold r o k t seed h Q := by
  unfold D_Bay_hasCold
  rw [hc]
  refine ⟨fun q => h0 ?_, fun q => P_lot ⟨fun z => h0 ?_, fun z => h1 ?_⟩⟩
  · unfold coldB; simp [q]
  · rw [hc] at z; unfold coldB; simp [z]
  · rw [hc] at z; unfold coldB; simp only [Bool.and_eq_true, decide_eq_true_eq]; exact ⟨q, z⟩
