/-! sets of boats as numbers below 64, and their bits -/
theorem bt1 : ∀ m : Fin 64, ∀ k : Fin 6, (((nI m.1 >>> (nI k.1 &&& 31)) &&& 1) = 1 ↔ m.1.testBit k.1 = true) ∧ (((nI m.1 >>> (nI k.1 &&& 31)) &&& 1) = 0 ↔ m.1.testBit k.1 = false) := by decide +kernel
theorem bt_1 {m k : Nat} (hm : m < 64) (hk : k < 6) : ((nI m >>> (nI k &&& 31)) &&& 1) = 1 ↔ m.testBit k = true := (bt1 ⟨m, hm⟩ ⟨k, hk⟩).1
theorem bt_0 {m k : Nat} (hm : m < 64) (hk : k < 6) : ((nI m >>> (nI k &&& 31)) &&& 1) = 0 ↔ m.testBit k = false := (bt1 ⟨m, hm⟩ ⟨k, hk⟩).2
theorem bo1 : ∀ m : Fin 64, ∀ k : Fin 6, (nI m.1 ||| ((1 : Int32) <<< (nI k.1 &&& 31))) = nI (m.1 ||| 2 ^ k.1) ∧ m.1 ||| 2 ^ k.1 < 64 := by decide +kernel
theorem bo_1 {m k : Nat} (hm : m < 64) (hk : k < 6) : (nI m ||| ((1 : Int32) <<< (nI k &&& 31))) = nI (m ||| 2 ^ k) := (bo1 ⟨m, hm⟩ ⟨k, hk⟩).1
theorem bo_lt {m k : Nat} (hm : m < 64) (hk : k < 6) : m ||| 2 ^ k < 64 := (bo1 ⟨m, hm⟩ ⟨k, hk⟩).2
theorem bor1 : ∀ a b : Fin 64, (nI a.1 ||| nI b.1) = nI (a.1 ||| b.1) := by decide +kernel
theorem bor {a b : Nat} (ha : a < 64) (hb : b < 64) : (nI a ||| nI b) = nI (a ||| b) := bor1 ⟨a, ha⟩ ⟨b, hb⟩
theorem band1 : ∀ a b : Fin 64, (nI a.1 &&& nI b.1) = nI (a.1 &&& b.1) := by decide +kernel
theorem band {a b : Nat} (ha : a < 64) (hb : b < 64) : (nI a &&& nI b) = nI (a &&& b) := band1 ⟨a, ha⟩ ⟨b, hb⟩
theorem or_lt64 {a b : Nat} (ha : a < 64) (hb : b < 64) : a ||| b < 64 := Nat.or_lt_two_pow (n := 6) ha hb
theorem and_lt64 {a b : Nat} (ha : a < 64) : a &&& b < 64 := Nat.lt_of_le_of_lt Nat.and_le_left ha
/-- all boats -/
theorem ab1 : ∀ n : Fin 7, ((1 : Int32) <<< (nI n.1 &&& 31)) - 1 = nI (2 ^ n.1 - 1) ∧ 2 ^ n.1 - 1 < 64 := by decide +kernel
/-- of n boats those that are not in u -/
def outOf (n u : Nat) : Nat := (2 ^ n - 1) &&& (63 ^^^ u)
theorem oo1 : ∀ n : Fin 7, ∀ u : Fin 64, (nI (2 ^ n.1 - 1) &&& (nI u.1 ^^^ (-1))) = nI (outOf n.1 u.1) ∧ outOf n.1 u.1 < 64 := by decide +kernel
theorem oo2 : ∀ n : Fin 7, ∀ u : Fin 64, ∀ k : Fin 6, (outOf n.1 u.1).testBit k.1 = (decide (k.1 < n.1) && !u.1.testBit k.1) := by decide +kernel
/-- how many bits -/
def popc (m : Nat) : Nat := m % 2 + m / 2 % 2 + m / 4 % 2 + m / 8 % 2 + m / 16 % 2 + m / 32 % 2
def bcI (a0 : Int32) : Int32 :=
  let x1 := a0 - ((jushr a0 1) &&& 1431655765)
  let x2 := (x1 &&& 858993459) + ((jushr x1 2) &&& 858993459)
  let x3 := (x2 + (jushr x2 4)) &&& 252645135
  let x4 := x3 + (jushr x3 8)
  let x5 := x4 + (jushr x4 16)
  x5 &&& 63
theorem bc1 : ∀ m : Fin 64, bcI (nI m.1) = nI (popc m.1) := by decide +kernel
theorem P_bitCount {r : TR} {m : Nat} {h : TH} {Q : Int32 → TH → Prop} (hm : m < 64) (hQ : Q (nI (popc m)) h) : D_JI_bitCount r (nI m) h Q := by
  unfold D_JI_bitCount
  intro x1 e1 x2 e2 x3 e3 x4 e4 x5 e5
  have h1 := bc1 ⟨m, hm⟩
  have e : x5 &&& 63 = nI (popc m) := by
    rw [← h1]
    show _ = bcI (nI m)
    unfold bcI
    rw [e5, e4, e3, e2, e1]
  rw [e]
  exact hQ
/-- the least number of a set: -1 if it is empty -/
def leastI (m : Nat) : Int32 := if m.testBit 0 then 0 else if m.testBit 1 then 1 else if m.testBit 2 then 2 else if m.testBit 3 then 3 else if m.testBit 4 then 4 else if m.testBit 5 then 5 else -1
theorem leastI_at {m j : Nat} (hj : j < 6) (h1 : m.testBit j = true) (h0 : ∀ i, i < j → m.testBit i = false) : leastI m = nI j := by
  unfold leastI
  rcases (show j = 0 ∨ j = 1 ∨ j = 2 ∨ j = 3 ∨ j = 4 ∨ j = 5 by omega) with rfl | rfl | rfl | rfl | rfl | rfl
  · rw [if_pos h1]; rfl
  · rw [if_neg (by rw [h0 0 (by omega)]; decide), if_pos h1]; rfl
  · rw [if_neg (by rw [h0 0 (by omega)]; decide), if_neg (by rw [h0 1 (by omega)]; decide), if_pos h1]; rfl
  · rw [if_neg (by rw [h0 0 (by omega)]; decide), if_neg (by rw [h0 1 (by omega)]; decide), if_neg (by rw [h0 2 (by omega)]; decide), if_pos h1]; rfl
  · rw [if_neg (by rw [h0 0 (by omega)]; decide), if_neg (by rw [h0 1 (by omega)]; decide), if_neg (by rw [h0 2 (by omega)]; decide), if_neg (by rw [h0 3 (by omega)]; decide), if_pos h1]; rfl
  · rw [if_neg (by rw [h0 0 (by omega)]; decide), if_neg (by rw [h0 1 (by omega)]; decide), if_neg (by rw [h0 2 (by omega)]; decide), if_neg (by rw [h0 3 (by omega)]; decide), if_neg (by rw [h0 4 (by omega)]; decide), if_pos h1]; rfl
theorem leastI_no {m : Nat} (h0 : ∀ i, i < 6 → m.testBit i = false) : leastI m = -1 := by
  unfold leastI
  rw [if_neg (by rw [h0 0 (by omega)]; decide), if_neg (by rw [h0 1 (by omega)]; decide), if_neg (by rw [h0 2 (by omega)]; decide), if_neg (by rw [h0 3 (by omega)]; decide), if_neg (by rw [h0 4 (by omega)]; decide), if_neg (by rw [h0 5 (by omega)]; decide)]
theorem P_leastOf {r : TR} {m : Nat} {h : TH} {Q : Int32 → TH → Prop} (hm : m < 64) (hQ : Q (leastI m) h) : D_SR_leastOf r (nI m) h Q := by
  unfold D_SR_leastOf
  refine lp_for 6 (fun j s => s = (nI j, h) ∧ ∀ i, i < j → m.testBit i = false) ?_ ?_ _ ⟨rfl, fun i hi => absurd hi (Nat.not_lt_zero _)⟩
  · rintro j s K hj ⟨rfl, h0⟩ hK
    unfold DB_SR_leastOf_2
    refine ⟨fun q => absurd ((nI_leI (a := 6) (by omega) (by omega)).mp q) (by omega), fun _ => ⟨fun q x4 e4 => ?_, fun q => ?_⟩⟩
    · subst e4
      refine hK _ ⟨by rw [nI_1], fun i hi => ?_⟩
      rcases Nat.lt_or_ge i j with z | z
      · exact h0 i z
      · have e : i = j := by omega
        subst e
        cases hb : m.testBit i with
        | false => rfl
        | true => exact absurd ((bt_1 hm hj).mpr hb) q
    · rw [← leastI_at hj ((bt_1 hm hj).mp q) h0]
      exact hQ
  · rintro s K ⟨rfl, h0⟩
    unfold DB_SR_leastOf_2
    refine ⟨fun _ => ?_, fun q => absurd (Int32.le_refl _) q⟩
    rw [leastI_no h0] at hQ
    exact hQ
