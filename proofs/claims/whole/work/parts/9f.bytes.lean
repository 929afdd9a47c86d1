/-! the tape's bytes, runs of them, numbers of names -/
def byI (k : Nat) : Int32 := (Int8.ofNat k).toInt32
theorem isB_ex {x : Int32} (h : isB x) : ∃ k : Fin 256, x = byI k.1 := by
  obtain ⟨z, rfl⟩ := h
  refine ⟨⟨z.toInt8.toBitVec.toNat, z.toInt8.toBitVec.isLt⟩, ?_⟩
  unfold byI
  congr 1
  apply Int8.toBitVec_inj.mp
  show z.toInt8.toBitVec = BitVec.ofNat 8 z.toInt8.toBitVec.toNat
  exact (BitVec.ofNat_toNat _ _).symm ▸ (by simp)
def byC (x : Int32) : Nat := (x &&& 255).toNatClampNeg
def isLt (c : Nat) : Bool := decide (97 ≤ c) && decide (c ≤ 122)
def isDg (c : Nat) : Bool := decide (48 ≤ c) && decide (c ≤ 57)
def isBl (c : Nat) : Bool := (c == 9) || ((c == 10) || ((c == 13) || (c == 32)))
theorem by_all : ∀ k : Fin 256, byC (byI k.1) = k.1 ∧ (byI k.1 &&& 255) = nI k.1 ∧ ((¬ byI k.1 < 97 ∧ ¬ 122 < byI k.1) ↔ isLt k.1 = true) ∧ ((¬ byI k.1 < 48 ∧ ¬ 57 < byI k.1) ↔ isDg k.1 = true) ∧ ((byI k.1 = 9 ∨ byI k.1 = 10 ∨ byI k.1 = 13 ∨ byI k.1 = 32) ↔ isBl k.1 = true) ∧ (k.1 < 128 → byI k.1 = nI k.1) := by decide +kernel
theorem by_ok {x : Int32} (h : isB x) : byC x < 256 ∧ (x &&& 255) = nI (byC x) ∧ ((¬ x < 97 ∧ ¬ 122 < x) ↔ isLt (byC x) = true) ∧ ((¬ x < 48 ∧ ¬ 57 < x) ↔ isDg (byC x) = true) ∧ ((x = 9 ∨ x = 10 ∨ x = 13 ∨ x = 32) ↔ isBl (byC x) = true) ∧ (byC x < 128 → x = nI (byC x)) := by
  obtain ⟨k, rfl⟩ := isB_ex h
  obtain ⟨a, b, c, d, e, f⟩ := by_all k
  rw [a]
  exact ⟨k.2, b, c, d, e, f⟩
theorem isLt_i {c : Nat} : isLt c = true ↔ 97 ≤ c ∧ c ≤ 122 := by unfold isLt; rw [Bool.and_eq_true, decide_eq_true_iff, decide_eq_true_iff]
theorem isDg_i {c : Nat} : isDg c = true ↔ 48 ≤ c ∧ c ≤ 57 := by unfold isDg; rw [Bool.and_eq_true, decide_eq_true_iff, decide_eq_true_iff]
theorem isBl_i {c : Nat} : isBl c = true ↔ c = 9 ∨ c = 10 ∨ c = 13 ∨ c = 32 := by unfold isBl; simp
/-- where a run ends -/
def runE (p : Nat → Bool) (n : Nat) : Nat → Nat → Nat
  | 0, i => i
  | k + 1, i => if i < n ∧ p i = true then runE p n k (i + 1) else i
def runTo (p : Nat → Bool) (n i : Nat) : Nat := runE p n (n - i) i
theorem runTo_s {p : Nat → Bool} {n i : Nat} (h1 : i < n) (h2 : p i = true) : runTo p n i = runTo p n (i + 1) := by
  unfold runTo
  rw [show n - i = (n - (i + 1)) + 1 by omega]
  conv => lhs; unfold runE
  rw [if_pos ⟨h1, h2⟩]
theorem runTo_x {p : Nat → Bool} {n i : Nat} (h : ¬ (i < n ∧ p i = true)) : runTo p n i = i := by
  unfold runTo
  cases n - i with
  | zero => rfl
  | succ k => conv => lhs; unfold runE
              rw [if_neg h]
theorem runE_p {p : Nat → Bool} {n : Nat} : ∀ k i, n - i = k → i ≤ runE p n k i ∧ (i ≤ n → runE p n k i ≤ n) ∧ (∀ j, i ≤ j → j < runE p n k i → j < n ∧ p j = true) ∧ ¬ (runE p n k i < n ∧ p (runE p n k i) = true) := by
  intro k
  induction k with
  | zero => intro i hk; exact ⟨Nat.le_refl _, fun h => h, fun j a b => by unfold runE at b; omega, fun h => by unfold runE at h; omega⟩
  | succ k ih =>
    intro i hk
    unfold runE
    by_cases c : i < n ∧ p i = true
    · rw [if_pos c]
      obtain ⟨a1, a2, a3, a4⟩ := ih (i + 1) (by omega)
      refine ⟨by omega, fun _ => a2 (by omega), fun j x y => ?_, a4⟩
      rcases Nat.eq_or_lt_of_le x with e | e
      · subst e; exact c
      · exact a3 j e y
    · rw [if_neg c]
      exact ⟨Nat.le_refl _, fun h => h, fun j a b => by omega, c⟩
theorem runTo_p {p : Nat → Bool} {n i : Nat} : i ≤ runTo p n i ∧ (i ≤ n → runTo p n i ≤ n) ∧ (∀ j, i ≤ j → j < runTo p n i → j < n ∧ p j = true) ∧ ¬ (runTo p n i < n ∧ p (runTo p n i) = true) := runE_p _ _ rfl
/-- a name's number, by a base -/
def bse (b : Nat) (ls : List Nat) : Nat := ls.foldl (fun a c => b * a + c) 0
theorem bse_snoc (b : Nat) (ls : List Nat) (x : Nat) : bse b (ls ++ [x]) = b * bse b ls + x := by unfold bse; rw [List.foldl_append]; rfl
theorem b27_bse (ls : List Nat) : b27 ls = bse 27 ls := rfl
def ltL (ls : List Nat) : Prop := ∀ x, x ∈ ls → 1 ≤ x ∧ x ≤ 26
theorem bse_inj {b : Nat} (hb : 27 ≤ b) : ∀ n (l1 l2 : List Nat), l1.length ≤ n → ltL l1 → ltL l2 → bse b l1 = bse b l2 → l1 = l2 := by
  intro n
  induction n with
  | zero =>
    intro l1 l2 h1 a1 a2 e
    have : l1 = [] := List.length_eq_zero_iff.mp (by omega)
    subst this
    rcases List.eq_nil_or_concat l2 with z | ⟨l, x, z⟩
    · exact z.symm
    · rw [z] at e a2
      rw [List.concat_eq_append] at e a2
      rw [bse_snoc] at e
      have := a2 x (by simp)
      have e0 : bse b [] = 0 := rfl
      omega
  | succ n ih =>
    intro l1 l2 h1 a1 a2 e
    rcases List.eq_nil_or_concat l1 with z1 | ⟨k1, x1, z1⟩ <;> rcases List.eq_nil_or_concat l2 with z2 | ⟨k2, x2, z2⟩
    · rw [z1, z2]
    · rw [z2, List.concat_eq_append] at e a2
      rw [z1, bse_snoc] at e
      have := a2 x2 (by simp)
      have e0 : bse b [] = 0 := rfl
      omega
    · rw [z1, List.concat_eq_append] at e a1
      rw [z2, bse_snoc] at e
      have := a1 x1 (by simp)
      have e0 : bse b [] = 0 := rfl
      omega
    · rw [List.concat_eq_append] at z1 z2
      subst z1; subst z2
      rw [bse_snoc, bse_snoc] at e
      have q1 := a1 x1 (by simp)
      have q2 := a2 x2 (by simp)
      have m1 : (b * bse b k1 + x1) % b = x1 := by rw [Nat.mul_add_mod, Nat.mod_eq_of_lt (by omega)]
      have m2 : (b * bse b k2 + x2) % b = x2 := by rw [Nat.mul_add_mod, Nat.mod_eq_of_lt (by omega)]
      have ex : x1 = x2 := by rw [← m1, ← m2, e]
      subst ex
      have em : b * bse b k1 = b * bse b k2 := by omega
      have eb := Nat.eq_of_mul_eq_mul_left (by omega) em
      rw [ih k1 k2 (by simp at h1; omega) (fun x hx => a1 x (by simp [hx])) (fun x hx => a2 x (by simp [hx])) eb]
theorem bse_lt {b : Nat} (hb : 27 ≤ b) : ∀ (n : Nat) (l : List Nat), l.length = n → ltL l → bse b l < b ^ n := by
  intro n
  induction n with
  | zero =>
    intro l h _
    have : l = [] := List.length_eq_zero_iff.mp h
    subst this
    show 0 < b ^ 0
    simp
  | succ n ih =>
    intro l h a
    rcases List.eq_nil_or_concat l with z | ⟨k, x, z⟩
    · rw [z] at h; simp at h
    · rw [List.concat_eq_append] at z
      subst z
      have i := ih k (by simp at h; exact h) (fun y hy => a y (by simp [hy]))
      have q := a x (by simp)
      rw [bse_snoc, Nat.pow_succ]
      calc b * bse b k + x < b * bse b k + b := by omega
        _ = b * (bse b k + 1) := by rw [Nat.mul_add, Nat.mul_one]
        _ ≤ b * b ^ n := Nat.mul_le_mul_left _ i
        _ = b ^ n * b := Nat.mul_comm _ _
theorem bse_lt8 {b : Nat} (hb : 27 ≤ b) (hb2 : b ≤ 32) {l : List Nat} (h : l.length ≤ 8) (a : ltL l) : bse b l < 2 ^ 41 := by
  have h1 := bse_lt hb l.length l rfl a
  have h2 : b ^ l.length ≤ b ^ 8 := Nat.pow_le_pow_right (by omega) h
  have h3 : b ^ 8 ≤ 32 ^ 8 := Nat.pow_le_pow_left hb2 8
  have h4 : (32 : Nat) ^ 8 < 2 ^ 41 := by decide
  omega
/-- the letters of a run -/
def nmL (c : Nat → Nat) (i k : Nat) : List Nat := (List.range k).map (fun j => c (i + j) - 96)
theorem nmL_s (c : Nat → Nat) (i k : Nat) : nmL c i (k + 1) = nmL c i k ++ [c (i + k) - 96] := by unfold nmL; rw [List.range_succ, List.map_append]; rfl
theorem nmL_len (c : Nat → Nat) (i k : Nat) : (nmL c i k).length = k := by unfold nmL; rw [List.length_map, List.length_range]
theorem nmL_at (c : Nat → Nat) (i k j : Nat) (h : j < k) : (nmL c i k).getD j 0 = c (i + j) - 96 := by
  unfold nmL
  rw [List.getD_eq_getElem?_getD, List.getElem?_map, List.getElem?_range h]; rfl
theorem nmL_lt {c : Nat → Nat} {i k : Nat} (h : ∀ j, j < k → isLt (c (i + j)) = true) : ltL (nmL c i k) := by
  intro x hx
  unfold nmL at hx
  rw [List.mem_map] at hx
  obtain ⟨j, hj, rfl⟩ := hx
  have := isLt_i.mp (h j (List.mem_range.mp hj))
  omega
/-- a word's number, if it is one -/
def wkF (ls : List Nat) : Nat → Nat → Nat
  | 0, _ => 2
  | k + 1, w => if wdL.getD w [] = ls then 4 + w else wkF ls k (w + 1)
def wkd (ls : List Nat) : Nat := wkF ls 19 0
theorem wdL_ok : ∀ w : Fin 19, (wdL.getD w.1 []).length ≤ 6 ∧ 1 ≤ (wdL.getD w.1 []).length ∧ ∀ x ∈ wdL.getD w.1 [], 1 ≤ x ∧ x ≤ 26 := by decide
theorem wdL_inj : ∀ a b : Fin 19, wdL.getD a.1 [] = wdL.getD b.1 [] → a = b := by decide
theorem wkF_no {ls : List Nat} : ∀ k w, (∀ v, w ≤ v → v < w + k → ¬ wdL.getD v [] = ls) → wkF ls k w = 2 := by
  intro k
  induction k with
  | zero => intro w _; rfl
  | succ k ih => intro w h; unfold wkF; rw [if_neg (h w (by omega) (by omega))]; exact ih (w + 1) (fun v a b => h v (by omega) (by omega))
theorem wkF_at {ls : List Nat} : ∀ k w v, w ≤ v → v < w + k → wdL.getD v [] = ls → (∀ u, w ≤ u → u < v → ¬ wdL.getD u [] = ls) → wkF ls k w = 4 + v := by
  intro k
  induction k with
  | zero => intro w v a b; omega
  | succ k ih =>
    intro w v a b e h
    unfold wkF
    rcases Nat.eq_or_lt_of_le a with z | z
    · subst z; rw [if_pos e]
    · rw [if_neg (h w (Nat.le_refl _) z)]; exact ih (w + 1) v z (by omega) e (fun u x y => h u (by omega) y)
theorem wkd_8 {ls : List Nat} (h : 7 ≤ ls.length) : wkd ls = 2 := by
  refine wkF_no 19 0 (fun v _ hv e => ?_)
  have := (wdL_ok ⟨v, by omega⟩).1
  simp only [] at this
  rw [e] at this
  omega
theorem wkd_or (ls : List Nat) : wkd ls = 2 ∨ ∃ w, w < 19 ∧ wdL.getD w [] = ls ∧ wkd ls = 4 + w := by
  have key : ∀ k w, w + k ≤ 19 → wkF ls k w = 2 ∨ ∃ v, v < 19 ∧ wdL.getD v [] = ls ∧ wkF ls k w = 4 + v := by
    intro k
    induction k with
    | zero => intro w _; exact Or.inl rfl
    | succ k ih =>
      intro w h
      unfold wkF
      by_cases e : wdL.getD w [] = ls
      · rw [if_pos e]; exact Or.inr ⟨w, by omega, e, rfl⟩
      · rw [if_neg e]; exact ih (w + 1) (by omega)
  exact key 19 0 (by omega)
theorem wkd_le (ls : List Nat) : 2 ≤ wkd ls ∧ wkd ls ≤ 22 ∧ ¬ wkd ls = 3 := by
  rcases wkd_or ls with z | ⟨w, a, -, z⟩ <;> omega
/-- digits -/
def nuF (c : Nat → Nat) (i : Nat) : Nat → Nat
  | 0 => 0
  | j + 1 => 10 * nuF c i j + (c (i + j) - 48)
theorem nuF_lt {c : Nat → Nat} {i : Nat} : ∀ j, (∀ k, k < j → isDg (c (i + k)) = true) → nuF c i j < 10 ^ j := by
  intro j
  induction j with
  | zero => intro _; show 0 < 10 ^ 0; decide
  | succ j ih =>
    intro h
    have a := ih (fun k hk => h k (by omega))
    have b := isDg_i.mp (h j (by omega))
    show 10 * nuF c i j + (c (i + j) - 48) < 10 ^ (j + 1)
    rw [Nat.pow_succ]
    omega
theorem nuF_le {c : Nat → Nat} {i j : Nat} (hj : j ≤ 4) (h : ∀ k, k < j → isDg (c (i + k)) = true) : nuF c i j ≤ 9999 := by
  have a := nuF_lt j h
  have b : 10 ^ j ≤ 10 ^ 4 := Nat.pow_le_pow_right (by omega) hj
  have e : (10 : Nat) ^ 4 = 10000 := by decide
  omega
/-- a sign's kind -/
def sgK (c : Nat) : Nat := if c = 59 then 23 else if c = 61 then 24 else if c = 43 then 25 else if c = 45 then 26 else if c = 42 then 27 else if c = 47 then 28 else if c = 60 then 29 else if c = 40 then 30 else if c = 41 then 31 else 1
/-- a token at a place: its kind, how far it goes, its number or how many letters -/
def ltE (c : Nat → Nat) (n i : Nat) : Nat := runTo (fun j => isLt (c j)) n i - i
def dgE (c : Nat → Nat) (n i : Nat) : Nat := runTo (fun j => isDg (c j)) n i - i
def tkK (c : Nat → Nat) (n i : Nat) : Nat := if n ≤ i then 0 else if 0 < ltE c n i then (if 8 < ltE c n i then 1 else wkd (nmL c i (ltE c n i))) else if 0 < dgE c n i then (if 4 < dgE c n i then 1 else 3) else sgK (c i)
def tkE (c : Nat → Nat) (n i : Nat) : Nat := if n ≤ i then i else if 0 < ltE c n i then i + ltE c n i else if 0 < dgE c n i then i + dgE c n i else i + 1
def tkV (c : Nat → Nat) (n i : Nat) : Nat := if 0 < ltE c n i then ltE c n i else nuF c i (min (dgE c n i) 4)
def blE (c : Nat → Nat) (n i : Nat) : Nat := runTo (fun j => isBl (c j)) n i
def posT (c : Nat → Nat) (n : Nat) : Nat → Nat
  | 0 => 0
  | j + 1 => tkE c n (blE c n (posT c n j))
def plT (c : Nat → Nat) (n j : Nat) : Nat := blE c n (posT c n j)
def kdT (c : Nat → Nat) (n j : Nat) : Nat := tkK c n (plT c n j)
def vaT (c : Nat → Nat) (n j : Nat) : Nat := tkV c n (plT c n j)
def nmT (c : Nat → Nat) (n j : Nat) : List Nat := nmL c (plT c n j) (ltE c n (plT c n j))
theorem tkE_le {c : Nat → Nat} {n i : Nat} (h : i ≤ n) : i ≤ tkE c n i ∧ tkE c n i ≤ n ∧ (i < n → i < tkE c n i) := by
  have a := (runTo_p (p := fun j => isLt (c j)) (n := n) (i := i)).2.1 h
  have b := (runTo_p (p := fun j => isDg (c j)) (n := n) (i := i)).2.1 h
  unfold tkE
  by_cases z : n ≤ i
  · rw [if_pos z]; omega
  · rw [if_neg z]
    unfold ltE dgE
    split
    · omega
    · split <;> omega
theorem posT_le {c : Nat → Nat} {n : Nat} : ∀ j, posT c n j ≤ n ∧ plT c n j ≤ n := by
  have key : ∀ i, i ≤ n → blE c n i ≤ n := fun i h => (runTo_p (p := fun j => isBl (c j)) (n := n) (i := i)).2.1 h
  intro j
  induction j with
  | zero => exact ⟨Nat.zero_le _, key 0 (Nat.zero_le _)⟩
  | succ j ih =>
    have a := (tkE_le (c := c) ih.2).2.1
    exact ⟨a, key _ a⟩
