/-! hidden: sets of cells, by their bits -/
theorem and_z {a b : Nat} : a &&& b = 0 ↔ ∀ i, a.testBit i = true → b.testBit i = false := by
  refine ⟨fun h i ha => ?_, fun h => ?_⟩
  · have := congrArg (fun x => x.testBit i) h
    simp only [Nat.testBit_and, ha, Bool.true_and, Nat.zero_testBit] at this
    exact this
  · apply Nat.eq_of_testBit_eq
    intro i
    rw [Nat.testBit_and, Nat.zero_testBit]
    cases hq : a.testBit i with
    | true => rw [h i hq]; rfl
    | false => rfl
theorem bes_sym {W H c w d : Nat} (hW : W ≤ 8) (hx : c % 8 < W) (hy : c / 8 < H) (h1 : 1 ≤ w) (h4 : w ≤ 4) (h : besF W H c w = some d) : ∃ v, 1 ≤ v ∧ v ≤ 4 ∧ besF W H d v = some c := by
  unfold besF at h
  by_cases w1 : w = 1
  · rw [if_pos w1] at h
    split at h
    · cases h
      refine ⟨3, by omega, by omega, ?_⟩
      unfold besF
      rw [if_neg (by omega), if_neg (by omega), if_pos rfl, if_pos (by omega)]
      congr 1
    · cases h
  by_cases w2 : w = 2
  · rw [if_neg w1, if_pos w2] at h
    split at h
    · cases h
      refine ⟨4, by omega, by omega, ?_⟩
      unfold besF
      rw [if_neg (by omega), if_neg (by omega), if_neg (by omega), if_pos rfl, if_pos (by omega)]
      congr 1
    · cases h
  by_cases w3 : w = 3
  · rw [if_neg w1, if_neg w2, if_pos w3] at h
    split at h
    · cases h
      refine ⟨1, by omega, by omega, ?_⟩
      unfold besF
      rw [if_pos rfl, if_pos (by omega)]
      congr 1
      omega
    · cases h
  · rw [if_neg w1, if_neg w2, if_neg w3, if_pos (by omega)] at h
    split at h
    · cases h
      refine ⟨2, by omega, by omega, ?_⟩
      unfold besF
      rw [if_neg (by omega), if_pos rfl, if_pos (by omega)]
      congr 1
      omega
    · cases h
theorem spW_bit {B : By} {c F d : Nat} : ∀ j, (spW B c j F).testBit d = true ↔ F.testBit d = true ∨ ∃ w, 1 ≤ w ∧ w ≤ j ∧ besF (bW B) (bH B) c w = some d ∧ ¬ bK B d = 1 := by
  intro j
  induction j with
  | zero => exact ⟨Or.inl, fun h => h.elim id (fun ⟨w, a, b, _⟩ => by omega)⟩
  | succ j ih =>
    have up : (∃ w, 1 ≤ w ∧ w ≤ j ∧ besF (bW B) (bH B) c w = some d ∧ ¬ bK B d = 1) → ∃ w, 1 ≤ w ∧ w ≤ j + 1 ∧ besF (bW B) (bH B) c w = some d ∧ ¬ bK B d = 1 := fun ⟨w, a, b, e⟩ => ⟨w, a, by omega, e⟩
    cases h : besF (bW B) (bH B) c (j + 1) with
    | none =>
      rw [spW_n h, ih]
      refine ⟨fun q => q.imp id up, fun q => q.imp id (fun ⟨w, a, b, e, g⟩ => ?_)⟩
      rcases Nat.lt_or_ge j w with y | y
      · have : w = j + 1 := by omega
        rw [this, h] at e; cases e
      · exact ⟨w, a, y, e, g⟩
    | some e1 =>
      rw [spW_s h]
      by_cases hk : bK B e1 = 1
      · rw [if_pos hk, ih]
        refine ⟨fun q => q.imp id up, fun q => q.imp id (fun ⟨w, a, b, e, g⟩ => ?_)⟩
        rcases Nat.lt_or_ge j w with y | y
        · have : w = j + 1 := by omega
          rw [this, h] at e; cases e
          exact absurd hk g
        · exact ⟨w, a, y, e, g⟩
      · rw [if_neg hk, Nat.testBit_or, Bool.or_eq_true, ih, Nat.testBit_two_pow]
        refine ⟨fun q => ?_, fun q => ?_⟩
        · rcases q with (q | q) | q
          · exact Or.inl q
          · exact Or.inr (up q)
          · have := of_decide_eq_true q
            subst this
            exact Or.inr ⟨j + 1, by omega, by omega, h, hk⟩
        · rcases q with q | ⟨w, a, b, e, g⟩
          · exact Or.inl (Or.inl q)
          · rcases Nat.lt_or_ge j w with y | y
            · have : w = j + 1 := by omega
              rw [this, h] at e; cases e
              exact Or.inr (decide_eq_true rfl)
            · exact Or.inl (Or.inr ⟨w, a, y, e, g⟩)
theorem spC_bit {B : By} {R d : Nat} : ∀ n, (spC B R n).testBit d = true ↔ R.testBit d = true ∨ ∃ c w, c < n ∧ R.testBit c = true ∧ 1 ≤ w ∧ w ≤ 4 ∧ besF (bW B) (bH B) c w = some d ∧ ¬ bK B d = 1 := by
  intro n
  induction n with
  | zero => exact ⟨Or.inl, fun h => h.elim id (fun ⟨c, w, a, _⟩ => by omega)⟩
  | succ n ih =>
    have up : (∃ c w, c < n ∧ R.testBit c = true ∧ 1 ≤ w ∧ w ≤ 4 ∧ besF (bW B) (bH B) c w = some d ∧ ¬ bK B d = 1) → ∃ c w, c < n + 1 ∧ R.testBit c = true ∧ 1 ≤ w ∧ w ≤ 4 ∧ besF (bW B) (bH B) c w = some d ∧ ¬ bK B d = 1 := fun ⟨c, w, a, e⟩ => ⟨c, w, by omega, e⟩
    cases hb : R.testBit n with
    | true =>
      have e : spC B R (n + 1) = spW B n 4 (spC B R n) := by conv => lhs; unfold spC; rw [if_pos hb]
      rw [e, spW_bit, ih]
      refine ⟨fun q => ?_, fun q => ?_⟩
      · rcases q with (q | q) | ⟨w, a, b, g⟩
        · exact Or.inl q
        · exact Or.inr (up q)
        · exact Or.inr ⟨n, w, by omega, hb, a, b, g⟩
      · rcases q with q | ⟨c, w, a, b, g1, g2, g3⟩
        · exact Or.inl (Or.inl q)
        · rcases Nat.lt_or_ge c n with y | y
          · exact Or.inl (Or.inr ⟨c, w, y, b, g1, g2, g3⟩)
          · have : c = n := by omega
            subst this
            exact Or.inr ⟨w, g1, g2, g3⟩
    | false =>
      have e : spC B R (n + 1) = spC B R n := by conv => lhs; unfold spC; rw [if_neg (by rw [hb]; decide)]
      rw [e, ih]
      refine ⟨fun q => q.imp id up, fun q => q.imp id (fun ⟨c, w, a, b, g⟩ => ?_)⟩
      rcases Nat.lt_or_ge c n with y | y
      · exact ⟨c, w, y, b, g⟩
      · have : c = n := by omega
        rw [this, hb] at b
        exact absurd b (by decide)
/-- a set of cells of the bay, none a rock -/
def RI (B : By) (R : Nat) : Prop := R < 2 ^ 40 ∧ ∀ c, R.testBit c = true → c % 8 < bW B ∧ c / 8 < bH B ∧ ¬ bK B c = 1
theorem bit40 {R c : Nat} (hR : R < 2 ^ 40) (h : R.testBit c = true) : c < 40 := by
  rcases Nat.lt_or_ge c 40 with q | q
  · exact q
  · rw [Nat.testBit_lt_two_pow (Nat.lt_of_lt_of_le hR (Nat.pow_le_pow_right (by omega) q))] at h
    exact absurd h (by decide)
theorem spC_RI {B : By} (hB : ByB B) {R : Nat} (h : RI B R) : RI B (spC B R 40) := by
  refine ⟨spC_lt hB h.1 40, fun d hd => ?_⟩
  rcases (spC_bit 40).mp hd with q | ⟨c, w, -, -, -, -, e, g⟩
  · exact h.2 d q
  · have := besF_lt hB.1 hB.2.1 e
    exact ⟨this.2.1, this.2.2, g⟩
theorem spC_cm {B : By} (hB : ByB B) {R d : Nat} (h : RI B R) (hx : d % 8 < bW B) (hy : d / 8 < bH B) (hk : ¬ bK B d = 1) : (spC B R 40).testBit d = cmF B R d := by
  have key : (spC B R 40).testBit d = true ↔ cmF B R d = true := by
    rw [spC_bit]
    unfold cmF
    rw [Bool.or_eq_true]
    constructor
    · intro q
      rcases q with q | ⟨c, w, a, b, g1, g2, g3, g4⟩
      · exact Or.inl q
      · refine Or.inr ?_
        obtain ⟨v, v1, v4, e⟩ := bes_sym hB.1 (h.2 c b).1 (h.2 c b).2.1 g1 g2 g3
        have ev : v - 1 + 1 = v := by omega
        refine exF_t (p := fun j => nbB B R d (j + 1)) (j := v - 1) ?_ 4 (by omega)
        show nbB B R d (v - 1 + 1) = true
        rw [ev, nbB_s e]; exact b
    · intro q
      rcases q with q | q
      · exact Or.inl q
      · refine Or.inr ?_
        obtain ⟨j, hj, e⟩ := exF_x 4 q
        cases hb : besF (bW B) (bH B) d (j + 1) with
        | none => rw [nbB_n hb] at e; exact absurd e (by decide)
        | some c =>
          rw [nbB_s hb] at e
          obtain ⟨v, v1, v4, e2⟩ := bes_sym hB.1 hx hy (by omega) (by omega) hb
          exact ⟨c, v, bit40 h.1 e, e, v1, v4, e2, hk⟩
  cases q : cmF B R d with
  | true => exact key.mpr q
  | false => exact bf_of (fun z => by rw [key.mp z] at q; exact absurd q (by decide))
theorem nsF_bit {S : Sc} {c : Nat} : ∀ n, (nsF S n).testBit c = bcF S n c := by
  intro n
  unfold bcF
  induction n with
  | zero => show (0 : Nat).testBit c = false; exact Nat.zero_testBit c
  | succ n ih =>
    conv => rhs; unfold exF
    unfold nsF
    cases hs : sail S n with
    | true =>
      rw [if_pos rfl, Nat.testBit_or, ih, Nat.testBit_two_pow, Bool.true_and]
    | false => rw [if_neg (by decide), ih]; simp
theorem pl_ht {B : By} {w : Nat} {S : Sc} {N : Nat} : ∀ n oc, plF B w n oc &&& nsF S N = 0 ↔ htF B w (bcF S N) n oc = false := by
  intro n
  induction n with
  | zero => intro oc; show 0 &&& nsF S N = 0 ↔ false = false; simp
  | succ n ih =>
    intro oc
    cases oc with
    | none => show 0 &&& nsF S N = 0 ↔ false = false; simp
    | some c =>
      show (2 ^ c ||| plF B w n (downF B c w)) &&& nsF S N = 0 ↔ (bcF S N c || htF B w (bcF S N) n (downF B c w)) = false
      rw [Bool.or_eq_false_iff, ← ih, ← nsF_bit, and_z, and_z]
      refine ⟨fun h => ⟨h c (by rw [Nat.testBit_or, Nat.testBit_two_pow_self]; rfl), fun i hi => h i (by rw [Nat.testBit_or, hi, Bool.or_true])⟩, fun h i hi => ?_⟩
      rw [Nat.testBit_or, Bool.or_eq_true, Nat.testBit_two_pow] at hi
      rcases hi with q | q
      · have := of_decide_eq_true q
        subst this
        exact h.1
      · exact h.2 i q
theorem unF_bit {B : By} {S : Sc} {st F c : Nat} (hc : c < 40) : (unF B S st F).testBit c = (F.testBit c && !htF B (windF B (sH S)) (bcF S (bN B)) (st + 1) (some c)) := by
  unfold unF
  rw [setF_bitG, decide_eq_true hc, Bool.true_and]
  congr 1
  cases q : htF B (windF B (sH S)) (bcF S (bN B)) (st + 1) (some c) with
  | true => exact decide_eq_false (fun z => by rw [(pl_ht _ _).mp z] at q; exact absurd q (by decide))
  | false => exact decide_eq_true ((pl_ht _ _).mpr q)
theorem unF_RI {B : By} {S : Sc} {st F : Nat} (h : RI B F) : RI B (unF B S st F) := by
  refine ⟨setF_ltG _ 40, fun c hc => h.2 c ?_⟩
  have c40 := bit40 (setF_ltG _ 40) hc
  rw [unF_bit c40, Bool.and_eq_true] at hc
  exact hc.1
def mkB (B : By) (R c : Nat) : Bool := R.testBit c && decide (bK B c = 2)
theorem marks0 {B : By} {R : Nat} : R &&& kindM B 2 = 0 ↔ (exF (mkB B R) 40 = false) := by
  rw [and_z]
  refine ⟨fun h => exF_no (fun c hc => ?_), fun h c hc => ?_⟩
  · unfold mkB
    cases q : R.testBit c with
    | false => rfl
    | true =>
      have := h c q
      unfold kindM at this
      rw [setF_bitG, decide_eq_true hc, Bool.true_and] at this
      rw [this]; rfl
  · unfold kindM
    rw [setF_bitG]
    by_cases c40 : c < 40
    · have := exF_f h c40
      unfold mkB at this
      rw [hc, Bool.true_and] at this
      rw [this, Bool.and_false]
    · rw [decide_eq_false c40]; rfl
def hidR (B : By) (G : Nat → Sc) (st R0 : Nat) : Nat → Nat
  | 0 => R0
  | t + 1 => unF B (G (t + 1)) st (spC B (hidR B G st R0 t) 40)
def hidF (B : By) (G : Nat → Sc) (st R0 t : Nat) : Option Int32 := if spC B (hidR B G st R0 (t - 1)) 40 &&& kindM B 2 = 0 then none else some (nI t)
theorem hidR_RI {B : By} (hB : ByB B) {G : Nat → Sc} {st R0 : Nat} (h : RI B R0) : ∀ t, RI B (hidR B G st R0 t) := by
  intro t
  induction t with
  | zero => exact h
  | succ t ih => exact unF_RI (spC_RI hB ih)
/-- a mark beyond a cell is a step nearer -/
theorem far_nb {B : By} {c w d x : Nat} (hk : bK B c = 0) (h1 : 1 ≤ w) (h4 : w ≤ 4) (hb : besF (bW B) (bH B) c w = some d) (hf : farF B d = some x) (hx : x < 40) : ∃ y, y ≤ x + 1 ∧ farF B c = some y := by
  have f1 : farUp B x d = some x := farUp_down (40 - x) (by rw [show x + (40 - x) = 40 by omega]; exact hf)
  have nt : nextTo B (farUp B x) c x = true := by
    unfold nextTo
    rw [List.any_eq_true]
    refine ⟨w, by simp; omega, ?_⟩
    rw [hb]
    simp [f1]
  cases hq : farUp B x c with
  | some y =>
    have := farUp_le _ hq
    have := farUp_mono hq (40 - x)
    rw [show x + (40 - x) = 40 by omega] at this
    exact ⟨y, by omega, this⟩
  | none =>
    have e := farUp_n hq
    rw [if_pos ⟨hk, nt⟩] at e
    have := farUp_mono e (40 - (x + 1))
    rw [show x + 1 + (40 - (x + 1)) = 40 by omega] at this
    exact ⟨x + 1, by omega, this⟩
theorem hid_far {B : By} (hB : ByB B) {G : Nat → Sc} {st R0 : Nat} (h0 : RI B R0) (hk : ∀ c, R0.testBit c = true → bK B c = 0 ∧ farF B c = none) : ∀ t, t ≤ 40 → ∀ c, (hidR B G st R0 t).testBit c = true → bK B c = 0 ∧ ∀ x, farF B c = some x → 40 < x + t := by
  intro t
  induction t with
  | zero =>
    intro _ c hc
    obtain ⟨a, b⟩ := hk c hc
    exact ⟨a, fun x hx => by rw [b] at hx; cases hx⟩
  | succ t ih =>
    intro ht c hc
    have RIt := hidR_RI hB (G := G) (st := st) h0 t
    have RI1 := spC_RI hB RIt
    have c40 := bit40 (hidR_RI hB (G := G) (st := st) h0 (t + 1)).1 hc
    have hc' : (spC B (hidR B G st R0 t) 40).testBit c = true := by
      have hc2 : (unF B (G (t + 1)) st (spC B (hidR B G st R0 t) 40)).testBit c = true := hc
      rw [unF_bit c40, Bool.and_eq_true] at hc2
      exact hc2.1
    have r1 := RI1.2 c hc'
    have k2 := hB.2.2.2.2.2.1 c c40
    rw [if_pos ⟨r1.1, r1.2.1⟩] at k2
    have main : ∀ x, farF B c = some x → x + (t + 1) ≤ 40 → False := by
      intro x hx hle
      rcases (spC_bit 40).mp hc' with q | ⟨c', w, -, b, g1, g2, g3, -⟩
      · have := (ih (by omega) c q).2 x hx
        omega
      · obtain ⟨i1, i2⟩ := ih (by omega) c' b
        obtain ⟨y, y1, y2⟩ := far_nb i1 g1 g2 g3 hx (by omega)
        have := i2 y y2
        omega
    refine ⟨?_, fun x hx => ?_⟩
    · rcases Nat.lt_or_ge (bK B c) 2 with q | q
      · have := r1.2.2; omega
      · exact absurd (main 0 (farF_mark (by omega)) (by omega)) id
    · rcases Nat.lt_or_ge 40 (x + (t + 1)) with q | q
      · exact q
      · exact absurd (main x hx q) id
theorem hid_no {B : By} (hB : ByB B) {G : Nat → Sc} {st R0 : Nat} (h0 : RI B R0) (hk : ∀ c, R0.testBit c = true → bK B c = 0 ∧ farF B c = none) {t : Nat} (h1 : 1 ≤ t) (h40 : t ≤ 40) : hidF B G st R0 t = none := by
  unfold hidF
  rw [if_pos]
  rw [marks0]
  refine exF_no (fun c hc => ?_)
  unfold mkB
  cases q : (spC B (hidR B G st R0 (t - 1)) 40).testBit c with
  | false => rfl
  | true =>
    rw [Bool.true_and]
    refine decide_eq_false (fun z => ?_)
    rcases (spC_bit 40).mp q with q | ⟨c', w, -, b, g1, g2, g3, -⟩
    · have := (hid_far hB h0 hk (t - 1) (by omega) c q).1
      omega
    · obtain ⟨i1, i2⟩ := hid_far hB h0 hk (t - 1) (by omega) c' b
      obtain ⟨y, y1, y2⟩ := far_nb i1 g1 g2 g3 (farF_mark z) (by omega)
      have := i2 y y2
      omega
theorem seekF_no {f : Nat → Option Int32} : ∀ n j, (∀ i, j ≤ i → i < j + n → f i = none) → seekF f n j = -2 := by
  intro n
  induction n with
  | zero => intro j _; rfl
  | succ n ih => intro j h; rw [seekF_n (h j (by omega) (by omega))]; exact ih (j + 1) (fun i a b => h i (by omega) (by omega))
theorem seekF_cg {f g : Nat → Option Int32} : ∀ n j, (∀ i, j ≤ i → i < j + n → f i = g i) → seekF f n j = seekF g n j := by
  intro n
  induction n with
  | zero => intro j _; rfl
  | succ n ih =>
    intro j h
    have e := h j (by omega) (by omega)
    have i := ih (j + 1) (fun i a b => h i (by omega) (by omega))
    cases hf : f j with
    | none => rw [seekF_n hf, seekF_n (by rw [← e]; exact hf), i]
    | some x => rw [seekF_s hf, seekF_s (by rw [← e]; exact hf)]
