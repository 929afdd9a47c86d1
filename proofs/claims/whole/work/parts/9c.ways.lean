/-! fried, sure: sums over sets against ways told one by one -/
def sumF (f : Nat → Nat) : Nat → Nat
  | 0 => 0
  | n + 1 => sumF f n + f n
theorem sumF_cg {f g : Nat → Nat} : ∀ n, (∀ k, k < n → f k = g k) → sumF f n = sumF g n := by
  intro n
  induction n with
  | zero => intro _; rfl
  | succ n ih => intro h; show sumF f n + f n = sumF g n + g n; rw [ih (fun k hk => h k (by omega)), h n (by omega)]
theorem sumF_add (f g : Nat → Nat) : ∀ n, sumF (fun k => f k + g k) n = sumF f n + sumF g n := by
  intro n
  induction n with
  | zero => rfl
  | succ n ih => show sumF (fun k => f k + g k) n + (f n + g n) = sumF f n + f n + (sumF g n + g n); rw [ih]; omega
theorem sumF_zero {f : Nat → Nat} : ∀ n, (∀ k, k < n → f k = 0) → sumF f n = 0 := by
  intro n
  induction n with
  | zero => intro _; rfl
  | succ n ih => intro h; show sumF f n + f n = 0; rw [ih (fun k hk => h k (by omega)), h n (by omega)]
theorem sumF_tail {f : Nat → Nat} {n : Nat} : ∀ m, n ≤ m → (∀ k, n ≤ k → k < m → f k = 0) → sumF f m = sumF f n := by
  intro m
  induction m with
  | zero => intro h _; have : n = 0 := by omega
            subst this; rfl
  | succ m ih =>
    intro h z
    rcases Nat.lt_or_ge m n with q | q
    · have : n = m + 1 := by omega
      subst this; rfl
    · show sumF f m + f m = sumF f n
      rw [ih q (fun k a b => z k a (by omega)), z m q (by omega)]; rfl
/-- in how many ways the first pans, as many as the set has, are of it -/
def dpF (al : Nat → Nat) : Nat → Nat → Nat
  | 0, _ => 1
  | j + 1, s => sumF (fun k => if s.testBit k = true ∧ (al j).testBit k = true then dpF al j (s ^^^ 2 ^ k) else 0) 6
def dpS (al : Nat → Nat) (s : Nat) : Nat := dpF al (popc s) s
def dpP (al : Nat → Nat) (t s : Nat) : Nat := (if s = 0 then 1 else 0) + sumF (fun k => if s.testBit k = true ∧ s ^^^ 2 ^ k < t ∧ (al (popc (s ^^^ 2 ^ k))).testBit k = true then dpS al (s ^^^ 2 ^ k) else 0) 6
theorem dx1 : ∀ s : Fin 64, ∀ k : Fin 6, s.1.testBit k.1 = true → popc (s.1 ^^^ 2 ^ k.1) + 1 = popc s.1 ∧ s.1 ^^^ 2 ^ k.1 < s.1 := by decide +kernel
theorem dx2 : ∀ s t : Fin 64, ∀ k : Fin 6, (s.1.testBit k.1 = true ∧ s.1 ^^^ 2 ^ k.1 = t.1) ↔ (t.1.testBit k.1 = false ∧ s.1 = t.1 ||| 2 ^ k.1) := by decide +kernel
theorem dx3 : ∀ s a : Fin 64, ∀ k : Fin 6, s.1.testBit k.1 = true → dfM s.1 a.1 = 0 → dfM a.1 (s.1 ^^^ 2 ^ k.1) = dfM a.1 s.1 ||| 2 ^ k.1 ∧ dfM (s.1 ^^^ 2 ^ k.1) a.1 = 0 := by decide +kernel
theorem dx4 : ∀ s : Fin 64, ¬ s.1 = 0 → 0 < popc s.1 := by decide +kernel
theorem dx5 : ∀ s : Fin 63, popc s.1 < 6 := by decide +kernel
theorem dx6 : ∀ n : Fin 7, popc (2 ^ n.1 - 1) = n.1 ∧ dfM (2 ^ n.1 - 1) (2 ^ n.1 - 1) = 0 := by decide +kernel
theorem dx7 : ∀ a : Fin 64, ∀ n : Fin 7, ∀ k : Fin 6, dfM a.1 (2 ^ n.1 - 1) = 0 → a.1.testBit k.1 = true → k.1 < n.1 := by decide +kernel
theorem dpP_self {al : Nat → Nat} {t s : Nat} (hs : s < 64) (h : s ≤ t) : dpP al t s = dpS al s := by
  unfold dpP dpS
  by_cases z : s = 0
  · subst z
    rw [if_pos rfl, sumF_zero 6 (fun k hk => by rw [if_neg (by rw [Nat.zero_testBit]; simp)])]
    rfl
  · rw [if_neg z, Nat.zero_add]
    have p := dx4 ⟨s, hs⟩ z
    simp only [] at p
    obtain ⟨j, hj⟩ : ∃ j, popc s = j + 1 := ⟨popc s - 1, by omega⟩
    rw [hj]
    show _ = sumF (fun k => if s.testBit k = true ∧ (al j).testBit k = true then dpF al j (s ^^^ 2 ^ k) else 0) 6
    refine sumF_cg 6 (fun k hk => ?_)
    cases hb : s.testBit k with
    | false => rw [if_neg (by simp), if_neg (by simp)]
    | true =>
      have x := dx1 ⟨s, hs⟩ ⟨k, hk⟩ hb
      simp only [] at x
      have e : popc (s ^^^ 2 ^ k) = j := by omega
      rw [e]
      by_cases a : (al j).testBit k = true
      · rw [if_pos ⟨rfl, by omega, a⟩, if_pos ⟨rfl, a⟩]
      · rw [if_neg (fun w => a w.2.2), if_neg (fun w => a w.2)]
def exS (al : Nat → Nat) (t s : Nat) : Nat → Nat := sumF (fun k => if t.testBit k = false ∧ (al (popc t)).testBit k = true ∧ s = t ||| 2 ^ k then dpS al t else 0)
theorem dpP_next {al : Nat → Nat} {t s : Nat} (hs : s < 64) (ht : t < 64) : dpP al (t + 1) s = dpP al t s + exS al t s 6 := by
  unfold dpP exS
  rw [Nat.add_assoc, ← sumF_add]
  congr 1
  refine sumF_cg 6 (fun k hk => ?_)
  have x2 := dx2 ⟨s, hs⟩ ⟨t, ht⟩ ⟨k, hk⟩
  simp only [] at x2
  cases hb : s.testBit k with
  | false =>
    rw [if_neg (by simp), if_neg (by simp), if_neg (fun w => by have := (x2.mpr ⟨w.1, w.2.2⟩).1; rw [hb] at this; exact absurd this (by decide))]
  | true =>
    by_cases e : s ^^^ 2 ^ k = t
    · have y := x2.mp ⟨hb, e⟩
      rw [e]
      by_cases a : (al (popc t)).testBit k = true
      · rw [if_pos ⟨rfl, by omega, a⟩, if_neg (by omega), if_pos ⟨y.1, a, y.2⟩, Nat.zero_add]
      · rw [if_neg (fun w => a w.2.2), if_neg (fun w => a w.2.2), if_neg (fun w => a w.2.1)]
    · have n : ¬ (t.testBit k = false ∧ (al (popc t)).testBit k = true ∧ s = t ||| 2 ^ k) := fun w => e (x2.mpr ⟨w.1, w.2.2⟩).2
      rw [if_neg n, Nat.add_zero]
      by_cases a : (al (popc (s ^^^ 2 ^ k))).testBit k = true
      · by_cases l : s ^^^ 2 ^ k < t
        · rw [if_pos ⟨rfl, by omega, a⟩, if_pos ⟨rfl, l, a⟩]; rfl
        · rw [if_neg (by omega), if_neg (by omega)]
      · rw [if_neg (fun w => a w.2.2), if_neg (fun w => a w.2.2)]
theorem dx8 : ∀ t : Fin 64, ∀ k : Fin 6, t.1.testBit k.1 = false → ¬ t.1 = t.1 ||| 2 ^ k.1 := by decide +kernel
theorem exS_self {al : Nat → Nat} {t : Nat} (ht : t < 64) : ∀ j, j ≤ 6 → exS al t t j = 0 := fun j hj => sumF_zero j (fun k hk => by
  rw [if_neg (fun w => ?_)]
  exact dx8 ⟨t, ht⟩ ⟨k, by omega⟩ w.1 w.2.2)
/-- the ways by what is used -/
def cnS (al : Nat → Nat) : Nat → Nat → Nat
  | 0, _ => 1
  | p + 1, u => sumF (fun a => if (al p).testBit a = true ∧ u.testBit a = false then cnS al p (u ||| 2 ^ a) else 0) 6
theorem dp_cn {al : Nat → Nat} {all : Nat} (hall : all < 64) (hal : ∀ p, p < 6 → al p < 64 ∧ dfM (al p) all = 0) : ∀ j, j ≤ 6 → ∀ s, s < 64 → dfM s all = 0 → popc s = j → dpF al j s = cnS al j (dfM all s) := by
  intro j
  induction j with
  | zero => intro _ s _ _ _; rfl
  | succ j ih =>
    intro hj s hs hd hp
    show sumF (fun k => if s.testBit k = true ∧ (al j).testBit k = true then dpF al j (s ^^^ 2 ^ k) else 0) 6 = sumF (fun a => if (al j).testBit a = true ∧ (dfM all s).testBit a = false then cnS al j (dfM all s ||| 2 ^ a) else 0) 6
    refine sumF_cg 6 (fun k hk => ?_)
    by_cases a : (al j).testBit k = true
    · have ab : all.testBit k = true := by
        have d := df_bit (hal j (by omega)).1 hall hk
        rw [(hal j (by omega)).2, Nat.zero_testBit, a, Bool.true_and] at d
        cases q : all.testBit k with
        | true => rfl
        | false => rw [q] at d; exact absurd d (by decide)
      have d2 := df_bit hall hs hk
      rw [ab, Bool.true_and] at d2
      cases hb : s.testBit k with
      | true =>
        have x := dx3 ⟨s, hs⟩ ⟨all, hall⟩ ⟨k, hk⟩ hb hd
        have y := dx1 ⟨s, hs⟩ ⟨k, hk⟩ hb
        simp only [] at x y
        rw [hb] at d2
        rw [if_pos ⟨rfl, a⟩, if_pos ⟨a, d2⟩, ih (by omega) _ (by omega) x.2 (by omega), x.1]
      | false =>
        rw [hb] at d2
        rw [if_neg (by simp), if_neg (fun w => by rw [d2] at w; exact absurd w.2 (by decide))]
    · rw [if_neg (fun w => a w.2), if_neg (fun w => a w.1)]
/-- a way told by a number: each pan's boat, the last one's first -/
def iwB (al : Nat → Nat) : Nat → Nat → Nat → Bool
  | 0, _, _ => true
  | p + 1, w, u => ((al p).testBit (w % 6) && !u.testBit (w % 6)) && iwB al p (w / 6) (u ||| 2 ^ (w % 6))
theorem cnt6 (f : Nat → Bool) : ∀ N, cntF f (6 * N) = sumF (fun a => cntF (fun w => f (6 * w + a)) N) 6 := by
  intro N
  induction N with
  | zero => rfl
  | succ N ih =>
    rw [show 6 * (N + 1) = 6 * N + 6 by omega, cntF_add, ih]
    have e : ∀ a, cntF (fun w => f (6 * w + a)) (N + 1) = cntF (fun w => f (6 * w + a)) N + (if f (6 * N + a) = true then 1 else 0) := by
      intro a
      show (if f (6 * N + a) = true then cntF (fun w => f (6 * w + a)) N + 1 else cntF (fun w => f (6 * w + a)) N) = _
      split <;> rfl
    have e2 : sumF (fun a => cntF (fun w => f (6 * w + a)) (N + 1)) 6 = sumF (fun a => cntF (fun w => f (6 * w + a)) N + (if f (6 * N + a) = true then 1 else 0)) 6 := sumF_cg 6 (fun a _ => e a)
    rw [e2, sumF_add]
    congr 1
    have e3 : ∀ n, cntF (fun i => f (6 * N + i)) n = sumF (fun a => if f (6 * N + a) = true then 1 else 0) n := by
      intro n
      induction n with
      | zero => rfl
      | succ n ih =>
        show (if f (6 * N + n) = true then cntF (fun i => f (6 * N + i)) n + 1 else cntF (fun i => f (6 * N + i)) n) = sumF (fun a => if f (6 * N + a) = true then 1 else 0) n + (if f (6 * N + n) = true then 1 else 0)
        rw [ih]
        split <;> rfl
    exact e3 6
theorem cntF_none {p : Nat → Bool} : ∀ n, (∀ c, c < n → p c = false) → cntF p n = 0 := by
  intro n
  induction n with
  | zero => intro _; rfl
  | succ n ih => intro h; unfold cntF; rw [if_neg (by rw [h n (by omega)]; decide)]; exact ih (fun c hc => h c (by omega))
theorem iw_cn {al : Nat → Nat} : ∀ p u, cntF (fun w => iwB al p w u) (6 ^ p) = cnS al p u := by
  intro p
  induction p with
  | zero => intro u; rfl
  | succ p ih =>
    intro u
    rw [Nat.pow_succ, Nat.mul_comm, cnt6]
    show _ = sumF (fun a => if (al p).testBit a = true ∧ u.testBit a = false then cnS al p (u ||| 2 ^ a) else 0) 6
    refine sumF_cg 6 (fun a ha => ?_)
    have e : ∀ w, iwB al (p + 1) (6 * w + a) u = (((al p).testBit a && !u.testBit a) && iwB al p w (u ||| 2 ^ a)) := by
      intro w
      show (((al p).testBit ((6 * w + a) % 6) && !u.testBit ((6 * w + a) % 6)) && iwB al p ((6 * w + a) / 6) (u ||| 2 ^ ((6 * w + a) % 6))) = _
      rw [show (6 * w + a) % 6 = a by omega, show (6 * w + a) / 6 = w by omega]
    by_cases c : (al p).testBit a = true ∧ u.testBit a = false
    · rw [if_pos c, ← ih]
      refine cntF_cg _ (fun w _ => ?_)
      rw [e, c.1, c.2]; rfl
    · rw [if_neg c]
      refine cntF_none _ (fun w _ => ?_)
      rw [e]
      cases h1 : (al p).testBit a with
      | false => rfl
      | true =>
        cases h2 : u.testBit a with
        | true => rfl
        | false => exact absurd ⟨h1, h2⟩ c
def wysN (al : Nat → Nat) (n : Nat) : Nat := cntF (fun w => iwB al n w 0) (6 ^ n)
theorem dp_all {al : Nat → Nat} {n : Nat} (hn : n ≤ 6) (hal : ∀ p, p < 6 → al p < 64 ∧ dfM (al p) (2 ^ n - 1) = 0) : dpS al (2 ^ n - 1) = wysN al n := by
  have x := dx6 ⟨n, by omega⟩
  simp only [] at x
  have l := (ab1 ⟨n, by omega⟩).2
  simp only [] at l
  unfold dpS wysN
  rw [x.1, iw_cn, dp_cn l hal n hn _ l x.2 x.1, x.2]
/-- which boat a way gives a pan -/
def dig (n pan w : Nat) : Nat := w / 6 ^ (n - 1 - pan) % 6
theorem dig_step {p pan w : Nat} (h : pan < p) : dig (p + 1) pan w = dig p pan (w / 6) := by
  unfold dig
  rw [show p + 1 - 1 - pan = (p - 1 - pan) + 1 by omega, Nat.pow_succ, Nat.mul_comm, Nat.div_div_eq_div_mul]
def alK (al : Nat → Nat) (pan k p : Nat) : Nat := if p = pan then al pan &&& 2 ^ k else al p
theorem iw_alK {al : Nat → Nat} {pan k : Nat} : ∀ p w u, iwB (alK al pan k) p w u = (iwB al p w u && (decide (¬ pan < p) || decide (dig p pan w = k))) := by
  intro p
  induction p with
  | zero => intro w u; rw [decide_eq_true (by omega)]; rfl
  | succ p ih =>
    intro w u
    show (((alK al pan k p).testBit (w % 6) && !u.testBit (w % 6)) && iwB (alK al pan k) p (w / 6) (u ||| 2 ^ (w % 6))) = ((((al p).testBit (w % 6) && !u.testBit (w % 6)) && iwB al p (w / 6) (u ||| 2 ^ (w % 6))) && (decide (¬ pan < p + 1) || decide (dig (p + 1) pan w = k)))
    rw [ih]
    unfold alK
    by_cases e : p = pan
    · subst e
      have e0 : dig (p + 1) p w = w % 6 := by unfold dig; rw [show p + 1 - 1 - p = 0 by omega, Nat.pow_zero, Nat.div_one]
      rw [if_pos rfl, decide_eq_true (show ¬ p < p by omega), decide_eq_false (show ¬ ¬ p < p + 1 by omega), e0, Nat.testBit_and, Nat.testBit_two_pow, Bool.true_or, Bool.and_true, Bool.false_or]
      have : decide (k = w % 6) = decide (w % 6 = k) := by by_cases z : k = w % 6; rw [decide_eq_true z, decide_eq_true z.symm]; rw [decide_eq_false z, decide_eq_false (fun y => z y.symm)]
      rw [this]
      cases (al p).testBit (w % 6) <;> cases u.testBit (w % 6) <;> cases iwB al p (w / 6) (u ||| 2 ^ (w % 6)) <;> cases decide (w % 6 = k) <;> rfl
    · rw [if_neg e]
      rcases Nat.lt_or_ge pan p with z | z
      · rw [decide_eq_false (show ¬ ¬ pan < p by omega), decide_eq_false (show ¬ ¬ pan < p + 1 by omega), dig_step z, Bool.and_assoc, Bool.and_assoc, Bool.and_assoc]
      · rw [decide_eq_true (show ¬ pan < p by omega), decide_eq_true (show ¬ pan < p + 1 by omega), Bool.true_or, Bool.true_or, Bool.and_true, Bool.and_true]
theorem iw_dig {al : Nat → Nat} {pan : Nat} : ∀ p w u, iwB al p w u = true → pan < p → (al pan).testBit (dig p pan w) = true := by
  intro p
  induction p with
  | zero => intro w u _ h; omega
  | succ p ih =>
    intro w u h hp
    have h' : (((al p).testBit (w % 6) && !u.testBit (w % 6)) && iwB al p (w / 6) (u ||| 2 ^ (w % 6))) = true := h
    rw [Bool.and_eq_true, Bool.and_eq_true] at h'
    rcases Nat.lt_or_ge pan p with z | z
    · rw [dig_step z]; exact ih _ _ h'.2 z
    · have : pan = p := by omega
      subst this
      have e0 : dig (pan + 1) pan w = w % 6 := by unfold dig; rw [show pan + 1 - 1 - pan = 0 by omega, Nat.pow_zero, Nat.div_one]
      rw [e0]; exact h'.1.1
theorem wys_alK {al : Nat → Nat} {n pan k : Nat} (hp : pan < n) : wysN (alK al pan k) n = cntF (fun w => iwB al n w 0 && decide (dig n pan w = k)) (6 ^ n) := by
  unfold wysN
  refine cntF_cg _ (fun w _ => ?_)
  rw [iw_alK, decide_eq_false (show ¬ ¬ pan < n by omega), Bool.false_or]
/-- SURE -/
def sureF (al : Nat → Nat) (n pan k : Nat) : Option Int32 := if 0 < wysN al n ∧ wysN (alK al pan k) n = wysN al n then some (nI k) else none
theorem sure_eq {al : Nat → Nat} {n pan k : Nat} (hp : pan < n) (h : wysN (alK al pan k) n = wysN al n) : ∀ w, w < 6 ^ n → iwB al n w 0 = true → dig n pan w = k := by
  rw [wys_alK hp] at h
  unfold wysN at h
  intro w hw hi
  have := cntF_same (6 ^ n) (fun c _ z => by rw [Bool.and_eq_true] at z; exact z.1) h w hw
  rw [hi, Bool.true_and, decide_eq_true_iff] at this
  exact this
theorem cntF_one {p : Nat → Bool} {c : Nat} : ∀ n, c < n → p c = true → 0 < cntF p n := by
  intro n
  induction n with
  | zero => intro h; omega
  | succ n ih =>
    intro h hp
    unfold cntF
    rcases Nat.lt_or_ge c n with z | z
    · have := ih z hp; split <;> omega
    · have : c = n := by omega
      subst this; rw [if_pos hp]; omega
theorem seekF_at {f : Nat → Option Int32} {x : Int32} : ∀ n j a, j ≤ a → a < j + n → f a = some x → (∀ i, j ≤ i → i < a → f i = none) → seekF f n j = x := by
  intro n
  induction n with
  | zero => intro j a h1 h2; omega
  | succ n ih =>
    intro j a h1 h2 hf h0
    rcases Nat.eq_or_lt_of_le h1 with z | z
    · subst z; exact seekF_s hf
    · rw [seekF_n (h0 j (Nat.le_refl _) z)]
      exact ih (j + 1) a z (by omega) hf (fun i a b => h0 i (by omega) b)
theorem sure_none {al : Nat → Nat} {n pan : Nat} (h : ∀ w, w < 6 ^ n → iwB al n w 0 = false) : seekF (sureF al n pan) n 0 = -2 := by
  refine seekF_no n 0 (fun i _ _ => ?_)
  unfold sureF
  have z : wysN al n = 0 := cntF_none _ h
  rw [if_neg (by omega)]
theorem sure_two {al : Nat → Nat} {n pan w1 w2 : Nat} (hp : pan < n) (h1 : w1 < 6 ^ n) (h2 : w2 < 6 ^ n) (i1 : iwB al n w1 0 = true) (i2 : iwB al n w2 0 = true) (hd : ¬ dig n pan w1 = dig n pan w2) : seekF (sureF al n pan) n 0 = -2 := by
  refine seekF_no n 0 (fun i _ _ => ?_)
  unfold sureF
  rw [if_neg (fun w => hd ((sure_eq hp w.2 w1 h1 i1).trans (sure_eq hp w.2 w2 h2 i2).symm))]
theorem sure_one {al : Nat → Nat} {n pan w : Nat} (hn : n ≤ 6) (hal : ∀ p, p < 6 → al p < 64 ∧ dfM (al p) (2 ^ n - 1) = 0) (hp : pan < n) (hw : w < 6 ^ n) (i : iwB al n w 0 = true) (h : ∀ v, v < 6 ^ n → iwB al n v 0 = true → dig n pan v = dig n pan w) : seekF (sureF al n pan) n 0 = nI (dig n pan w) := by
  have d6 : dig n pan w < 6 := Nat.mod_lt _ (by omega)
  have dn : dig n pan w < n := dx7 ⟨al pan, (hal pan (by omega)).1⟩ ⟨n, by omega⟩ ⟨_, d6⟩ (hal pan (by omega)).2 (iw_dig n w 0 i hp)
  have pos : 0 < wysN al n := cntF_one _ hw i
  refine seekF_at n 0 (dig n pan w) (Nat.zero_le _) (by omega) ?_ (fun k _ hk => ?_)
  · have e : wysN (alK al pan (dig n pan w)) n = wysN al n := by
      rw [wys_alK hp]
      unfold wysN
      refine cntF_cg _ (fun v hv => ?_)
      cases q : iwB al n v 0 with
      | false => rfl
      | true => rw [h v hv q, decide_eq_true rfl]; rfl
    unfold sureF
    rw [if_pos ⟨pos, e⟩]
  · unfold sureF
    rw [if_neg (fun z => ?_)]
    have := sure_eq hp z.2 w hw i
    omega
