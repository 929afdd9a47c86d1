/-! out: the class's side -/
/-- how far a boat is to the east -/
def farI (S : Sc) (k : Nat) : Int32 := if (sO S).testBit k = true then 100 else if (sL S).testBit k = true then -1 else nI (sC S k % 8)
/-- the pans of a set are put out -/
def pnoS (st : Nat) (S : Sc) : Sc := (sH S, dfM (sP S) st, sL S, sO S, sC S, sA S, sY S)
def outS (B : By) (S : Sc) (n st : Nat) : Sc := hoursS B (nI (bSe B)) n (pnoS st S)
theorem df_lt {a b : Nat} (ha : a < 64) : dfM a b < 64 := and_lt64 ha
theorem df_bit {a b k : Nat} (ha : a < 64) (hb : b < 64) (hk : k < 6) : (dfM a b).testBit k = (a.testBit k && !b.testBit k) := df2 ⟨a, ha⟩ ⟨b, hb⟩ ⟨k, hk⟩
theorem df_i {a b : Nat} (ha : a < 64) (hb : b < 64) : (nI a &&& (nI b ^^^ (-1))) = nI (dfM a b) := (df1 ⟨a, ha⟩ ⟨b, hb⟩).1
theorem pnoS_I {B : By} {T st : Nat} {S : Sc} (hB : ByB B) (hs : st < 64) (h : SI B T S) : SI B T (pnoS st S) := by
  obtain ⟨⟨b1, b2, b3, b4, b5, b6⟩, h2, h3, h4, h5, h6, h7⟩ := h
  refine ⟨⟨b1, df_lt b2, b3, b4, b5, b6⟩, h2, h3, h4, fun k k1 k2 => ⟨?_, (h5 k k1 k2).2⟩, h6, h7⟩
  show (dfM (sP S) st).testBit k = false
  rw [df_bit b2 hs k2, (h5 k k1 k2).1]; rfl
theorem outS_I {B : By} {T n st : Nat} {S : Sc} (hB : ByB B) (hs : st < 64) (hn : T + n ≤ 1000000) (h : SI B T S) : SI B (T + n) (outS B S n st) := hoursS_I hB (pnoS_I hB hs h) n hn
theorem P_howFar {r : TR} {h : TH} {q k : Nat} {S : Sc} {Q : Int32 → TH → Prop} (r1 : r (q + 188) 1 = q + 190) (hrs : RSc r (q + 190)) (hS : ScOK h (q + 190) S) (hSB : ScB S) (hk : k < 6) (hQ : Q (farI S k) h) : D_Outs_howFar r (q + 188) (nI k) h Q := by
  unfold D_Outs_howFar
  rw [r1]
  unfold farI at hQ
  refine P_isHome hS hSB hk (fun z => ⟨fun y => absurd y z01, fun _ => ?_⟩) (fun z => ⟨fun _ => ?_, fun y => absurd rfl y⟩)
  · rw [if_pos z] at hQ; exact hQ
  · rw [if_neg (by rw [z]; decide)] at hQ
    refine P_isLost hS hSB hk (fun w => ⟨fun y => absurd y z01, fun _ => ?_⟩) (fun w => ⟨fun _ => ?_, fun y => absurd rfl y⟩)
    · rw [if_pos w] at hQ; exact hQ
    · rw [if_neg (by rw [w]; decide)] at hQ
      refine P_eastOf hrs hS hSB hk ?_
      unfold eastI
      rw [if_neg (by rw [w]; decide)]
      exact hQ
theorem ScOK.pan {h : TH} {s st : Nat} {S : Sc} (hS : ScOK h s S) (hP : sP S < 64) (hst : st < 64) : ScOK (pI h s 1 ((h.1 s 1) &&& (nI st ^^^ (-1)))) s (pnoS st S) := by
  obtain ⟨h1, h2, h3, h4, h5, h6, h7⟩ := hS
  refine ⟨?_, ?_, ?_, ?_, fun k hk => ?_, fun k hk => ?_, fun k hk => ?_⟩
  · rw [pI_n _ _ _ _ (by omega)]; exact h1
  · rw [pI_s, h2, df_i hP hst]; rfl
  · rw [pI_n _ _ _ _ (by omega)]; exact h3
  · rw [pI_n _ _ _ _ (by omega)]; exact h4
  · rw [pI_o _ _ _ _ (by omega)]; exact h5 k hk
  · rw [pI_o _ _ _ _ (by omega)]; exact h6 k hk
  · rw [pI_o _ _ _ _ (by omega)]; exact h7 k hk
theorem P_sail {r : TR} {q b d T n st : Nat} {h : TH} {A : St} {Q : TH → Prop} (hR : RX r q b d) (hA : AI T A) (hx : AX h q b d A) (hn : n ≤ 24) (hst : st < 64) (hQ : ∀ h', Fr (fun a => FBa b a ∨ (q + 189 ≤ a ∧ a < q + 194)) h h' → BScr b h h' → (∀ k, k < bN (tB A) → h'.1 (q + 189) (6 * st + k) = farI (outS (tB A) (tS A) n st) k) → (∀ j, (j < 6 * st ∨ 6 * st + 6 ≤ j) → h'.1 (q + 189) j = h.1 (q + 189) j) → Q h') : D_Outs_sail r (q + 188) b (q + 52) (nI n) (nI st) h Q := by
  have hB := hA.1
  have hn6 := hB.2.2.1
  obtain ⟨⟨r0, r1, r2, r3, r4, r5, r7, r8, r9⟩, -, ⟨s1, s2, s3⟩, -, -, -, ⟨o0, o1⟩, rb, -, ap⟩ := id hR
  have hb : q + 3 ≤ b ∧ b + 23 ≤ q + 52 := by rcases ap with x | x <;> omega
  have hap : apart b (q + 190) := by unfold apart; omega
  have hT := hA.2.2.2.2.2.2.2.2
  have SI0 := pnoS_I hB hst hA.2.1
  unfold D_Outs_sail
  rw [o1]
  refine P_copyFrom s3 s1 hx.2.2.2.1 (by omega) (fun h2 f2 S2 h5 e5 => ?_)
  have S5 : ScOK h5 (q + 190) (pnoS st (tS A)) := by rw [e5]; exact S2.pan hA.2.1.1.2.1 hst
  have f5 : Fr (fun a => FBa b a ∨ (q + 189 ≤ a ∧ a < q + 194)) h h5 := by
    rw [e5]
    exact (f2.mono (fun a ha => by unfold FSc at ha; omega)).tr (Fr.pI (Or.inr (by omega)))
  have n5 : h5.1 (q + 189) = h.1 (q + 189) := by rw [e5, pI_o _ _ _ _ (by omega)]; exact (f2 _ (by unfold FSc; omega)).1
  have t5 : BScr b h h5 := BScr.out (fun a x y => by rw [e5, pI_o _ _ _ _ (by omega)]; exact (f2 a (by unfold FSc; omega)).1)
  refine lp_for n (fun j t => ∃ h', t = (nI j, h') ∧ Fr (fun a => FBa b a ∨ (q + 189 ≤ a ∧ a < q + 194)) h h' ∧ BScr b h h' ∧ ScOK h' (q + 190) (outS (tB A) (tS A) j st) ∧ h'.1 (q + 189) = h.1 (q + 189)) ?_ ?_ _ ⟨h5, rfl, f5, t5, S5, n5⟩
  · rintro j t K hj ⟨h', rfl, f', t', S', n'⟩ hK
    have Ij := outS_I (n := j) hB hst (by omega) hA.2.1
    unfold DB_Outs_sail_27
    rw [o1]
    refine ⟨fun z => absurd ((nI_leI (by omega) (by omega)).mp z) (by omega), fun _ => ?_⟩
    have O' := hx.1.scr t'
    rw [O'.2.2.2.2.1]
    refine P_passHour (seed := nI (bSe (tB A))) rb s3 O' hB S' Ij.1 hap (by have := Ij.2.2.2.1; omega) (fun h8 f8 t8 S8 x11 e11 => ?_)
    rw [nI_1] at e11; subst e11
    refine hK _ ⟨h8, rfl, f'.tr (f8.mono (fun a ha => ?_)), t'.tr t8, S8, ?_⟩
    · unfold FHo at ha; rcases ha with z | z
      · exact Or.inl z
      · exact Or.inr (by omega)
    · rw [(f8 _ (by unfold FHo FBa; omega)).1]; exact n'
  · rintro t K ⟨h', rfl, f', t', S', n'⟩
    have In := outS_I (n := n) hB hst (by omega) hA.2.1
    unfold DB_Outs_sail_27
    refine ⟨fun _ => ?_, fun z => absurd (Int32.le_refl _) z⟩
    refine lp_for (bN (tB A)) (fun j t => ∃ h2, t = (nI j, h2) ∧ Fr (fun a => a = q + 189) h' h2 ∧ (∀ k, k < j → h2.1 (q + 189) (6 * st + k) = farI (outS (tB A) (tS A) n st) k) ∧ ∀ i, (i < 6 * st ∨ 6 * st + 6 ≤ i) → h2.1 (q + 189) i = h.1 (q + 189) i) ?_ ?_ _ ⟨h', rfl, Fr.rf, fun k hk => by omega, fun i _ => by rw [n']⟩
    · rintro j t K hj ⟨h2, rfl, f2, g2, k2⟩ hK
      have S2 : ScOK h2 (q + 190) (outS (tB A) (tS A) n st) := S'.fr (fun a x y => (f2 a (by omega)).1)
      unfold DB_Outs_sail_54
      rw [show h2.1 b 2 = nI (bN (tB A)) by rw [(f2 b (by omega)).1]; exact (hx.1.scr t').2.2.1, o0]
      refine ⟨fun z => absurd ((nI_leI (by omega) (by omega)).mp z) (by omega), fun _ => ?_⟩
      refine P_howFar o1 s3 S2 In.1 (by omega) ?_
      have ei : (6 : Int32) * nI st + nI j = nI (6 * st + j) := by show nI 6 * nI st + nI j = _; rw [pk_mul, nI_add]
      rw [ei, nI_clamp (n := 6 * st + j) (by omega)]
      refine ⟨vp_in_nI (by omega) (by omega), fun h3 e3 x21 e21 => ?_⟩
      rw [nI_1] at e21; subst e21
      refine hK _ ⟨h3, rfl, f2.tr (by rw [e3]; exact Fr.pI rfl), fun k hk => ?_, fun i hi => ?_⟩
      · rw [e3]
        by_cases e : k = j
        · subst e; rw [pI_s]
        · rw [pI_n _ _ _ _ (by omega)]; exact g2 k (by omega)
      · rw [e3, pI_n _ _ _ _ (by omega)]; exact k2 i hi
    · rintro t K ⟨h2, rfl, f2, g2, k2⟩
      unfold DB_Outs_sail_54
      rw [show h2.1 b 2 = nI (bN (tB A)) by rw [(f2 b (by omega)).1]; exact (hx.1.scr t').2.2.1]
      refine ⟨fun _ => hQ h2 (f'.tr (f2.mono (fun a ha => Or.inr (by omega)))) (t'.tr (BScr.out (fun a x y => (f2 a (by omega)).1))) g2 k2, fun z => absurd (Int32.le_refl _) z⟩
/-- a set of boats that rests -/
def xrS (st k : Nat) : Nat := st ^^^ 2 ^ k
theorem xr1 : ∀ s : Fin 64, ∀ k : Fin 6, (nI s.1 ^^^ ((1 : Int32) <<< (nI k.1 &&& 31))) = nI (xrS s.1 k.1) ∧ xrS s.1 k.1 < 64 := by decide +kernel
theorem xr2 : ∀ s a : Fin 64, ∀ k : Fin 6, dfM s.1 a.1 = 0 → a.1.testBit k.1 = true → dfM (xrS s.1 k.1) a.1 = 0 := by decide +kernel
theorem sub_le : ∀ s a : Fin 64, dfM s.1 a.1 = 0 → s.1 ≤ a.1 := by decide +kernel
def unrest (B : By) (S : Sc) (n st k : Nat) : Bool := (sP S).testBit k && decide (¬ farI (outS B S n (xrS st k)) k ≤ farI (outS B S n st) k)
def restP (B : By) (S : Sc) (n st : Nat) : Bool := decide (dfM st (sP S) = 0) && !exF (unrest B S n st) (bN B)
theorem exF_tail {p : Nat → Bool} {n m : Nat} (hnm : n ≤ m) (h : ∀ k, n ≤ k → k < m → p k = false) : exF p m = exF p n := by
  cases q : exF p n with
  | true => obtain ⟨j, a, b⟩ := exF_x n q; exact exF_t b m (by omega)
  | false =>
    refine exF_no (fun j hj => ?_)
    rcases Nat.lt_or_ge j n with z | z
    · exact exF_f q z
    · exact h j z hj
theorem P_isRest {r : TR} {q T n st : Nat} {h : TH} {A : St} {Q : Int32 → TH → Prop} (o0 : r (q + 188) 0 = q + 189) (hA : AI T A) (hst : st < 64) (hd : dfM st (sP (tS A)) = 0) (hg : ∀ i, i < 64 → dfM i (sP (tS A)) = 0 → ∀ k, k < bN (tB A) → h.1 (q + 189) (6 * i + k) = farI (outS (tB A) (tS A) n i) k) (h1 : restP (tB A) (tS A) n st = true → Q 1 h) (h0 : restP (tB A) (tS A) n st = false → Q 0 h) : D_Outs_isRest r (q + 188) (nI (sP (tS A))) (nI st) h Q := by
  have hB := hA.1
  have hn6 := hB.2.2.1
  have hP := hA.2.1.1.2.1
  have pf : ∀ k, bN (tB A) ≤ k → k < 6 → unrest (tB A) (tS A) n st k = false := fun k a b => by unfold unrest; rw [(hA.2.1.2.2.2.2.1 k a b).1]; rfl
  unfold D_Outs_isRest
  refine lp_for 6 (fun j t => t = (nI j, h) ∧ exF (unrest (tB A) (tS A) n st) j = false) ?_ ?_ _ ⟨rfl, rfl⟩
  · rintro j t K hj ⟨rfl, ex⟩ hK
    have nx : unrest (tB A) (tS A) n st j = false → ∀ y : Int32, y = nI j + 1 → K (y, h) := by
      intro z y ey
      rw [nI_1] at ey; subst ey
      refine hK _ ⟨rfl, ?_⟩
      show (exF (unrest (tB A) (tS A) n st) j || unrest (tB A) (tS A) n st j) = false
      rw [ex, z]; rfl
    unfold DB_Outs_isRest_2
    refine ⟨fun z => absurd ((nI_leI (a := 6) (by omega) (by omega)).mp z) (by omega), fun _ x3 e3 => ⟨fun y => ?_, fun y => ?_⟩⟩
    · unfold DJ_Outs_isRest_29
      refine ⟨fun _ => nx ?_, fun z => absurd rfl z⟩
      unfold unrest
      have : (sP (tS A)).testBit j = false := bf_of (fun z => y ((bt_1 hP hj).mpr z))
      rw [this]; rfl
    · have hb := (bt_1 hP hj).mp y
      have hjn : j < bN (tB A) := by
        rcases Nat.lt_or_ge j (bN (tB A)) with z | z
        · exact z
        · rw [(hA.2.1.2.2.2.2.1 j z hj).1] at hb; exact absurd hb (by decide)
      have x1 := xr1 ⟨st, hst⟩ ⟨j, hj⟩
      simp only [] at x1
      have x2 := xr2 ⟨st, hst⟩ ⟨_, hP⟩ ⟨j, hj⟩ hd hb
      simp only [] at x2
      rw [x1.1] at e3
      subst e3
      unfold DJ_Outs_isRest_29
      refine ⟨fun z => absurd z z01, fun _ i9 e9 => ?_⟩
      have e9' : i9 = nI (6 * xrS st j + j) := by rw [e9]; show nI 6 * nI (xrS st j) + nI j = _; rw [pk_mul, nI_add]
      subst e9'
      refine ⟨vp_in_nI (by omega) (by omega), fun i11 e11 => ?_⟩
      have e11' : i11 = nI (6 * st + j) := by rw [e11]; show nI 6 * nI st + nI j = _; rw [pk_mul, nI_add]
      subst e11'
      rw [o0, nI_clamp (n := 6 * xrS st j + j) (by omega), nI_clamp (n := 6 * st + j) (by omega), hg _ x1.2 x2 j hjn, hg st hst hd j hjn]
      refine ⟨vp_in_nI (by omega) (by omega), fun z => nx ?_, fun z => h0 ?_⟩
      · unfold unrest; rw [decide_eq_false (fun w => w z), Bool.and_false]
      · unfold restP
        have : unrest (tB A) (tS A) n st j = true := by unfold unrest; rw [hb, decide_eq_true z]; rfl
        rw [exF_t this _ hjn, Bool.not_true, Bool.and_false]
  · rintro t K ⟨rfl, ex⟩
    unfold DB_Outs_isRest_2
    refine ⟨fun _ => h1 ?_, fun z => absurd (show (6 : Int32) ≤ nI 6 from Int32.le_refl _) z⟩
    unfold restP
    rw [decide_eq_true hd, ← exF_tail hn6 pf, ex]; rfl
/-- the i-th that is so, or how many -/
def nthF (p : Nat → Bool) (i : Int32) : Nat → Nat → Nat → Int32
  | 0, _, f => if i = -1 then nI f else -1
  | m + 1, s, f => if p s = true then (if nI f = i then nI s else nthF p i m (s + 1) (f + 1)) else nthF p i m (s + 1) f
theorem nthF_no {p : Nat → Bool} {i : Int32} {m s f : Nat} (h : p s = false) : nthF p i (m + 1) s f = nthF p i m (s + 1) f := by conv => lhs; unfold nthF; rw [if_neg (by rw [h]; decide)]
theorem nthF_hit {p : Nat → Bool} {i : Int32} {m s f : Nat} (h : p s = true) (e : nI f = i) : nthF p i (m + 1) s f = nI s := by conv => lhs; unfold nthF; rw [if_pos h, if_pos e]
theorem nthF_on {p : Nat → Bool} {i : Int32} {m s f : Nat} (h : p s = true) (e : ¬ nI f = i) : nthF p i (m + 1) s f = nthF p i m (s + 1) (f + 1) := by conv => lhs; unfold nthF; rw [if_pos h, if_neg e]
theorem nthF_end {p : Nat → Bool} {i : Int32} : ∀ k s f, (∀ j, s ≤ j → j < s + k → p j = false) → nthF p i k s f = nthF p i 0 s f := by
  intro k
  induction k with
  | zero => intro s f _; rfl
  | succ k ih => intro s f h; rw [nthF_no (h s (by omega) (by omega)), ih (s + 1) f (fun j a b => h j (by omega) (by omega))]; rfl
theorem nthF_tail {p : Nat → Bool} {i : Int32} {k : Nat} : ∀ m s f, (∀ j, s + m ≤ j → j < s + m + k → p j = false) → nthF p i (m + k) s f = nthF p i m s f := by
  intro m
  induction m with
  | zero => intro s f h; rw [Nat.zero_add]; exact nthF_end k s f (fun j a b => h j (by omega) (by omega))
  | succ m ih =>
    intro s f h
    have h' : ∀ j, s + 1 + m ≤ j → j < s + 1 + m + k → p j = false := fun j a b => h j (by omega) (by omega)
    rw [show m + 1 + k = m + k + 1 by omega]
    cases q : p s with
    | false => rw [nthF_no q, nthF_no q, ih _ _ h']
    | true =>
      by_cases e : nI f = i
      · rw [nthF_hit q e, nthF_hit q e]
      · rw [nthF_on q e, nthF_on q e, ih _ _ h']
