/-! small looks of both sides; sets that loops build -/
theorem P_SRisBoat {r : TR} {h : TH} {q b : Nat} {B : By} {a : Int32} {Q : Int32 → TH → Prop} (hr : r q 1 = b) (hO : h.1 b 2 = nI (bN B)) (hB : ByB B) (h1 : ∀ k, k < bN B → a = nI k → Q 1 h) (h0 : (∀ k, k < bN B → ¬ a = nI k) → Q 0 h) : D_SR_isBoat r q a h Q := by
  have hn := hB.2.2.1
  unfold D_SR_isBoat
  rw [hr, hO]
  refine ⟨fun z => h0 (fun k hk e => ?_), fun z => ⟨fun w => h0 (fun k hk e => ?_), fun w => ?_⟩⟩
  · rw [e] at z; exact nI_pos (by omega) z
  · rw [e] at w; exact nI_ge hk (by omega) w
  · obtain ⟨j, hj, rfl⟩ := nI_of z
    refine h1 j ?_ rfl
    rcases Nat.lt_or_ge j (bN B) with x | x
    · exact x
    · exact absurd (nI_le x hj) w
theorem P_inG {r : TR} {h : TH} {n : Nat} {a : Int32} {Q : Int32 → TH → Prop} (hn : n < 100) (h1 : ∀ k, k < n → a = nI k → Q 1 h) (h0 : (∀ k, k < n → ¬ a = nI k) → Q 0 h) : D_Mo_in r a 0 (nI n - 1) h Q := by
  by_cases z : a < 0
  · exact P_inM z (h0 (fun k hk e => by rw [e] at z; exact nI_pos (by omega) z))
  · obtain ⟨j, hj, rfl⟩ := nI_of z
    by_cases hj2 : j < 2 ^ 30
    · exact P_inN hj2 hn (fun x => h1 j x rfl) (fun x => h0 (fun k hk e => x ((nI_eq hj (by omega)).mp e ▸ hk)))
    · refine ⟨fun q => absurd q z, fun _ => ⟨fun _ => h0 (fun k hk e => ?_), fun q => absurd ?_ q⟩⟩
      · have := (nI_eq hj (by omega)).mp e; omega
      · rcases Nat.eq_zero_or_pos n with e | e
        · rw [e]; exact Int32.lt_of_lt_of_le (show nI 0 - 1 < 0 by decide) (nI_pos' hj)
        · rw [nI_s1 e]; exact nI_lt (by omega) hj
theorem P_MoisBoat {r : TR} {h : TH} {m L : Nat} {rk a : Int32} {B : By} {Q : Int32 → TH → Prop} (hr : RMo r m) (hO : MBay h m L rk B) (hB : ByB B) (h1 : ∀ k, k < bN B → a = nI k → Q 1 h) (h0 : (∀ k, k < bN B → ¬ a = nI k) → Q 0 h) : D_Mo_isBoat r m a h Q := by
  have r25 : r m 25 = m + 12 := hr 25 (by decide) (by decide)
  have hL := hO.2.1
  have hn := hB.2.2.1
  unfold D_Mo_isBoat
  intro i e
  rw [hO.1] at e
  subst e
  rw [r25, nI_clamp (n := L) (by omega), hO.2.2.2.2.2.1]
  exact ⟨vp_in_nI hL (by omega), P_inG (by omega) (fun k hk e => ⟨rfl, h1 k hk e⟩) (fun z => ⟨rfl, h0 z⟩)⟩
/-- isWithin, in -/
theorem P_within {r : TR} {h : TH} {a x y : Int32} {Q : Int32 → TH → Prop} (h1 : ¬ a < x → ¬ y < a → Q 1 h) (h0 : (a < x ∨ y < a) → Q 0 h) : D_SR_isWithin r a x y h Q := ⟨fun z => h0 (Or.inl z), fun z => ⟨fun w => h0 (Or.inr w), fun w => h1 z w⟩⟩
theorem P_in1 {r : TR} {h : TH} {a x y : Int32} {Q : Int32 → TH → Prop} (z : ¬ a < x) (w : ¬ y < a) (h1 : Q 1 h) : D_Mo_in r a x y h Q := ⟨fun q => absurd q z, fun _ => ⟨fun q => absurd q w, fun _ => h1⟩⟩
theorem P_in0 {r : TR} {h : TH} {a x y : Int32} {Q : Int32 → TH → Prop} (z : a < x ∨ y < a) (h0 : Q 0 h) : D_Mo_in r a x y h Q := ⟨fun _ => h0, fun w => ⟨fun _ => h0, fun w2 => absurd z (fun q => q.elim w w2)⟩⟩
theorem wi_nI {a : Int32} {x y : Nat} (hy : y < 2 ^ 31) (z : ¬ a < nI x) (w : ¬ nI y < a) (hx : x < 2 ^ 31) : ∃ k, x ≤ k ∧ k ≤ y ∧ a = nI k := by
  have z0 : ¬ a < 0 := fun q => z (Int32.lt_of_lt_of_le q (nI_pos' hx))
  obtain ⟨j, hj, rfl⟩ := nI_of z0
  refine ⟨j, ?_, ?_, rfl⟩
  · rcases Nat.lt_or_ge j x with q | q
    · exact absurd (nI_lt q hx) z
    · exact q
  · rcases Nat.lt_or_ge y j with q | q
    · exact absurd (nI_lt q hj) w
    · exact q
/-- the set of those below n of which p holds -/
def setF (p : Nat → Bool) : Nat → Nat
  | 0 => 0
  | j + 1 => if p j = true then setF p j ||| 2 ^ j else setF p j
theorem setF_lt (p : Nat → Bool) : ∀ n, n ≤ 6 → setF p n < 64 := by
  intro n
  induction n with
  | zero => intro _; show 0 < 64; omega
  | succ n ih =>
    intro hn
    unfold setF
    split
    · exact bo_lt (ih (by omega)) (by omega)
    · exact ih (by omega)
theorem setF_bit (p : Nat → Bool) : ∀ n, n ≤ 6 → ∀ k, k < 6 → (setF p n).testBit k = (decide (k < n) && p k) := by
  intro n
  induction n with
  | zero => intro _ k _; show (0 : Nat).testBit k = _; simp
  | succ n ih =>
    intro hn k hk
    have hl := setF_lt p n (by omega)
    have e := ih (by omega) k hk
    unfold setF
    by_cases hp : p n = true
    · rw [if_pos hp, tbor hl (by omega) hk, e]
      by_cases hkn : k = n
      · subst hkn; rw [hp]; simp
      · have : decide (k < n + 1) = decide (k < n) := decide_eq_decide.mpr (by omega)
        rw [this]; simp [hkn]
    · rw [if_neg hp, e]
      by_cases hkn : k = n
      · subst hkn
        have hp' : p k = false := by cases hq : p k with | true => exact absurd hq hp | false => rfl
        rw [hp']; simp
      · have : decide (k < n + 1) = decide (k < n) := decide_eq_decide.mpr (by omega)
        rw [this]
theorem bits_eq {a b : Nat} (ha : a < 64) (hb : b < 64) (h : ∀ k, k < 6 → a.testBit k = b.testBit k) : a = b := by
  refine Nat.eq_of_testBit_eq (fun i => ?_)
  rcases Nat.lt_or_ge i 6 with q | q
  · exact h i q
  · have p6 : 64 ≤ 2 ^ i := Nat.pow_le_pow_right (n := 2) (by omega) q
    rw [Nat.testBit_lt_two_pow (by omega), Nat.testBit_lt_two_pow (by omega)]
theorem setF_eq {p : Nat → Bool} {n m : Nat} (hn : n ≤ 6) (hm : m < 64) (h : ∀ k, k < 6 → m.testBit k = (decide (k < n) && p k)) : setF p n = m := bits_eq (setF_lt p n hn) hm (fun k hk => by rw [setF_bit p n hn k hk, h k hk])
theorem setF_cg {p p' : Nat → Bool} : ∀ n, (∀ k, k < n → p k = p' k) → setF p n = setF p' n := by
  intro n
  induction n with
  | zero => intro _; rfl
  | succ n ih => intro h; unfold setF; rw [h n (by omega), ih (fun k hk => h k (by omega))]
/-- a loop that builds a set -/
theorem lp_set {F : (Int32 × Int32 × TH → Prop) → Int32 × Int32 × TH → Prop} (p : Nat → Bool) {n : Nat} {h : TH} (hn : n ≤ 6) (hs : ∀ j x K, j < n → x < 64 → (p j = true → ∀ y, y = nI x ||| ((1 : Int32) <<< (nI j &&& 31)) → K (y, nI (j + 1), h)) → (p j = false → K (nI x, nI (j + 1), h)) → F K (nI x, nI j, h)) (hx : ∀ K, F K (nI (setF p n), nI n, h)) : ∃ k, lp F k (0, 0, h) := by
  refine lp_for n (fun j t => t = (nI (setF p j), nI j, h)) ?_ ?_ _ rfl
  · rintro j t K hj rfl hK
    have hl := setF_lt p j (by omega)
    refine hs j _ K hj hl (fun hp y ey => ?_) (fun hp => ?_)
    · refine hK _ ?_
      rw [ey, bo_1 hl (by omega)]
      conv => rhs; unfold setF
      rw [if_pos hp]
    · refine hK _ ?_
      conv => rhs; unfold setF
      rw [if_neg (by rw [hp]; decide)]
  · rintro t K rfl
    exact hx K
/-- how many below n of which p holds -/
def cntF (p : Nat → Bool) : Nat → Nat
  | 0 => 0
  | j + 1 => if p j = true then cntF p j + 1 else cntF p j
theorem cntF_le (p : Nat → Bool) : ∀ n, cntF p n ≤ n := by
  intro n
  induction n with
  | zero => exact Nat.le_refl 0
  | succ n ih => unfold cntF; split <;> omega
theorem cntF_cg {p p' : Nat → Bool} : ∀ n, (∀ k, k < n → p k = p' k) → cntF p n = cntF p' n := by
  intro n
  induction n with
  | zero => intro _; rfl
  | succ n ih => intro h; unfold cntF; rw [h n (by omega), ih (fun k hk => h k (by omega))]
theorem lp_cnt {F : (Int32 × Int32 × TH → Prop) → Int32 × Int32 × TH → Prop} (p : Nat → Bool) {n : Nat} {h : TH} (hs : ∀ j x K, j < n → (p j = true → K (nI (x + 1), nI (j + 1), h)) → (p j = false → K (nI x, nI (j + 1), h)) → F K (nI x, nI j, h)) (hx : ∀ K, F K (nI (cntF p n), nI n, h)) : ∃ k, lp F k (0, 0, h) := by
  refine lp_for n (fun j t => t = (nI (cntF p j), nI j, h)) ?_ ?_ _ rfl
  · rintro j t K hj rfl hK
    refine hs j _ K hj (fun hp => ?_) (fun hp => ?_)
    · refine hK _ ?_
      conv => rhs; unfold cntF
      rw [if_pos hp]
    · refine hK _ ?_
      conv => rhs; unfold cntF
      rw [if_neg (by rw [hp]; decide)]
  · rintro t K rfl
    exact hx K
theorem P_MoisLost {r : TR} {h : TH} {m n k : Nat} {wo : Int32} {S : Sc} {Q : Int32 → TH → Prop} (hr : RMo r m) (hR : RowOK (h.1 (m + 32)) n wo S) (hn : n ≤ 6) (hk : k < n) (hw : ¬ nI k = wo) (h1 : (sL S).testBit k = true → Q 1 h) (h0 : (sL S).testBit k = false → Q 0 h) : D_Mo_isLost r m (nI k) h Q := by
  have r49 : r m 49 = m + 32 := hr 49 (by decide) (by decide)
  have e18 : (18 : Int32) + nI k = nI (18 + k) := nI_add 18 k
  unfold D_Mo_isLost
  intro i e
  rw [e18] at e
  subst e
  rw [r49, nI_clamp (n := 18 + k) (by omega), ((hR.2.2.1 k hk).2.2.2.2 hw).2]
  refine ⟨vp_in_nI (by omega) (by omega), fun z => ?_, fun z => ?_⟩
  · refine h0 ?_
    cases hq : (sL S).testBit k with
    | true => rw [hq] at z; exact absurd rfl z
    | false => rfl
  · refine h1 ?_
    cases hq : (sL S).testBit k with
    | true => rfl
    | false => rw [hq] at z; exact absurd z (by decide)
theorem nI_nm {k : Nat} (h : k < 2 ^ 31) : ¬ nI k = -1 := nI_nm1 h
/-- the lost boats -/
theorem P_lostNow {r : TR} {h : TH} {m L : Nat} {rk : Int32} {B : By} {S : Sc} {Q : Int32 → TH → Prop} (hr : RMo r m) (hO : MBay h m L rk B) (hB : ByB B) (hR : RowOK (h.1 (m + 32)) (bN B) (-1) S) (hQ : Q (nI (setF (fun k => (sL S).testBit k) (bN B))) h) : D_Mo_lostNow r m h Q := by
  have r25 : r m 25 = m + 12 := hr 25 (by decide) (by decide)
  have hL := hO.2.1
  have hn := hB.2.2.1
  unfold D_Mo_lostNow
  refine lp_set (fun k => (sL S).testBit k) hn ?_ ?_
  · intro j x K hj hx ht hf
    unfold DB_Mo_lostNow_4
    intro i e
    rw [hO.1] at e
    subst e
    rw [r25, nI_clamp (n := L) (by omega), hO.2.2.2.2.2.1]
    refine ⟨vp_in_nI hL (by omega), fun q => absurd ((nI_leI (by omega) (by omega)).mp q) (by omega), fun _ => ?_⟩
    refine P_MoisLost hr hR hn hj (nI_nm (by omega)) (fun z => ⟨fun q => absurd q z01, fun _ y ey w ew => ?_⟩) (fun z => ⟨fun _ w ew => ?_, fun q => absurd rfl q⟩)
    · rw [nI_1] at ew; subst ew; exact ht z y ey
    · rw [nI_1] at ew; subst ew; exact hf z
  · intro K
    unfold DB_Mo_lostNow_4
    intro i e
    rw [hO.1] at e
    subst e
    rw [r25, nI_clamp (n := L) (by omega), hO.2.2.2.2.2.1]
    exact ⟨vp_in_nI hL (by omega), fun _ => hQ, fun q => absurd (Int32.le_refl _) q⟩
/-- the pans that are on now -/
theorem P_pansOn {r : TR} {h : TH} {m L : Nat} {rk : Int32} {B : By} {S : Sc} {Q : Int32 → TH → Prop} (hr : RMo r m) (hO : MBay h m L rk B) (hB : ByB B) (hR : RowOK (h.1 (m + 31)) (bN B) (-1) S) (hQ : Q (nI (setF (fun k => (sP S).testBit k) (bN B))) h) : D_Mo_pansOn r m h Q := by
  have r25 : r m 25 = m + 12 := hr 25 (by decide) (by decide)
  have r48 : r m 48 = m + 31 := hr 48 (by decide) (by decide)
  have hL := hO.2.1
  have hn := hB.2.2.1
  unfold D_Mo_pansOn
  refine lp_set (fun k => (sP S).testBit k) hn ?_ ?_
  · intro j x K hj hx ht hf
    have e24 : (24 : Int32) + nI j = nI (24 + j) := nI_add 24 j
    unfold DB_Mo_pansOn_4
    intro i e
    rw [hO.1] at e
    subst e
    rw [r25, nI_clamp (n := L) (by omega), hO.2.2.2.2.2.1]
    refine ⟨vp_in_nI hL (by omega), fun q => absurd ((nI_leI (by omega) (by omega)).mp q) (by omega), fun _ => ?_⟩
    intro i7 e7
    rw [e24] at e7
    subst e7
    rw [r48, nI_clamp (n := 24 + j) (by omega), (hR.2.2.1 j hj).2.2.1]
    refine ⟨vp_in_nI (by omega) (by omega), fun z w ew => ?_, fun z y ey w ew => ?_⟩
    · rw [nI_1] at ew; subst ew
      refine hf ?_
      cases hq : (sP S).testBit j with
      | true => rw [hq] at z; exact absurd rfl z
      | false => rfl
    · rw [nI_1] at ew; subst ew
      refine ht ?_ y ey
      cases hq : (sP S).testBit j with
      | true => rfl
      | false => rw [hq] at z; exact absurd z (by decide)
  · intro K
    unfold DB_Mo_pansOn_4
    intro i e
    rw [hO.1] at e
    subst e
    rw [r25, nI_clamp (n := L) (by omega), hO.2.2.2.2.2.1]
    exact ⟨vp_in_nI hL (by omega), fun _ => hQ, fun q => absurd (Int32.le_refl _) q⟩
theorem diUp_set (S : Sc) (c : Nat) : ∀ n, diUp S c n = setF (fun d => lies S (40 * d + c)) n := by
  intro n
  induction n with
  | zero => rfl
  | succ n ih => unfold diUp setF; rw [ih]
theorem P_smeltAt {r : TR} {h : TH} {m L c : Nat} {rk wo : Int32} {B : By} {S : Sc} {Q : Int32 → TH → Prop} (hr : RMo r m) (hO : MBay h m L rk B) (hB : ByB B) (hR : RowOK (h.1 (m + 32)) (bN B) wo S) (hSB : ScB S) (hc : c < 40) (hQ : Q (nI (diUp S c (bN B))) h) : D_Mo_smeltAt r m (nI (c % 8)) (nI (c / 8)) h Q := by
  have r25 : r m 25 = m + 12 := hr 25 (by decide) (by decide)
  have hL := hO.2.1
  have hn := hB.2.2.1
  rw [diUp_set] at hQ
  unfold D_Mo_smeltAt
  refine lp_set (fun d => lies S (40 * d + c)) hn ?_ ?_
  · intro j x K hj hx ht hf
    unfold DB_Mo_smeltAt_5
    intro i e
    rw [hO.1] at e
    subst e
    rw [r25, nI_clamp (n := L) (by omega), hO.2.2.2.2.2.1]
    refine ⟨vp_in_nI hL (by omega), fun q => absurd ((nI_leI (by omega) (by omega)).mp q) (by omega), fun _ => ?_⟩
    refine P_Mo_isSmelt hr hR hSB hn hc hj (fun z => ⟨fun q => absurd q z01, fun _ y ey w ew => ?_⟩) (fun z => ⟨fun _ w ew => ?_, fun q => absurd rfl q⟩)
    · rw [nI_1] at ew; subst ew; exact ht z y ey
    · rw [nI_1] at ew; subst ew; exact hf z
  · intro K
    unfold DB_Mo_smeltAt_5
    intro i e
    rw [hO.1] at e
    subst e
    rw [r25, nI_clamp (n := L) (by omega), hO.2.2.2.2.2.1]
    exact ⟨vp_in_nI hL (by omega), fun _ => hQ, fun q => absurd (Int32.le_refl _) q⟩
theorem P_isAhead {r : TR} {h : TH} {m n o a : Nat} {S : Sc} {Q : Int32 → TH → Prop} (hr : RMo r m) (hR : RowOK (h.1 (m + 32)) n (-1) S) (hP : ScP n S) (hn : n ≤ 6) (ho : o < n) (ha : a < n) (h1 : behind S o < behind S a → Q 1 h) (h0 : ¬ behind S o < behind S a → Q 0 h) : D_Mo_isAhead r m (nI o) (nI a) h Q := by
  have r49 : r m 49 = m + 32 := hr 49 (by decide) (by decide)
  have no := nI_nm (k := o) (by omega)
  have na := nI_nm (k := a) (by omega)
  have e12 : ∀ k, (12 : Int32) + nI k = nI (12 + k) := fun k => nI_add 12 k
  have po := hP o ho
  have pa := hP a ha
  have fo := hR.2.2.1 o ho
  have fa := hR.2.2.1 a ha
  have go := (fo.2.2.2.2 no).1
  have ga := (fa.2.2.2.2 na).1
  unfold behind at h1 h0
  unfold D_Mo_isAhead
  refine P_MoisLost hr hR hn ho no (fun lo => ⟨fun _ => ?_, fun z => absurd z z01⟩) (fun lo => ⟨fun z => absurd rfl z, fun _ => ?_⟩)
  · have oo : (sO S).testBit o = false := by
      cases hq : (sO S).testBit o with
      | true => rw [(po hq).2.2] at lo; exact absurd lo (by decide)
      | false => rfl
    rw [oo, lo] at h1 h0
    simp only [Bool.false_eq_true, if_false, if_true] at h1 h0
    unfold DJ_Mo_isAhead_16
    refine P_MoisLost hr hR hn ho no (fun _ => ⟨fun z => absurd z z01, fun _ => ?_⟩) (fun z => absurd (lo.symm.trans z) (by decide))
    refine P_MoisLost hr hR hn ha na (fun la => ⟨fun z => absurd z z01, fun _ => ?_⟩) (fun la => ⟨fun _ => ?_, fun z => absurd rfl z⟩)
    · have oa : (sO S).testBit a = false := by
        cases hq : (sO S).testBit a with
        | true => rw [(pa hq).2.2] at la; exact absurd la (by decide)
        | false => rfl
      rw [oa, la] at h1 h0
      simp only [Bool.false_eq_true, if_false, if_true] at h1 h0
      refine ⟨fun z => h0 ?_, fun z => h1 ?_⟩
      · have := (nI_leI (by omega) (by omega)).mp z; omega
      · have : ¬ a ≤ o := fun w => z ((nI_leI (by omega) (by omega)).mpr w)
        omega
    · refine h0 ?_
      rw [la]
      cases hq : (sO S).testBit a with
      | true => have := (pa hq).2.1; simp only [if_true]; omega
      | false => simp only [Bool.false_eq_true, if_false]; omega
  · rw [lo] at h1 h0
    refine P_MoisLost hr hR hn ha na (fun la => ⟨fun z => absurd z z01, fun _ => ?_⟩) (fun la => ⟨fun _ => ?_, fun z => absurd rfl z⟩)
    · unfold DJ_Mo_isAhead_16
      refine P_MoisLost hr hR hn ho no (fun z => absurd (lo.symm.trans z) (by decide)) (fun _ => ⟨fun _ => h1 ?_, fun z => absurd rfl z⟩)
      have oa : (sO S).testBit a = false := by
        cases hq : (sO S).testBit a with
        | true => rw [(pa hq).2.2] at la; exact absurd la (by decide)
        | false => rfl
      rw [oa, la]
      cases hq : (sO S).testBit o with
      | true => have := (po hq).2.1; simp only [if_true, Bool.false_eq_true, if_false]; omega
      | false => simp only [Bool.false_eq_true, if_false, if_true]; omega
    · rw [la] at h1 h0
      intro i15 e15
      rw [e12] at e15
      subst e15
      rw [r49, nI_clamp (n := 12 + o) (by omega), go]
      refine ⟨vp_in_nI (by omega) (by omega), fun x16 e16 i18 e18 => ?_⟩
      rw [e12] at e18
      subst e18
      rw [nI_clamp (n := 12 + a) (by omega), ga]
      refine ⟨vp_in_nI (by omega) (by omega), fun x19 e19 => ?_⟩
      cases hqo : (sO S).testBit o with
      | true =>
        have bo := po hqo
        rw [hqo] at h1 h0 e16
        simp only [if_true] at h1 h0 e16
        have p16 : 0 < x16 := by rw [e16]; exact nI_lt (a := 0) (by omega) (by omega)
        refine ⟨fun _ => ?_, fun z => absurd p16 z⟩
        unfold DJ_Mo_isAhead_77
        refine ⟨fun z => absurd z (by rw [e16]; exact nI_nle (by omega) (by omega)), fun _ => ?_⟩
        cases hqa : (sO S).testBit a with
        | true =>
          have ba := pa hqa
          rw [hqa] at h1 h0 e19
          simp only [if_true] at h1 h0 e19
          refine ⟨fun z => absurd z (by rw [e19]; exact nI_ne0 (by omega) (by omega)), fun _ => ⟨fun z => h0 ?_, fun z => h1 ?_⟩⟩
          · rw [e16, e19] at z
            have := (nI_leI (by omega) (by omega)).mp z; omega
          · rw [e16, e19] at z
            have : ¬ sA S a ≤ sA S o := fun w => z ((nI_leI (by omega) (by omega)).mpr w)
            omega
        | false =>
          rw [hqa] at h1 e19
          simp only [Bool.false_eq_true, if_false] at h1 e19
          exact ⟨fun _ => h1 (by omega), fun z => absurd e19 z⟩
      | false =>
        rw [hqo] at h1 h0 e16
        simp only [Bool.false_eq_true, if_false] at h1 h0 e16
        refine ⟨fun z => absurd z (by rw [e16]; decide), fun _ => ?_⟩
        cases hqa : (sO S).testBit a with
        | true =>
          have ba := pa hqa
          rw [hqa] at h0 e19
          simp only [if_true] at h0 e19
          refine ⟨fun z => absurd z (by rw [e19]; exact nI_nle (by omega) (by omega)), fun _ => ?_⟩
          unfold DJ_Mo_isAhead_77
          refine ⟨fun _ => h0 (by omega), fun z => absurd (show x16 ≤ 0 by rw [e16]; decide) z⟩
        | false =>
          rw [hqa] at h1 h0 e19
          simp only [Bool.false_eq_true, if_false] at h1 h0 e19
          refine ⟨fun _ => ?_, fun z => absurd (show x19 ≤ 0 by rw [e19]; decide) z⟩
          rw [nI_clamp (n := o) (by omega), nI_clamp (n := a) (by omega), fo.1, fa.1]
          refine ⟨vp_in_nI (by omega) (by omega), vp_in_nI (by omega) (by omega), fun z => h1 ?_, fun z => ?_⟩
          · have := (nI_ltI (by omega) (by omega)).mp z; omega
          · have z' : ¬ sC S a % 8 < sC S o % 8 := fun w => z ((nI_ltI (by omega) (by omega)).mpr w)
            refine ⟨vp_in_nI (by omega) (by omega), vp_in_nI (by omega) (by omega), fun y => h0 ?_, fun y => ⟨fun w => h0 ?_, fun w => h1 ?_⟩⟩
            · have : ¬ sC S o % 8 = sC S a % 8 := fun w => y ((nI_eq (by omega) (by omega)).mpr w)
              omega
            · have := (nI_leI (by omega) (by omega)).mp w
              have := (nI_eq (by omega) (by omega)).mp y
              omega
            · have : ¬ a ≤ o := fun v => w ((nI_leI (by omega) (by omega)).mpr v)
              have := (nI_eq (by omega) (by omega)).mp y
              omega
theorem rkUp_cnt (S : Sc) (k : Nat) : ∀ n, rkUp S k n = cntF (fun j => decide (behind S j < behind S k)) n := by
  intro n
  induction n with
  | zero => rfl
  | succ n ih => unfold rkUp cntF; rw [ih]; simp only [decide_eq_true_eq]
theorem P_Mo_rankOf {r : TR} {h : TH} {m L k : Nat} {rk : Int32} {B : By} {S : Sc} {Q : Int32 → TH → Prop} (hr : RMo r m) (hO : MBay h m L rk B) (hB : ByB B) (hR : RowOK (h.1 (m + 32)) (bN B) (-1) S) (hP : ScP (bN B) S) (hk : k < bN B) (hQ : Q (nI (rkUp S k (bN B))) h) : D_Mo_rankOf r m (nI k) h Q := by
  have r25 : r m 25 = m + 12 := hr 25 (by decide) (by decide)
  have hL := hO.2.1
  have hn := hB.2.2.1
  rw [rkUp_cnt] at hQ
  unfold D_Mo_rankOf
  refine lp_cnt (n := bN B) (fun j => decide (behind S j < behind S k)) ?_ ?_
  · intro j x K hj ht hf
    unfold DB_Mo_rankOf_4
    intro i e
    rw [hO.1] at e
    subst e
    rw [r25, nI_clamp (n := L) (by omega), hO.2.2.2.2.2.1]
    refine ⟨vp_in_nI hL (by omega), fun q => absurd ((nI_leI (by omega) (by omega)).mp q) (by omega), fun _ => ⟨fun q x7 e7 => ?_, fun q => ?_⟩⟩
    · have := (nI_eq (by omega) (by omega)).mp q
      subst this
      rw [nI_1] at e7; subst e7
      exact hf (decide_eq_false (by omega))
    · refine P_isAhead hr hR hP hn hj hk (fun z => ⟨fun q => absurd q z01, fun _ y ey w ew => ?_⟩) (fun z => ⟨fun _ w ew => ?_, fun q => absurd rfl q⟩)
      · rw [nI_1] at ew ey; subst ew; subst ey; exact ht (decide_eq_true z)
      · rw [nI_1] at ew; subst ew; exact hf (decide_eq_false z)
  · intro K
    unfold DB_Mo_rankOf_4
    intro i e
    rw [hO.1] at e
    subst e
    rw [r25, nI_clamp (n := L) (by omega), hO.2.2.2.2.2.1]
    exact ⟨vp_in_nI hL (by omega), fun _ => hQ, fun q => absurd (Int32.le_refl _) q⟩
theorem P_rankedNow {r : TR} {h : TH} {m L : Nat} {rk x : Int32} {B : By} {S : Sc} {Q : Int32 → TH → Prop} (hr : RMo r m) (hO : MBay h m L rk B) (hB : ByB B) (hR : RowOK (h.1 (m + 32)) (bN B) (-1) S) (hP : ScP (bN B) S) (hQ : Q (rdF S (bN B) x (bN B) 0) h) : D_Mo_rankedNow r m x h Q := by
  have r25 : r m 25 = m + 12 := hr 25 (by decide) (by decide)
  have hL := hO.2.1
  have hn := hB.2.2.1
  unfold D_Mo_rankedNow
  refine lp_for (bN B) (fun j t => t = (nI j, h) ∧ rdF S (bN B) x (bN B) 0 = rdF S (bN B) x (bN B - j) j) ?_ ?_ _ ⟨rfl, rfl⟩
  · rintro j t K hj ⟨rfl, he⟩ hK
    have en : bN B - j = (bN B - (j + 1)) + 1 := by omega
    rw [en] at he
    unfold DB_Mo_rankedNow_2
    intro i e
    rw [hO.1] at e
    subst e
    rw [r25, nI_clamp (n := L) (by omega), hO.2.2.2.2.2.1]
    refine ⟨vp_in_nI hL (by omega), fun q => absurd ((nI_leI (by omega) (by omega)).mp q) (by omega), fun _ => ?_⟩
    refine P_Mo_rankOf hr hO hB hR hP hj ⟨fun q x6 e6 => ?_, fun q => ?_⟩
    · rw [nI_1] at e6
      subst e6
      refine hK _ ⟨rfl, ?_⟩
      rw [he]
      conv => lhs; unfold rdF
      rw [if_neg q]
    · rw [he] at hQ
      unfold rdF at hQ
      rw [if_pos q] at hQ
      exact hQ
  · rintro t K ⟨rfl, he⟩
    have en : bN B - bN B = 0 := by omega
    rw [en] at he
    unfold DB_Mo_rankedNow_2
    intro i e
    rw [hO.1] at e
    subst e
    rw [r25, nI_clamp (n := L) (by omega), hO.2.2.2.2.2.1]
    refine ⟨vp_in_nI hL (by omega), fun _ => ?_, fun q => absurd (Int32.le_refl _) q⟩
    rw [he] at hQ
    exact hQ
