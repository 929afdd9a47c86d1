/-! cover: both sides -/
/-- the cells of water in which a dish is smelt -/
def wsM (B : By) (S : Sc) (k : Nat) : Nat := setF (fun c => decide (bK B c = 0) && lies S (40 * k + c)) 40
theorem P_waterSmelling {r : TR} {h : TH} {b s k : Nat} {B : By} {S : Sc} {Q : Int64 → TH → Prop} (hr : RBa r b) (hrs : RSc r s) (hO : BayOK h b B) (hB : ByB B) (hS : ScOK h s S) (hSB : ScB S) (hk : k < 6) (hQ : Q (lN (wsM B S k)) h) : D_Bay_waterSmelling r b s (nI k) h Q := by
  unfold D_Bay_waterSmelling
  refine lp_setL (fun c => decide (bK B c = 0) && lies S (40 * k + c)) (n := 40) (Nat.le_refl _) ?_ ?_
  · intro c M K hc ht hf
    have kd := bK_le hB hc
    have ei : ((40 : Int32) * nI k) + nI c = nI (40 * k + c) := by show nI 40 * nI k + nI c = _; rw [pk_mul, nI_add]
    unfold DB_Bay_waterSmelling_5
    rw [hr.1.1, nI_clamp (n := c) (by omega), hO.2.2.2.2.2.1 c hc, ei]
    refine ⟨fun q => absurd ((nI_leI (a := 40) (by omega) (by omega)).mp q) (by omega), fun _ => ⟨vp_in_nI hc (by omega), fun y x6 e6 => ?_, fun y => ?_⟩⟩
    · rw [nI_1] at e6; subst e6
      exact hf (by rw [decide_eq_false (fun e => y (by rw [e]; rfl)), Bool.false_and])
    · have k0 : bK B c = 0 := (nI_eq (b := 0) (by omega) (by omega)).mp y
      refine P_lies hrs hS hSB (by omega) (fun z => ⟨fun q => absurd q z01, fun _ x11 e11 x12 e12 => ?_⟩) (fun z => ⟨fun _ x10 e10 => ?_, fun q => absurd rfl q⟩)
      · rw [nI_1] at e12; subst e12
        exact ht (by rw [decide_eq_true k0, z]; rfl) _ e11
      · rw [nI_1] at e10; subst e10
        exact hf (by rw [z, Bool.and_false])
  · intro K
    unfold DB_Bay_waterSmelling_5
    exact ⟨fun _ => hQ, fun q => absurd (show (40 : Int32) ≤ nI 40 from Int32.le_refl _) q⟩
def cvM (B : By) (S : Sc) (st : Nat) : Nat → Nat
  | 0 => 0
  | j + 1 => if st.testBit j = true then cvM B S st j ||| wsM B S j else cvM B S st j
def cvP (B : By) (S : Sc) (st c : Nat) : Bool := decide (bK B c = 0) && exF (fun k => st.testBit k && lies S (40 * k + c)) (bN B)
theorem cvM_bit {B : By} {S : Sc} {st c : Nat} : ∀ n, (cvM B S st n).testBit c = (decide (c < 40) && (decide (bK B c = 0) && exF (fun k => st.testBit k && lies S (40 * k + c)) n)) := by
  intro n
  induction n with
  | zero => show (0 : Nat).testBit c = (decide (c < 40) && (decide (bK B c = 0) && false)); rw [Nat.zero_testBit, Bool.and_false, Bool.and_false]
  | succ n ih =>
    have e : exF (fun k => st.testBit k && lies S (40 * k + c)) (n + 1) = (exF (fun k => st.testBit k && lies S (40 * k + c)) n || (st.testBit n && lies S (40 * n + c))) := rfl
    rw [e]
    unfold cvM
    cases hs : st.testBit n with
    | true =>
      rw [if_pos rfl, Nat.testBit_or, ih, Bool.true_and]
      unfold wsM
      rw [setF_bitG]
      cases decide (c < 40) <;> cases decide (bK B c = 0) <;> simp
    | false => rw [if_neg (by decide), ih, Bool.false_and, Bool.or_false]
theorem cvM_lt {B : By} {S : Sc} {st : Nat} (n : Nat) : cvM B S st n < 2 ^ 40 := lt_of_bits (fun k hk => by rw [cvM_bit, decide_eq_false (by omega)]; rfl)
theorem cvM_at {B : By} {S : Sc} {st c : Nat} (hc : c < 40) : (cvM B S st (bN B)).testBit c = cvP B S st c := by rw [cvM_bit, decide_eq_true hc]; rfl
theorem cvM_cnt {B : By} {S : Sc} {st : Nat} : cntF (fun c => (cvM B S st (bN B)).testBit c) 40 = cntF (cvP B S st) 40 := cntF_cg 40 (fun c hc => cvM_at hc)
theorem P_coveredBy {r : TR} {h : TH} {q b st : Nat} {B : By} {S : Sc} {Q : Int64 → TH → Prop} (r1 : r q 1 = b) (r9 : r q 9 = q + 194) (hN : h.1 b 2 = nI (bN B)) (hB : ByB B) (hc : ∀ k, k < bN B → h.2 (q + 194) k = lN (wsM B S k)) (hs : st < 64) (hQ : Q (lN (cvM B S st (bN B))) h) : D_SR_coveredBy r q (nI st) h Q := by
  have hn := hB.2.2.1
  unfold D_SR_coveredBy
  refine lp_for (bN B) (fun j t => t = (lN (cvM B S st j), nI j, h)) ?_ ?_ _ rfl
  · rintro j t K hj rfl hK
    unfold DB_SR_coveredBy_5
    rw [r1, r9, hN, nI_clamp (n := j) (by omega), hc j hj]
    refine ⟨fun q => absurd ((nI_leI (by omega) (by omega)).mp q) (by omega), fun _ => ⟨fun y x6 e6 => ?_, fun y => ⟨vp_in_nI (by omega) (by omega), fun x8 e8 x9 e9 => ?_⟩⟩⟩
    · rw [nI_1] at e6; subst e6
      refine hK _ ?_
      conv => rhs; unfold cvM
      rw [if_neg (fun z => y ((bt_1 hs (by omega)).mpr z))]
    · rw [nI_1] at e9; subst e9
      have : x8 = lN (cvM B S st j ||| wsM B S j) := by rw [e8]; exact la_or _ _
      subst this
      refine hK _ ?_
      conv => rhs; unfold cvM
      rw [if_pos ((bt_1 hs (by omega)).mp y)]
  · rintro t K rfl
    unfold DB_SR_coveredBy_5
    rw [r1, hN]
    exact ⟨fun _ => hQ, fun q => absurd (Int32.le_refl _) q⟩
theorem di_and {B : By} {S : Sc} {st c : Nat} : diUp S c (bN B) &&& st = 0 ↔ exF (fun k => st.testBit k && lies S (40 * k + c)) (bN B) = false := by
  rw [and_z, diUp_set]
  refine ⟨fun h => exF_no (fun k hk => ?_), fun h k hk => ?_⟩
  · cases hl : lies S (40 * k + c) with
    | false => rw [Bool.and_false]
    | true => rw [h k (by rw [setF_bitG, decide_eq_true hk, hl]; rfl)]; rfl
  · rw [setF_bitG, Bool.and_eq_true, decide_eq_true_iff] at hk
    have := exF_f h hk.1
    simp only [hk.2, Bool.and_true] at this
    exact this
theorem P_Mo_coveredBy {r : TR} {h : TH} {m L st : Nat} {rk wo : Int32} {B : By} {S : Sc} {Q : Int32 → TH → Prop} (hr : RMo r m) (hO : MBay h m L rk B) (hB : ByB B) (hR : RowOK (h.1 (m + 32)) (bN B) wo S) (hSB : ScB S) (hs : st < 64) (hQ : Q (nI (cntF (cvP B S st) 40)) h) : D_Mo_coveredBy r m (nI st) h Q := by
  have hn := hB.2.2.1
  unfold D_Mo_coveredBy
  refine lp_cnt (cvP B S st) (n := 40) ?_ ?_
  · intro c x K hc ht hf
    have dl := diUp_lt S c (bN B) hn
    unfold DB_Mo_coveredBy_4
    rw [(jd8 hc).1, (jd8 hc).2]
    refine ⟨fun z => absurd ((nI_leI (a := 40) (by omega) (by omega)).mp z) (by omega), fun _ => ?_⟩
    refine P_isWater hr hO hB hc (fun z => ⟨fun y => absurd y z01, fun _ => ?_⟩) (fun z => ⟨fun _ x7 e7 => ?_, fun y => absurd rfl y⟩)
    · refine P_smeltAt hr hO hB hR hSB hc ?_
      rw [band dl hs]
      have lt := and_lt64 (b := st) dl
      refine ⟨fun y x11 e11 => ?_, fun y x12 e12 x13 e13 => ?_⟩
      · rw [nI_1] at e11; subst e11
        refine hf ?_
        unfold cvP
        rw [di_and.mp ((nI_eq (b := 0) (by omega) (by omega)).mp y), Bool.and_false]
      · rw [nI_1] at e12 e13; subst e12; subst e13
        refine ht ?_
        unfold cvP
        rw [decide_eq_true z, Bool.true_and]
        cases q : exF (fun k => st.testBit k && lies S (40 * k + c)) (bN B) with
        | true => rfl
        | false => exact absurd (show nI (diUp S c (bN B) &&& st) = 0 by rw [di_and.mpr q]; rfl) y
    · rw [nI_1] at e7; subst e7
      refine hf ?_
      unfold cvP
      rw [decide_eq_false z, Bool.false_and]
  · intro K
    unfold DB_Mo_coveredBy_4
    exact ⟨fun _ => hQ, fun z => absurd (show (40 : Int32) ≤ nI 40 from Int32.le_refl _) z⟩
theorem cntF_mono {p p' : Nat → Bool} : ∀ n, (∀ c, c < n → p c = true → p' c = true) → cntF p n ≤ cntF p' n := by
  intro n
  induction n with
  | zero => intro _; exact Nat.le_refl _
  | succ n ih =>
    intro h
    have i := ih (fun c hc => h c (by omega))
    unfold cntF
    cases hp : p n with
    | true => rw [h n (by omega) hp, if_pos rfl, if_pos rfl]; omega
    | false => rw [if_neg (by decide)]; split <;> omega
theorem cntF_same {p p' : Nat → Bool} : ∀ n, (∀ c, c < n → p c = true → p' c = true) → cntF p n = cntF p' n → ∀ c, c < n → p c = p' c := by
  intro n
  induction n with
  | zero => intro _ _ c hc; omega
  | succ n ih =>
    intro h he c hc
    have i := cntF_mono n (fun c hc => h c (by omega))
    unfold cntF at he
    have key : p n = p' n ∧ cntF p n = cntF p' n := by
      cases hp : p n with
      | true =>
        have h2 := h n (by omega) hp
        rw [hp, h2, if_pos rfl, if_pos rfl] at he
        exact ⟨h2.symm, by omega⟩
      | false =>
        rw [hp, if_neg (by decide)] at he
        cases hp' : p' n with
        | true => rw [hp', if_pos rfl] at he; omega
        | false => rw [hp', if_neg (by decide)] at he; exact ⟨rfl, he⟩
    rcases Nat.lt_or_ge c n with z | z
    · exact ih (fun c hc => h c (by omega)) key.2 c z
    · have : c = n := by omega
      subst this; exact key.1
theorem cv_eq {B : By} {S : Sc} {st all : Nat} (hB : ByB B) (h1 : st < 64) (h2 : all < 64) (hd : dfM st all = 0) : cntF (cvP B S st) 40 = cntF (cvP B S all) 40 ↔ cvM B S st (bN B) = cvM B S all (bN B) := by
  refine ⟨fun h => ?_, fun h => ?_⟩
  · have hm : ∀ c, c < 40 → cvP B S st c = true → cvP B S all c = true := by
      intro c hc z
      unfold cvP at z ⊢
      rw [Bool.and_eq_true] at z ⊢
      obtain ⟨j, hj, e⟩ := exF_x _ z.2
      rw [Bool.and_eq_true] at e
      have d2 := df2 ⟨st, h1⟩ ⟨all, h2⟩ ⟨j, by have := hB.2.2.1; omega⟩
      simp only [] at d2
      rw [hd, Nat.zero_testBit, e.1, Bool.true_and] at d2
      have a1 : all.testBit j = true := by
        cases q : all.testBit j with
        | true => rfl
        | false => rw [q] at d2; exact absurd d2 (by decide)
      exact ⟨z.1, exF_t (p := fun k => all.testBit k && lies S (40 * k + c)) (by simp only [a1, e.2]; rfl) _ hj⟩
    have := cntF_same 40 hm h
    apply Nat.eq_of_testBit_eq
    intro c
    by_cases hc : c < 40
    · rw [cvM_at hc, cvM_at hc]; exact this c hc
    · rw [cvM_bit, cvM_bit, decide_eq_false hc, Bool.false_and, Bool.false_and]
  · rw [← cvM_cnt, ← cvM_cnt, h]
def cbF (B : By) (S : Sc) (all : Nat) : Nat → Nat
  | 0 => all
  | s + 1 => if dfM s all = 0 ∧ popc s < popc (cbF B S all s) ∧ cvM B S s (bN B) = cvM B S all (bN B) then s else cbF B S all s
theorem cbF_or {B : By} {S : Sc} {all : Nat} : ∀ s, cbF B S all s = all ∨ cbF B S all s < s := by
  intro s
  induction s with
  | zero => exact Or.inl rfl
  | succ s ih =>
    unfold cbF
    split
    · exact Or.inr (by omega)
    · rcases ih with z | z
      · exact Or.inl z
      · exact Or.inr (by omega)
theorem sub_pc : ∀ s a : Fin 64, dfM s.1 a.1 = 0 → s.1 < a.1 → popc s.1 < popc a.1 := by decide +kernel
