/-! ranks, cells' dishes, boats together: the class's side -/
/-- less is further ahead -/
def behind (S : Sc) (k : Nat) : Nat := if (sO S).testBit k then sA S k else if (sL S).testBit k then 1000 + k else 10 * (8 - sC S k % 8) + k
def ScA (S : Sc) : Prop := ∀ k, k < 6 → sA S k ≤ 6
theorem P_behindness {r : TR} {h : TH} {s k : Nat} {S : Sc} {Q : Int32 → TH → Prop} (hrs : RSc r s) (hS : ScOK h s S) (hSB : ScB S) (hk : k < 6) (hQ : Q (nI (behind S k)) h) : D_Sc_behindness r s (nI k) h Q := by
  unfold D_Sc_behindness
  refine P_isHome hS hSB hk (fun q => ⟨fun z => absurd z z01, fun _ => ⟨vp_in_nI hk (by omega), ?_⟩⟩) (fun q => ⟨fun _ => ?_, fun z => absurd rfl z⟩)
  · unfold behind at hQ
    rw [if_pos q] at hQ
    rw [hrs.2.1, nI_clamp (by omega), hS.2.2.2.2.2.1 k hk]
    exact hQ
  · unfold behind at hQ
    rw [if_neg (by rw [q]; decide)] at hQ
    refine P_isLost hS hSB hk (fun q2 => ⟨fun z => absurd z z01, fun _ => ?_⟩) (fun q2 => ⟨fun _ => ?_, fun z => absurd rfl z⟩)
    · rw [if_pos q2] at hQ
      have : (1000 : Int32) + nI k = nI (1000 + k) := nI_add 1000 k
      rw [this]; exact hQ
    · rw [if_neg (by rw [q2]; decide)] at hQ
      refine P_eastOf hrs hS hSB hk ?_
      unfold eastI
      rw [if_neg (by rw [q2]; decide)]
      have e1 : (8 : Int32) - nI (sC S k % 8) = nI (8 - sC S k % 8) := pk_sub (a := 8) (by omega)
      have e2 : (10 : Int32) * nI (8 - sC S k % 8) = nI (10 * (8 - sC S k % 8)) := pk_mul 10 _
      rw [e1, e2, nI_add]
      exact hQ
/-- how many of the first j are ahead of k -/
def rkUp (S : Sc) (k : Nat) : Nat → Nat
  | 0 => 0
  | j + 1 => if behind S j < behind S k then rkUp S k j + 1 else rkUp S k j
theorem rkUp_le (S : Sc) (k : Nat) : ∀ j, rkUp S k j ≤ j := by
  intro j
  induction j with
  | zero => exact Nat.le_refl _
  | succ j ih => unfold rkUp; split <;> omega
theorem behind_lt {S : Sc} (hA : ScA S) {k : Nat} (hk : k < 6) : behind S k < 2000 := by
  have := hA k hk
  unfold behind
  split
  · omega
  · split <;> omega
theorem P_rankOf {r : TR} {h : TH} {s k n : Nat} {S : Sc} {Q : Int32 → TH → Prop} (hrs : RSc r s) (hS : ScOK h s S) (hSB : ScB S) (hA : ScA S) (hk : k < 6) (hn : n ≤ 6) (hQ : Q (nI (rkUp S k n)) h) : D_Sc_rankOf r s (nI k) (nI n) h Q := by
  unfold D_Sc_rankOf
  refine lp_for n (fun j t => t = (nI (rkUp S k j), nI j, h)) ?_ ?_ _ rfl
  · rintro j t K hj rfl hK
    have b1 := behind_lt hA hk
    have b2 := behind_lt hA (k := j) (by omega)
    unfold DB_Sc_rankOf_5
    refine ⟨fun q => absurd ((nI_leI (by omega) (by omega)).mp q) (by omega), fun _ => ?_⟩
    refine P_behindness hrs hS hSB (by omega) (P_behindness hrs hS hSB hk ⟨fun q x9 e9 => ?_, fun q x10 e10 x11 e11 => ?_⟩)
    · have q' := (nI_leI (by omega) (by omega)).mp q
      rw [nI_1] at e9
      subst e9
      refine hK _ ?_
      have e : rkUp S k (j + 1) = rkUp S k j := by
        conv => lhs; unfold rkUp
        rw [if_neg (by omega)]
      rw [e]
    · have q' : ¬ behind S k ≤ behind S j := fun z => q ((nI_leI (by omega) (by omega)).mpr z)
      rw [nI_1] at e10 e11
      subst e10; subst e11
      refine hK _ ?_
      have e : rkUp S k (j + 1) = rkUp S k j + 1 := by
        conv => lhs; unfold rkUp
        rw [if_pos (by omega)]
      rw [e]
  · rintro t K rfl
    unfold DB_Sc_rankOf_5
    exact ⟨fun _ => hQ, fun q => absurd (Int32.le_refl _) q⟩
/-- the first boat from j on that has the rank: m more to look at -/
def rdF (S : Sc) (n : Nat) (x : Int32) : Nat → Nat → Int32
  | 0, _ => -1
  | m + 1, j => if nI (rkUp S j n) = x then nI j else rdF S n x m (j + 1)
theorem P_boatRanked {r : TR} {h : TH} {s n : Nat} {x : Int32} {S : Sc} {Q : Int32 → TH → Prop} (hrs : RSc r s) (hS : ScOK h s S) (hSB : ScB S) (hA : ScA S) (hn : n ≤ 6) (hQ : Q (rdF S n x n 0) h) : D_Sc_boatRanked r s x (nI n) h Q := by
  unfold D_Sc_boatRanked
  refine lp_for n (fun j t => t = (nI j, h) ∧ rdF S n x n 0 = rdF S n x (n - j) j) ?_ ?_ _ ⟨rfl, rfl⟩
  · rintro j t K hj ⟨rfl, hr⟩ hK
    have en : n - j = (n - (j + 1)) + 1 := by omega
    rw [en] at hr
    unfold DB_Sc_boatRanked_2
    refine ⟨fun q => absurd ((nI_leI (by omega) (by omega)).mp q) (by omega), fun _ => ?_⟩
    refine P_rankOf hrs hS hSB hA (by omega) hn ⟨fun q x6 e6 => ?_, fun q => ?_⟩
    · rw [nI_1] at e6
      subst e6
      refine hK _ ⟨rfl, ?_⟩
      rw [hr]
      conv => lhs; unfold rdF
      rw [if_neg q]
    · rw [hr] at hQ
      unfold rdF at hQ
      rw [if_pos q] at hQ
      exact hQ
  · rintro t K ⟨rfl, hr⟩
    have en : n - n = 0 := by omega
    rw [en] at hr
    unfold DB_Sc_boatRanked_2
    refine ⟨fun _ => ?_, fun q => absurd (Int32.le_refl _) q⟩
    rw [hr] at hQ
    exact hQ
/-- the dishes, of the first j, that are smelt in a cell -/
def diUp (S : Sc) (c : Nat) : Nat → Nat
  | 0 => 0
  | d + 1 => if lies S (40 * d + c) = true then diUp S c d ||| 2 ^ d else diUp S c d
theorem diUp_lt (S : Sc) (c : Nat) : ∀ d, d ≤ 6 → diUp S c d < 64 := by
  intro d
  induction d with
  | zero => intro _; show 0 < 64; omega
  | succ d ih =>
    intro hd
    unfold diUp
    split
    · exact bo_lt (ih (by omega)) (by omega)
    · exact ih (by omega)
theorem P_dishesIn {r : TR} {h : TH} {s c n : Nat} {S : Sc} {Q : Int32 → TH → Prop} (hrs : RSc r s) (hS : ScOK h s S) (hSB : ScB S) (hc : c < 40) (hn : n ≤ 6) (hQ : Q (nI (diUp S c n)) h) : D_Sc_dishesIn r s (nI c) (nI n) h Q := by
  unfold D_Sc_dishesIn
  refine lp_for n (fun j t => t = (nI (diUp S c j), nI j, h)) ?_ ?_ _ rfl
  · rintro j t K hj rfl hK
    have hm := diUp_lt S c j (by omega)
    unfold DB_Sc_dishesIn_5
    refine ⟨fun q => absurd ((nI_leI (by omega) (by omega)).mp q) (by omega), fun _ => ?_⟩
    have ei : (40 : Int32) * nI j + nI c = nI (40 * j + c) := by
      have : (40 : Int32) * nI j = nI (40 * j) := pk_mul 40 j
      rw [this, nI_add]
    rw [ei]
    refine P_lies hrs hS hSB (by omega) (fun hl => ⟨fun z => absurd z z01, fun _ x8 e8 x9 e9 => ?_⟩) (fun hl => ⟨fun _ x7 e7 => ?_, fun z => absurd rfl z⟩)
    · rw [bo_1 hm (by omega)] at e8
      rw [nI_1] at e9
      subst e8; subst e9
      refine hK _ ?_
      have e : diUp S c (j + 1) = diUp S c j ||| 2 ^ j := by
        conv => lhs; unfold diUp
        rw [if_pos hl]
      rw [e]
    · rw [nI_1] at e7
      subst e7
      refine hK _ ?_
      have e : diUp S c (j + 1) = diUp S c j := by
        conv => lhs; unfold diUp
        rw [if_neg (by rw [hl]; decide)]
      rw [e]
  · rintro t K rfl
    unfold DB_Sc_dishesIn_5
    exact ⟨fun _ => hQ, fun q => absurd (Int32.le_refl _) q⟩
def together (S : Sc) (a b : Nat) : Bool := sail S a && (sail S b && decide (sC S a = sC S b))
theorem P_areTogether {r : TR} {h : TH} {s a b : Nat} {S : Sc} {Q : Int32 → TH → Prop} (hrs : RSc r s) (hS : ScOK h s S) (hSB : ScB S) (ha : a < 6) (hb : b < 6) (h1 : together S a b = true → Q 1 h) (h0 : together S a b = false → Q 0 h) : D_Sc_areTogether r s (nI a) (nI b) h Q := by
  have c1 := hSB.2.2.2.2.1 a ha
  have c2 := hSB.2.2.2.2.1 b hb
  unfold D_Sc_areTogether
  refine P_isSailing hS hSB ha (fun q1 => ⟨fun z => absurd z z01, fun _ => ?_⟩) (fun q1 => ⟨fun _ => h0 (by unfold together; rw [q1]; rfl), fun z => absurd rfl z⟩)
  refine P_isSailing hS hSB hb (fun q2 => ⟨fun z => absurd z z01, fun _ => ⟨vp_in_nI ha (by omega), vp_in_nI hb (by omega), ?_⟩⟩) (fun q2 => ⟨fun _ => h0 (by unfold together; rw [q1, q2]; rfl), fun z => absurd rfl z⟩)
  rw [hrs.1, nI_clamp (by omega), nI_clamp (by omega), hS.2.2.2.2.1 a ha, hS.2.2.2.2.1 b hb, nI_eq (by omega) (by omega)]
  exact ⟨fun q => h0 (by unfold together; rw [q1, q2]; simp [q]), fun q => h1 (by unfold together; rw [q1, q2]; simp [q])⟩
