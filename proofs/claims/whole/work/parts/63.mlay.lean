/-! cells, what is smelt, what is laid: the reference's side -/
theorem LawM.wf {m a plain : Nat} {h : TH} {Ps : List (List Nat)} (hpl : plain < 10000) (g : LawM h m a plain Ps) : ∀ cs ∈ Ps, wfT cs 0 = true := by
  obtain ⟨f, nb, -, -, -, hc⟩ := g
  intro cs hcs
  obtain ⟨i, hi, rfl⟩ := List.getElem_of_mem hcs
  have gd : Ps.getD i [] = Ps[i] := by rw [List.getD_eq_getElem?_getD, List.getElem?_eq_getElem hi]; rfl
  rcases hc with ⟨-, e⟩ | ⟨a1, a2, a3, a4, a5⟩
  · rw [← gd, e]
    have : i = 0 := by rw [e] at hi; simpa using hi
    subst this
    show wfT [plain] 0 = true
    unfold wfT
    rw [if_pos (by omega)]
    rfl
  · rw [← gd]
    by_cases hl : i < 3 * (nb - 1)
    · obtain ⟨p1, p2, p3, p4⟩ := a3 (i / 3) (by omega)
      rcases (show i = 3 * (i / 3) ∨ i = 3 * (i / 3) + 1 ∨ i = 3 * (i / 3) + 2 by omega) with e | e | e
      · rw [e]; exact p2.choose_spec.2.2.2.2
      · rw [e]; exact p3.choose_spec.2.2.2.2
      · rw [e]; exact p4.choose_spec.2.2.2.2
    · have e : i = 3 * (nb - 1) := by omega
      rw [e]; exact a5.choose_spec.2.2.2.2
/-- one way's step east, and south -/
def eI (w : Nat) : Int32 := if w = 1 then 1 else if w = 3 then -1 else 0
def soI (w : Nat) : Int32 := if w = 2 then 1 else if w = 4 then -1 else 0
theorem P_eastBy {r : TR} {h : TH} {w : Nat} {Q : Int32 → TH → Prop} (hw : w < 100) (hQ : Q (eI w) h) : D_Mo_eastBy r (nI w) h Q := by
  have c1 : nI w = 1 ↔ w = 1 := nI_eq (b := 1) (by omega) (by omega)
  have c3 : nI w = 3 ↔ w = 3 := nI_eq (b := 3) (by omega) (by omega)
  unfold D_Mo_eastBy
  unfold eI at hQ
  refine ⟨fun q => ⟨fun q2 => ?_, fun q2 => ?_⟩, fun q => ?_⟩
  · rw [if_neg (fun z => q (c1.mpr z)), if_neg (fun z => q2 (c3.mpr z))] at hQ; exact hQ
  · rw [if_neg (fun z => q (c1.mpr z)), if_pos (c3.mp q2)] at hQ; exact hQ
  · rw [if_pos (c1.mp q)] at hQ; exact hQ
theorem P_southBy {r : TR} {h : TH} {w : Nat} {Q : Int32 → TH → Prop} (hw : w < 100) (hQ : Q (soI w) h) : D_Mo_southBy r (nI w) h Q := by
  have c1 : nI w = 2 ↔ w = 2 := nI_eq (b := 2) (by omega) (by omega)
  have c3 : nI w = 4 ↔ w = 4 := nI_eq (b := 4) (by omega) (by omega)
  unfold D_Mo_southBy
  unfold soI at hQ
  refine ⟨fun q => ⟨fun q2 => ?_, fun q2 => ?_⟩, fun q => ?_⟩
  · rw [if_neg (fun z => q (c1.mpr z)), if_neg (fun z => q2 (c3.mpr z))] at hQ; exact hQ
  · rw [if_neg (fun z => q (c1.mpr z)), if_pos (c3.mp q2)] at hQ; exact hQ
  · rw [if_pos (c1.mp q)] at hQ; exact hQ
/-- 'in' against a count that may be 0 -/
theorem P_inN {r : TR} {h : TH} {a W : Nat} {Q : Int32 → TH → Prop} (ha : a < 2 ^ 30) (hW : W < 100) (h1 : a < W → Q 1 h) (h0 : ¬ a < W → Q 0 h) : D_Mo_in r (nI a) 0 (nI W - 1) h Q := by
  unfold D_Mo_in
  have e : (nI W - 1 < nI a) ↔ ¬ a < W := by
    rcases Nat.eq_zero_or_pos W with z | z
    · subst z
      have e1 : nI 0 - 1 = (-1 : Int32) := by decide
      rw [e1]
      constructor
      · intro _; omega
      · intro _
        rw [Int32.lt_iff_toInt_lt, nI_toInt (by omega)]
        show (-1 : Int) < a
        omega
    · rw [nI_s1 z, nI_ltI (by omega) (by omega)]; omega
  refine ⟨fun q => absurd q (nI_pos (by omega)), fun _ => ⟨fun q => h0 (e.mp q), fun q => h1 ?_⟩⟩
  rcases Nat.lt_or_ge a W with z | z
  · exact z
  · exact absurd (e.mpr (by omega)) q
theorem P_inM {r : TR} {h : TH} {x : Int32} {y : Int32} {Q : Int32 → TH → Prop} (hx : x < 0) (h0 : Q 0 h) : D_Mo_in r x 0 y h Q := ⟨fun _ => h0, fun q => absurd hx q⟩
theorem P_isCell {r : TR} {h : TH} {m L x y : Nat} {rk : Int32} {B : By} {Q : Int32 → TH → Prop} (hr : RMo r m) (hO : MBay h m L rk B) (hB : ByB B) (hx : x < 2 ^ 30) (hy : y < 2 ^ 30) (h1 : x < bW B → y < bH B → Q 1 h) (h0 : ¬ (x < bW B ∧ y < bH B) → Q 0 h) : D_Mo_isCell r m (nI x) (nI y) h Q := by
  have r23 : r m 23 = m + 10 := hr 23 (by decide) (by decide)
  have r22 : r m 22 = m + 9 := hr 22 (by decide) (by decide)
  have hL := hO.2.1
  have hW := hB.1
  have hH := hB.2.1
  unfold D_Mo_isCell
  intro i2 e2
  rw [hO.1] at e2
  subst e2
  rw [r23, r22, nI_clamp (by omega), hO.2.2.2.1]
  refine ⟨vp_in_nI hL (by omega), P_inN hx (by omega) (fun a1 => ⟨fun z => absurd z z01, fun _ => ?_⟩) (fun a1 => ⟨fun _ => h0 (fun z => a1 z.1), fun z => absurd rfl z⟩)⟩
  intro i7 e7
  rw [hO.1] at e7
  subst e7
  rw [nI_clamp (by omega), hO.2.2.2.2.1]
  exact ⟨vp_in_nI hL (by omega), P_inN hy (by omega) (fun a2 => ⟨fun z => absurd z z01, fun _ => h1 a1 a2⟩) (fun a2 => ⟨fun _ => h0 (fun z => a2 z.2), fun z => absurd rfl z⟩)⟩
theorem P_isCellX {r : TR} {h : TH} {m L : Nat} {rk x y : Int32} {B : By} {Q : Int32 → TH → Prop} (hO : MBay h m L rk B) (hx : x < 0) (h0 : Q 0 h) : D_Mo_isCell r m x y h Q := by
  have hL := hO.2.1
  unfold D_Mo_isCell
  intro i2 e2
  rw [hO.1] at e2
  subst e2
  exact ⟨vp_in_nI hL (by omega), P_inM hx ⟨fun _ => h0, fun z => absurd rfl z⟩⟩
theorem P_isCellY {r : TR} {h : TH} {m L x : Nat} {rk y : Int32} {B : By} {Q : Int32 → TH → Prop} (hr : RMo r m) (hO : MBay h m L rk B) (hB : ByB B) (hx : x < 2 ^ 30) (hy : y < 0) (h0 : Q 0 h) : D_Mo_isCell r m (nI x) y h Q := by
  have r23 : r m 23 = m + 10 := hr 23 (by decide) (by decide)
  have hL := hO.2.1
  have hW := hB.1
  unfold D_Mo_isCell
  intro i2 e2
  rw [hO.1] at e2
  subst e2
  rw [r23, nI_clamp (by omega), hO.2.2.2.1]
  refine ⟨vp_in_nI hL (by omega), P_inN hx (by omega) (fun a1 => ⟨fun z => absurd z z01, fun _ => ?_⟩) (fun a1 => ⟨fun _ => h0, fun z => absurd rfl z⟩)⟩
  intro i7 e7
  rw [hO.1] at e7
  subst e7
  exact ⟨vp_in_nI hL (by omega), P_inM hy ⟨fun _ => h0, fun z => absurd rfl z⟩⟩
/-- the cell one way further, in the reference's words -/
theorem P_stepM {r : TR} {h : TH} {m L c w : Nat} {rk : Int32} {B : By} {Q : Int32 → TH → Prop} (hr : RMo r m) (hO : MBay h m L rk B) (hB : ByB B) (hc : c < 40) (h1 : ∀ d, besF (bW B) (bH B) c w = some d → nI (c % 8) + eI w = nI (d % 8) → nI (c / 8) + soI w = nI (d / 8) → Q 1 h) (h0 : besF (bW B) (bH B) c w = none → Q 0 h) : D_Mo_isCell r m (nI (c % 8) + eI w) (nI (c / 8) + soI w) h Q := by
  have hW := hB.1
  have hH := hB.2.1
  have n0 : ∀ x, nI x + (0 : Int32) = nI x := fun x => by rw [Int32.add_zero]
  unfold besF at h1 h0
  by_cases w1 : w = 1
  · have e1 : eI w = 1 := by unfold eI; rw [if_pos w1]
    have e2 : soI w = 0 := by unfold soI; rw [if_neg (by omega), if_neg (by omega)]
    rw [if_pos w1] at h1 h0
    rw [e1, e2, n0, nI_1] at h1 ⊢
    refine P_isCell hr hO hB (by omega) (by omega) (fun a b => ?_) (fun z => ?_)
    · rw [if_pos ⟨a, b⟩] at h1
      exact h1 (c + 1) rfl (congrArg nI (by omega)) (congrArg nI (by omega))
    · rw [if_neg z] at h0; exact h0 rfl
  by_cases w2 : w = 2
  · have e1 : eI w = 0 := by unfold eI; rw [if_neg (by omega), if_neg (by omega)]
    have e2 : soI w = 1 := by unfold soI; rw [if_pos w2]
    rw [if_neg w1, if_pos w2] at h1 h0
    rw [e1, e2, n0, nI_1] at h1 ⊢
    refine P_isCell hr hO hB (by omega) (by omega) (fun a b => ?_) (fun z => ?_)
    · rw [if_pos ⟨a, b⟩] at h1
      exact h1 (c + 8) rfl (congrArg nI (by omega)) (congrArg nI (by omega))
    · rw [if_neg z] at h0; exact h0 rfl
  by_cases w3 : w = 3
  · have e1 : eI w = -1 := by unfold eI; rw [if_neg (by omega), if_pos w3]
    have e2 : soI w = 0 := by unfold soI; rw [if_neg (by omega), if_neg (by omega)]
    rw [if_neg w1, if_neg w2, if_pos w3] at h1 h0
    rw [e1, e2, n0] at h1 ⊢
    rcases Nat.eq_zero_or_pos (c % 8) with z | z
    · rw [if_neg (by omega)] at h0
      rw [z]
      exact P_isCellX hO (by decide) (h0 rfl)
    · rw [nI_m1 z] at h1 ⊢
      refine P_isCell hr hO hB (by omega) (by omega) (fun a b => ?_) (fun y => ?_)
      · rw [if_pos ⟨z, a, b⟩] at h1
        exact h1 (c - 1) rfl (congrArg nI (by omega)) (congrArg nI (by omega))
      · rw [if_neg (fun u => y u.2)] at h0; exact h0 rfl
  by_cases w4 : w = 4
  · have e1 : eI w = 0 := by unfold eI; rw [if_neg (by omega), if_neg (by omega)]
    have e2 : soI w = -1 := by unfold soI; rw [if_neg (by omega), if_pos w4]
    rw [if_neg w1, if_neg w2, if_neg w3, if_pos w4] at h1 h0
    rw [e1, e2, n0] at h1 ⊢
    rcases Nat.eq_zero_or_pos (c / 8) with z | z
    · rw [if_neg (by omega)] at h0
      rw [z]
      exact P_isCellY hr hO hB (by omega) (by decide) (h0 rfl)
    · rw [nI_m1 z] at h1 ⊢
      refine P_isCell hr hO hB (by omega) (by omega) (fun a b => ?_) (fun y => ?_)
      · rw [if_pos ⟨a, z, b⟩] at h1
        exact h1 (c - 8) rfl (congrArg nI (by omega)) (congrArg nI (by omega))
      · rw [if_neg (fun u => y ⟨u.1, u.2.2⟩)] at h0; exact h0 rfl
  · have e1 : eI w = 0 := by unfold eI; rw [if_neg (by omega), if_neg (by omega)]
    have e2 : soI w = 0 := by unfold soI; rw [if_neg (by omega), if_neg (by omega)]
    rw [if_neg w1, if_neg w2, if_neg w3, if_neg w4] at h1 h0
    rw [e1, e2, n0, n0] at h1 ⊢
    refine P_isCell hr hO hB (by omega) (by omega) (fun a b => ?_) (fun z => ?_)
    · rw [if_pos ⟨a, b⟩] at h1
      exact h1 c rfl rfl rfl
    · rw [if_neg z] at h0; exact h0 rfl
theorem P_sortAt {r : TR} {h : TH} {m L d : Nat} {rk : Int32} {B : By} {Q : Int32 → TH → Prop} (hr : RMo r m) (hO : MBay h m L rk B) (hd : d < 40) (h1 : d % 8 < bW B) (h2 : d / 8 < bH B) (hQ : Q (nI (bK B d)) h) : D_Mo_sortAt r m (nI (d % 8)) (nI (d / 8)) h Q := by
  have r24 : r m 24 = m + 11 := hr 24 (by decide) (by decide)
  have hL := hO.2.1
  have e8 : (8 : Int32) * nI (d / 8) = nI (8 * (d / 8)) := pk_mul 8 _
  have ed : (8 : Int32) * nI (d / 8) + nI (d % 8) = nI d := by rw [e8, nI_add]; exact congrArg nI (by omega)
  unfold D_Mo_sortAt
  rw [ed, hO.2.2.1, hO.1, r24]
  rcases hO.2.2.2.2.2.2.2.2.1 d hd h1 h2 with ⟨a, b⟩ | ⟨a, b⟩
  · refine ⟨fun q => absurd a q, fun _ => ?_⟩
    rw [b] at hQ; exact hQ
  · refine ⟨fun _ => ?_, fun q => absurd q a⟩
    intro i3 e3
    have e3' : i3 = nI (40 * L + d) := by
      rw [e3, e8]
      have : (40 : Int32) * nI L = nI (40 * L) := pk_mul 40 L
      rw [this, nI_add, nI_add]
      exact congrArg nI (by omega)
    subst e3'
    rw [nI_clamp (by omega), b]
    exact ⟨vp_in_nI (by omega) (by omega), hQ⟩
theorem idx6 (c d : Nat) (hc : c < 40) : (6 * ((8 * nI (c / 8)) + nI (c % 8))) + nI d = nI (6 * c + d) := by
  have e8 : (8 : Int32) * nI (c / 8) = nI (8 * (c / 8)) := pk_mul 8 _
  have e6 : (6 : Int32) * nI c = nI (6 * c) := pk_mul 6 _
  rw [e8, nI_add, show 8 * (c / 8) + c % 8 = c by omega, e6, nI_add]
theorem P_Mo_isSmelt {r : TR} {h : TH} {m n c d : Nat} {wo : Int32} {S : Sc} {Q : Int32 → TH → Prop} (hr : RMo r m) (hR : RowOK (h.1 (m + 32)) n wo S) (hSB : ScB S) (hn : n ≤ 6) (hc : c < 40) (hd : d < n) (h1 : lies S (40 * d + c) = true → Q 1 h) (h0 : lies S (40 * d + c) = false → Q 0 h) : D_Mo_isSmelt r m (nI (c % 8)) (nI (c / 8)) (nI d) h Q := by
  have r49 : r m 49 = m + 32 := hr 49 (by decide) (by decide)
  have z30 : (30 : Int32).toNatClampNeg = 30 := by decide
  obtain ⟨l1, l2⟩ := hR.2.2.2 c hc d hd
  have hy := hSB.2.2.2.2.2 (40 * d + c) (by omega)
  have hh := hSB.1
  unfold D_Mo_isSmelt
  intro x1 e1 i3 e3
  rw [idx6 c d hc] at e1
  have e3' : i3 = nI (32 + (6 * c + d)) := by rw [e3, e1]; exact nI_add 32 _
  subst e3'
  rw [r49, nI_clamp (by omega), l1, z30, hR.1]
  by_cases hz : sY S (40 * d + c) = 0
  · have e0 : layH (sY S (40 * d + c)) = -2 := by unfold layH; rw [if_pos hz]
    rw [e0]
    refine ⟨vp_in_nI (by omega) (by omega), fun _ => h0 ?_, fun q => absurd (by decide) q⟩
    unfold lies
    simp [hz]
  · have e0 : layH (sY S (40 * d + c)) = nI (sY S (40 * d + c) / 16 - 1) := by unfold layH; rw [if_neg hz]
    rw [e0]
    refine ⟨vp_in_nI (by omega) (by omega), fun q => absurd q (nI_pos (by omega)), fun _ => ?_⟩
    intro i6 e6
    have e6' : i6 = nI (272 + (6 * c + d)) := by rw [e6, e1]; exact nI_add 272 _
    subst e6'
    have et : layT (sY S (40 * d + c)) = nI (sY S (40 * d + c) / 16 - 1 + sY S (40 * d + c) % 16) := by unfold layT; rw [if_neg hz]
    rw [nI_clamp (by omega), l2, et]
    refine ⟨vp_in_nI (by omega) (by omega), fun q => h0 ?_, fun q => h1 ?_⟩
    · have q' := (nI_ltI (by omega) (by omega)).mp q
      unfold lies
      simp only [Bool.and_eq_false_iff, decide_eq_false_iff_not]
      right; omega
    · have q' : ¬ (sY S (40 * d + c) / 16 - 1 + sY S (40 * d + c) % 16 < sH S) := fun z => q ((nI_ltI (by omega) (by omega)).mpr z)
      unfold lies
      simp only [Bool.and_eq_true, decide_eq_true_eq]
      exact ⟨hz, by omega⟩
