/-! the cell beside, the cell down the wind, what is smelt, what is laid: the class's side -/
/-- the cell one way further; none beyond the bay -/
def besF (W H c w : Nat) : Option Nat :=
  if w = 1 then (if c % 8 + 1 < W ∧ c / 8 < H then some (c + 1) else none)
  else if w = 2 then (if c % 8 < W ∧ c / 8 + 1 < H then some (c + 8) else none)
  else if w = 3 then (if 1 ≤ c % 8 ∧ c % 8 - 1 < W ∧ c / 8 < H then some (c - 1) else none)
  else if w = 4 then (if c % 8 < W ∧ 1 ≤ c / 8 ∧ c / 8 - 1 < H then some (c - 8) else none)
  else (if c % 8 < W ∧ c / 8 < H then some c else none)
def optI : Option Nat → Int32
  | none => -1
  | some c => nI c
theorem besF_lt {W H c w d : Nat} (hW : W ≤ 8) (hH : H ≤ 5) (h : besF W H c w = some d) : d < 40 ∧ d % 8 < W ∧ d / 8 < H := by
  unfold besF at h
  split at h
  · split at h <;> simp at h; omega
  · split at h
    · split at h <;> simp at h; omega
    · split at h
      · split at h <;> simp at h; omega
      · split at h
        · split at h <;> simp at h; omega
        · split at h <;> simp at h; omega
theorem P_bes68 {r : TR} {h : TH} {b x y W H : Nat} {Q : Int32 → TH → Prop} (hW : h.1 b 0 = nI W) (hH : h.1 b 1 = nI H) (bx : x < 100) (by' : y < 100) (bW' : W < 100) (bH' : H < 100) (h1 : x < W ∧ y < H → Q (nI (8 * y + x)) h) (h0 : ¬ (x < W ∧ y < H) → Q (-1) h) : DJ_Bay_beside_68 r b (nI x) (nI y) h Q := by
  unfold DJ_Bay_beside_68 DJ_Bay_beside_98 DJ_Bay_beside_99
  rw [hW, hH]
  have no : ¬ (x < W ∧ y < H) → ((((0 : Int32) = 0 → Q (-1) h) ∧ (¬ (0 : Int32) = 0 → Q ((8 * nI y) + nI x) h))) := fun z => ⟨fun _ => h0 z, fun q => absurd rfl q⟩
  refine ⟨fun q => absurd q (nI_pos (by omega)), fun _ => ⟨fun q => no ?_, fun q1 => ⟨fun q => absurd q (nI_pos (by omega)), fun _ => ⟨fun q => no ?_, fun q2 => ⟨fun q => absurd q (by decide), fun _ => ?_⟩⟩⟩⟩⟩
  · have := (nI_leI (by omega) (by omega)).mp q; omega
  · have := (nI_leI (by omega) (by omega)).mp q; omega
  · have a1 : ¬ W ≤ x := fun z => q1 ((nI_leI (by omega) (by omega)).mpr z)
    have a2 : ¬ H ≤ y := fun z => q2 ((nI_leI (by omega) (by omega)).mpr z)
    have e : (8 * nI y) + nI x = nI (8 * y + x) := by
      have : (8 : Int32) * nI y = nI (8 * y) := pk_mul 8 y
      rw [this, nI_add]
    rw [e]
    exact h1 ⟨by omega, by omega⟩
theorem P_bes68x {r : TR} {h : TH} {b : Nat} {y : Int32} {Q : Int32 → TH → Prop} (h0 : Q (-1) h) : DJ_Bay_beside_68 r b (-1) y h Q := by
  unfold DJ_Bay_beside_68 DJ_Bay_beside_98 DJ_Bay_beside_99
  exact ⟨fun _ => ⟨fun _ => h0, fun q => absurd rfl q⟩, fun q => absurd (by decide) q⟩
theorem P_bes68y {r : TR} {h : TH} {b x W : Nat} {Q : Int32 → TH → Prop} (hW : h.1 b 0 = nI W) (bx : x < 100) (bW' : W < 100) (h0 : Q (-1) h) : DJ_Bay_beside_68 r b (nI x) (-1) h Q := by
  unfold DJ_Bay_beside_68 DJ_Bay_beside_98 DJ_Bay_beside_99
  rw [hW]
  have no : ((((0 : Int32) = 0 → Q (-1) h) ∧ (¬ (0 : Int32) = 0 → Q ((8 * (-1)) + nI x) h))) := ⟨fun _ => h0, fun q => absurd rfl q⟩
  exact ⟨fun q => absurd q (nI_pos (by omega)), fun _ => ⟨fun _ => no, fun _ => ⟨fun _ => no, fun q => absurd (by decide) q⟩⟩⟩
theorem P_beside {r : TR} {h : TH} {b c w W H : Nat} {Q : Int32 → TH → Prop} (hW : h.1 b 0 = nI W) (hH : h.1 b 1 = nI H) (bW' : W ≤ 8) (bH' : H ≤ 5) (hc : c < 40) (hw : w < 8) (hQ : Q (optI (besF W H c w)) h) : D_Bay_beside r b (nI c) (nI w) h Q := by
  unfold D_Bay_beside
  intro x1 e1 x2 e2
  rw [jr8 (by omega)] at e1
  rw [dv8 (by omega)] at e2
  subst e1; subst e2
  unfold besF at hQ
  have wl : ∀ (v : Nat), v < 8 → (nI w = nI v ↔ w = v) := fun v hv => nI_eq (by omega) (by omega)
  refine ⟨fun q => ?_, fun q1 => ⟨fun q => ?_, fun q2 => ⟨fun q => ?_, fun q3 => ⟨fun q => ?_, fun q4 => ?_⟩⟩⟩⟩
  · have ew : w = 1 := (wl 1 (by omega)).mp q
    rw [if_pos ew] at hQ
    intro x4 e4
    rw [nI_1] at e4
    subst e4
    refine P_bes68 hW hH (by omega) (by omega) (by omega) (by omega) (fun z => ?_) (fun z => ?_)
    · rw [if_pos z] at hQ
      have e : 8 * (c / 8) + (c % 8 + 1) = c + 1 := by omega
      rw [e]; exact hQ
    · rw [if_neg z] at hQ; exact hQ
  · have ew : w = 2 := (wl 2 (by omega)).mp q
    rw [if_neg (by omega), if_pos ew] at hQ
    intro x4 e4
    rw [nI_1] at e4
    subst e4
    refine P_bes68 hW hH (by omega) (by omega) (by omega) (by omega) (fun z => ?_) (fun z => ?_)
    · rw [if_pos z] at hQ
      have e : 8 * (c / 8 + 1) + c % 8 = c + 8 := by omega
      rw [e]; exact hQ
    · rw [if_neg z] at hQ; exact hQ
  · have ew : w = 3 := (wl 3 (by omega)).mp q
    rw [if_neg (by omega), if_neg (by omega), if_pos ew] at hQ
    intro x4 e4
    rcases Nat.eq_zero_or_pos (c % 8) with z0 | z0
    · rw [z0] at e4
      have e5 : x4 = -1 := e4
      subst e5
      rw [if_neg (by omega)] at hQ
      exact P_bes68x hQ
    · rw [nI_m1 z0] at e4
      subst e4
      refine P_bes68 hW hH (by omega) (by omega) (by omega) (by omega) (fun z => ?_) (fun z => ?_)
      · rw [if_pos ⟨z0, z⟩] at hQ
        have e : 8 * (c / 8) + (c % 8 - 1) = c - 1 := by omega
        rw [e]; exact hQ
      · rw [if_neg (fun y => z y.2)] at hQ; exact hQ
  · have ew : w = 4 := (wl 4 (by omega)).mp q
    rw [if_neg (by omega), if_neg (by omega), if_neg (by omega), if_pos ew] at hQ
    intro x4 e4
    rcases Nat.eq_zero_or_pos (c / 8) with z0 | z0
    · rw [z0] at e4
      have e5 : x4 = -1 := e4
      subst e5
      rw [if_neg (by omega)] at hQ
      exact P_bes68y hW (by omega) (by omega) hQ
    · rw [nI_m1 z0] at e4
      subst e4
      refine P_bes68 hW hH (by omega) (by omega) (by omega) (by omega) (fun z => ?_) (fun z => ?_)
      · rw [if_pos ⟨z.1, z0, z.2⟩] at hQ
        have e : 8 * (c / 8 - 1) + c % 8 = c - 8 := by omega
        rw [e]; exact hQ
      · rw [if_neg (fun y => z ⟨y.1, y.2.2⟩)] at hQ; exact hQ
  · rw [if_neg (fun z => q1 ((wl 1 (by omega)).mpr z)), if_neg (fun z => q2 ((wl 2 (by omega)).mpr z)), if_neg (fun z => q3 ((wl 3 (by omega)).mpr z)), if_neg (fun z => q4 ((wl 4 (by omega)).mpr z))] at hQ
    refine P_bes68 hW hH (by omega) (by omega) (by omega) (by omega) (fun z => ?_) (fun z => ?_)
    · rw [if_pos z] at hQ
      have e : 8 * (c / 8) + c % 8 = c := by omega
      rw [e]; exact hQ
    · rw [if_neg z] at hQ; exact hQ
/-- the cell down the wind: none beyond the bay, none on a rock -/
def downF (B : By) (c w : Nat) : Option Nat := match besF (bW B) (bH B) c w with
  | none => none
  | some d => if bK B d = 1 then none else some d
theorem nI_nm1 {n : Nat} (h : n < 2 ^ 31) : ¬ nI n = -1 := fun e => absurd (show nI n < 0 by rw [e]; decide) (nI_pos h)
theorem downF_lt {B : By} {c w d : Nat} (hB : ByB B) (h : downF B c w = some d) : d < 40 := by
  unfold downF at h
  split at h
  · simp at h
  · rename_i e he
    split at h
    · simp at h
    · simp at h; subst h; exact (besF_lt hB.1 hB.2.1 he).1
theorem P_downwind {r : TR} {h : TH} {b c w : Nat} {B : By} {Q : Int32 → TH → Prop} (hr : RBa r b) (hO : BayOK h b B) (hB : ByB B) (hc : c < 40) (hw : w < 8) (hQ : Q (optI (downF B c w)) h) : D_Bay_downwind r b (nI c) (nI w) h Q := by
  unfold D_Bay_downwind
  refine P_beside hO.1 hO.2.1 hB.1 hB.2.1 hc hw ?_
  unfold downF at hQ
  cases he : besF (bW B) (bH B) c w with
  | none => rw [he] at hQ; exact ⟨fun _ => hQ, fun q => absurd rfl q⟩
  | some d =>
    rw [he] at hQ
    have hd := (besF_lt hB.1 hB.2.1 he).1
    refine ⟨fun q => absurd q (nI_nm1 (by omega)), fun _ => ⟨vp_in_nI hd (by omega), ?_⟩⟩
    show _ ∧ _
    have hk : bK B d ≤ 3 := by have := hB.2.2.2.2.2.1 d hd; split at this <;> omega
    have e1 : h.1 (r b 5) (optI (some d)).toNatClampNeg = nI (bK B d) := by
      rw [hr.1.1]
      show h.1 (b + 1) (nI d).toNatClampNeg = _
      rw [nI_clamp (by omega), hO.2.2.2.2.2.1 d hd]
    rw [e1]
    refine ⟨fun q => ?_, fun q => ?_⟩
    · have q' : ¬ bK B d = 1 := fun z => q (by rw [z]; rfl)
      dsimp only at hQ
      rw [if_neg q'] at hQ; exact hQ
    · have q' : bK B d = 1 := (nI_eq (a := bK B d) (b := 1) (by omega) (by omega)).mp q
      dsimp only at hQ
      rw [if_pos q'] at hQ; exact hQ
/-- the boats that sail -/
def sailM (B : By) (S : Sc) : Nat := outOf (bN B) (sL S ||| sO S)
theorem sailM_lt {B : By} {S : Sc} (hB : ByB B) (hS : ScB S) : sailM B S < 64 := (oo1 ⟨bN B, by have := hB.2.2.1; omega⟩ ⟨sL S ||| sO S, or_lt64 hS.2.2.1 hS.2.2.2.1⟩).2
theorem sailM_bit {B : By} {S : Sc} (hB : ByB B) (hS : ScB S) {k : Nat} (hk : k < 6) : (sailM B S).testBit k = (decide (k < bN B) && sail S k) := by
  have := oo2 ⟨bN B, by have := hB.2.2.1; omega⟩ ⟨sL S ||| sO S, or_lt64 hS.2.2.1 hS.2.2.2.1⟩ ⟨k, hk⟩
  unfold sailM sail
  rw [this, Nat.testBit_or]
  simp
theorem P_allBoats {r : TR} {h : TH} {b : Nat} {B : By} {Q : Int32 → TH → Prop} (hO : BayOK h b B) (hB : ByB B) (hQ : Q (nI (2 ^ bN B - 1)) h) : D_Bay_allBoats r b h Q := by
  unfold D_Bay_allBoats
  rw [hO.2.2.1, (ab1 ⟨bN B, by have := hB.2.2.1; omega⟩).1]
  exact hQ
theorem P_sailing {r : TR} {h : TH} {b s : Nat} {B : By} {S : Sc} {Q : Int32 → TH → Prop} (hO : BayOK h b B) (hB : ByB B) (hS : ScOK h s S) (hSB : ScB S) (hQ : Q (nI (sailM B S)) h) : D_Bay_sailing r b s h Q := by
  unfold D_Bay_sailing
  refine P_allBoats hO hB ?_
  rw [hS.2.2.1, hS.2.2.2.1, bor hSB.2.2.1 hSB.2.2.2.1, (oo1 ⟨bN B, by have := hB.2.2.1; omega⟩ ⟨sL S ||| sO S, or_lt64 hSB.2.2.1 hSB.2.2.2.1⟩).1]
  exact hQ
