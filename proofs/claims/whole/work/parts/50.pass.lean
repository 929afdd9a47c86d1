/-- the ways of the first j boats that sail, packed -/
def wUp (B : By) (S : Sc) (seed : Int32) : Nat → Nat
  | 0 => 0
  | j + 1 => if (sailM B S).testBit j = true then wUp B S seed j + wayF B S seed j (windF B (sH S)) * 8 ^ j else wUp B S seed j
theorem wUp_lt (B : By) (S : Sc) (seed : Int32) : ∀ j, j ≤ 6 → wUp B S seed j < 8 ^ j := by
  intro j
  induction j with
  | zero => intro _; show 0 < 1; omega
  | succ j ih =>
    intro hj
    have h1 := ih (by omega)
    have ep : 8 ^ (j + 1) = 8 ^ j * 8 := Nat.pow_succ ..
    unfold wUp
    split
    · exact (pack_or (by omega) h1 (show wayF B S seed j (windF B (sH S)) < 8 by have := way5_lt (tellsF (stV B S j (windF B (sH S)) (smells B S seed j)) (bPS B)); unfold wayF; omega)).2
    · omega
theorem wUp_at (B : By) (S : Sc) (seed : Int32) {k : Nat} (hs : (sailM B S).testBit k = true) : ∀ n, k < n → n ≤ 6 → wUp B S seed n / 8 ^ k % 8 = wayF B S seed k (windF B (sH S)) := by
  have hw8 : ∀ j, wayF B S seed j (windF B (sH S)) < 5 := fun j => way5_lt _
  intro n
  induction n with
  | zero => intro h _; omega
  | succ n ih =>
    intro hk hn
    have hp : 0 < 8 ^ k := Nat.pow_pos (by omega)
    by_cases e : k = n
    · subst e
      have h1 := wUp_lt B S seed k (by omega)
      unfold wUp
      rw [if_pos hs, Nat.add_mul_div_right _ _ hp, Nat.div_eq_of_lt h1, Nat.zero_add]
      exact Nat.mod_eq_of_lt (by have := hw8 k; omega)
    · have hk' : k < n := by omega
      have i := ih hk' (by omega)
      unfold wUp
      split
      · have ep : 8 ^ n = 8 ^ k * (8 * 8 ^ (n - k - 1)) := by
          have : n = k + (1 + (n - k - 1)) := by omega
          conv => lhs; rw [this, Nat.pow_add, Nat.pow_add]
        have em : wayF B S seed n (windF B (sH S)) * 8 ^ n = (wayF B S seed n (windF B (sH S)) * 8 ^ (n - k - 1) * 8) * 8 ^ k := by
          rw [ep]
          rw [Nat.mul_comm (8 ^ k), Nat.mul_comm 8, ← Nat.mul_assoc, ← Nat.mul_assoc]
        rw [em, Nat.add_mul_div_right _ _ hp, Nat.add_mul_mod_self_right]
        exact i
      · exact i
/-- the first j boats have gone -/
def mUp (B : By) (S : Sc) (seed : Int32) : Nat → Sc
  | 0 => S
  | j + 1 => if (sailM B S).testBit j = true then (moveS B j (wayF B S seed j (windF B (sH S))) (mUp B S seed j)).2 else mUp B S seed j
theorem moveS_H (B : By) (k w : Nat) (S : Sc) : sH (moveS B k w S).2 = sH S := by
  unfold moveS
  split
  · rfl
  · split
    · rfl
    · split
      · rfl
      · split <;> rfl
theorem mUp_B {B : By} {S : Sc} {seed : Int32} (hB : ByB B) (hSB : ScB S) : ∀ j, j ≤ 6 → ScB (mUp B S seed j) ∧ sH (mUp B S seed j) = sH S := by
  intro j
  induction j with
  | zero => intro _; exact ⟨hSB, rfl⟩
  | succ j ih =>
    intro hj
    have h1 := ih (by omega)
    unfold mUp
    split
    · exact ⟨moveS_B hB h1.1 (by omega), by rw [moveS_H]; exact h1.2⟩
    · exact h1
def nextH (S : Sc) : Sc := (sH S + 1, sP S, sL S, sO S, sC S, sA S, sY S)
/-- an hour goes by -/
def hourS (B : By) (seed : Int32) (S : Sc) : Sc := layAll B (nextH (mUp B S seed (bN B)))
theorem nextH_B {S : Sc} (hSB : ScB S) (hh : sH S < 1000000) : ScB (nextH S) := ⟨hh, hSB.2.1, hSB.2.2.1, hSB.2.2.2.1, hSB.2.2.2.2.1, hSB.2.2.2.2.2⟩
theorem layD_H (B : By) (w k : Nat) (S : Sc) : sH (layD B w k S) = sH S := rfl
theorem layUp_H (B : By) (w fr : Nat) (S : Sc) : ∀ j, sH (layUp B w fr j S) = sH S := by
  intro j
  induction j with
  | zero => rfl
  | succ j ih => unfold layUp; split; rw [layD_H]; exact ih; exact ih
theorem layAll_B {B : By} {S : Sc} (hB : ByB B) (hSB : ScB S) : ScB (layAll B S) := layUp_B hSB _ hB.2.2.1
theorem hourS_B {B : By} {S : Sc} {seed : Int32} (hB : ByB B) (hSB : ScB S) (hh : sH S < 1000000) : ScB (hourS B seed S) ∧ sH (hourS B seed S) = sH S + 1 := by
  have h1 := mUp_B (seed := seed) hB hSB (bN B) hB.2.2.1
  refine ⟨layAll_B hB (nextH_B h1.1 (by rw [h1.2]; exact hh)), ?_⟩
  unfold hourS layAll
  rw [layUp_H]
  show sH (mUp B S seed (bN B)) + 1 = _
  rw [h1.2]
/-- the cells that an hour writes -/
def FHo (b s : Nat) : Nat → Prop := fun a => FBa b a ∨ (s ≤ a ∧ a < s + 4)
theorem P_passHour {r : TR} {h : TH} {b s : Nat} {B : By} {S : Sc} {seed : Int32} {Q : TH → Prop} (hr : RBa r b) (hrs : RSc r s) (hO : BayOK h b B) (hB : ByB B) (hS : ScOK h s S) (hSB : ScB S) (hap : apart b s) (hh : sH S < 1000000)
    (hQ : ∀ h', Fr (FHo b s) h h' → BScr b h h' → ScOK h' s (hourS B seed S) → Q h') : D_Bay_passHour r b s seed h Q := by
  have hn := hB.2.2.1
  have hsm := sailM_lt hB hSB
  have hw4 := way4_le (tellsF (windV (sH S)) (bPW B))
  have hw5 : ∀ j, wayF B S seed j (windF B (sH S)) < 5 := fun j => way5_lt _
  have apF : ∀ a, FBa b a → ¬ (s ≤ a ∧ a < s + 4) := fun a ha => by unfold apart at hap; unfold FBa at ha; omega
  have apB : ∀ a, s ≤ a → a < s + 4 → ¬ (b ≤ a ∧ a < b + 23) := fun a p q => by unfold apart at hap; omega
  unfold D_Bay_passHour
  refine P_sailing hO hB hS hSB ?_
  rw [hS.1]
  refine P_windAt hr hO hB (fun h4 hF4 hs4 => ?_)
  refine lp_for (bN B) (fun j t => ∃ h', t = (nI (wUp B S seed j), nI j, h') ∧ Fr (FBa b) h h' ∧ BScr b h h') ?_ ?_ _ ⟨h4, rfl, hF4, hs4⟩
  · rintro j t K hj ⟨h', rfl, hF', hs'⟩ hK
    have O' := hO.scr hs'
    have S' : ScOK h' s S := hS.fr (fun a p1 p2 => (hF' a (fun z => apF a z ⟨p1, p2⟩)).1)
    unfold DB_Bay_passHour_22
    rw [O'.2.2.1]
    refine ⟨fun q => absurd ((nI_leI (by omega) (by omega)).mp q) (by omega), fun _ => ⟨fun q x11 e11 => ?_, fun q => ?_⟩⟩
    · rw [nI_1] at e11
      subst e11
      refine hK _ ⟨h', ?_, hF', hs'⟩
      have : ¬ (sailM B S).testBit j = true := fun z => q ((bt_1 hsm (by omega)).mpr z)
      have e : wUp B S seed (j + 1) = wUp B S seed j := by
        conv => lhs; unfold wUp
        rw [if_neg this]
      rw [e]
    · have z := (bt_1 hsm (by omega)).mp q
      refine P_wayOf hr hrs O' hB S' hSB hap hj (fun h12 hF12 hs12 => ?_)
      intro x14 e14 x15 e15
      have po := pack_or (p := wUp B S seed j) (w := wayF B S seed j (windF B (sH S))) (j := j) (by omega) (wUp_lt B S seed j (by omega)) (by have := hw5 j; omega)
      have e14' : x14 = nI (wUp B S seed (j + 1)) := by
        rw [e14, po.1]
        have e : wUp B S seed (j + 1) = wUp B S seed j + wayF B S seed j (windF B (sH S)) * 8 ^ j := by
          conv => lhs; unfold wUp
          rw [if_pos z]
        rw [e]
      rw [nI_1] at e15
      subst e14'; subst e15
      exact hK _ ⟨h12, rfl, hF'.tr hF12, hs'.tr hs12⟩
  · rintro t K ⟨h', rfl, hF', hs'⟩
    have S' : ScOK h' s S := hS.fr (fun a p1 p2 => (hF' a (fun z => apF a z ⟨p1, p2⟩)).1)
    unfold DB_Bay_passHour_22
    rw [(hO.scr hs').2.2.1]
    refine ⟨fun _ => ?_, fun q => absurd (Int32.le_refl _) q⟩
    have hwl : wUp B S seed (bN B) < 262145 := by
      have h1 := wUp_lt B S seed (bN B) hn
      have h2 : 8 ^ (bN B) ≤ 262144 := (e8 ⟨bN B, by omega⟩).2
      omega
    refine lp_for (bN B) (fun j t => ∃ h2, t = (nI j, h2) ∧ Fr (FHo b s) h h2 ∧ BScr b h h2 ∧ ScOK h2 s (mUp B S seed j)) ?_ ?_ _ ⟨h', rfl, hF'.mono (fun q hq => Or.inl hq), hs', S'⟩
    · rintro j t K hj ⟨h2, rfl, hF2, hs2, hS2⟩ hK
      have O2 := hO.scr hs2
      unfold DB_Bay_passHour_70
      rw [O2.2.2.1]
      refine ⟨fun q => absurd ((nI_leI (by omega) (by omega)).mp q) (by omega), fun _ => ⟨fun q x24 e24 => ?_, fun q => ?_⟩⟩
      · rw [nI_1] at e24
        subst e24
        refine hK _ ⟨h2, rfl, hF2, hs2, ?_⟩
        have : ¬ (sailM B S).testBit j = true := fun z => q ((bt_1 hsm (by omega)).mpr z)
        unfold mUp
        rw [if_neg this]
        exact hS2
      · have z := (bt_1 hsm (by omega)).mp q
        rw [unpack (by omega) hwl, wUp_at B S seed z (bN B) hj hn]
        refine P_move hr hrs O2 hB hS2 (mUp_B hB hSB j (by omega)).1 hap hj (by have := hw5 j; omega) (fun h3 hF3 hS3 => ?_)
        intro x27 e27
        rw [nI_1] at e27
        subst e27
        refine hK _ ⟨h3, rfl, hF2.tr (hF3.mono (fun q hq => by unfold FHo; unfold FMo at hq; right; omega)), hs2.tr (BScr.out (fun a p1 p2 => (hF3 a (fun hq => by unfold FMo at hq; exact apB a (by omega) (by omega) ⟨p1, p2⟩)).1)), ?_⟩
        unfold mUp
        rw [if_pos z]
        exact hS3
    · rintro t K ⟨h2, rfl, hF2, hs2, hS2⟩
      have M := mUp_B (seed := seed) hB hSB (bN B) hn
      unfold DB_Bay_passHour_70
      rw [(hO.scr hs2).2.2.1]
      refine ⟨fun _ => ?_, fun q => absurd (Int32.le_refl _) q⟩
      intro h31 e31
      rw [hS2.1, nI_1] at e31
      have S31 : ScOK h31 s (nextH (mUp B S seed (bN B))) := by
        obtain ⟨a1, a2, a3, a4, a5, a6, a7⟩ := hS2
        refine ⟨?_, ?_, ?_, ?_, fun i hi => ?_, fun i hi => ?_, fun i hi => ?_⟩
        · rw [e31, pI_s]; rfl
        · rw [e31, pI_n _ _ _ _ (by omega)]; exact a2
        · rw [e31, pI_n _ _ _ _ (by omega)]; exact a3
        · rw [e31, pI_n _ _ _ _ (by omega)]; exact a4
        · rw [e31, pI_n _ _ _ _ (by omega)]; exact a5 i hi
        · rw [e31, pI_n _ _ _ _ (by omega)]; exact a6 i hi
        · rw [e31, pI_n _ _ _ _ (by omega)]; exact a7 i hi
      have s31 : BScr b h h31 := hs2.tr (BScr.out (fun a p1 p2 => by rw [e31]; exact pI_o _ _ _ _ (fun z => apB a (by omega) (by omega) ⟨p1, p2⟩)))
      have f31 : Fr (FHo b s) h h31 := hF2.tr (by rw [e31]; exact Fr.pI (by unfold FHo; right; omega))
      refine P_layDishes hr hrs (hO.scr s31) hB S31 (nextH_B M.1 (by rw [M.2]; exact hh)) hap (fun h32 hF32 hs32 hS32 => ?_)
      exact hQ h32 (f31.tr (hF32.mono (fun q hq => by unfold FHo; unfold FLa at hq; rcases hq with z | z; exact Or.inl z; right; omega))) (s31.tr hs32) hS32
/-- n hours -/
def hoursS (B : By) (seed : Int32) : Nat → Sc → Sc
  | 0, S => S
  | n + 1, S => hourS B seed (hoursS B seed n S)
theorem hoursS_B {B : By} {S : Sc} {seed : Int32} (hB : ByB B) (hSB : ScB S) : ∀ n, sH S + n ≤ 1000000 → ScB (hoursS B seed n S) ∧ sH (hoursS B seed n S) = sH S + n := by
  intro n
  induction n with
  | zero => intro _; exact ⟨hSB, rfl⟩
  | succ n ih =>
    intro hn
    have h1 := ih (by omega)
    have h2 := hourS_B (seed := seed) hB h1.1 (by omega)
    exact ⟨h2.1, by show sH (hourS B seed _) = _; rw [h2.2, h1.2]; omega⟩
theorem P_passHours {r : TR} {h : TH} {b s n : Nat} {B : By} {S : Sc} {seed : Int32} {Q : TH → Prop} (hr : RBa r b) (hrs : RSc r s) (hO : BayOK h b B) (hB : ByB B) (hS : ScOK h s S) (hSB : ScB S) (hap : apart b s) (hh : sH S + n ≤ 1000000) (hn : n < 1000)
    (hQ : ∀ h', Fr (FHo b s) h h' → BScr b h h' → ScOK h' s (hoursS B seed n S) → Q h') : D_Bay_passHours r b s (nI n) seed h Q := by
  unfold D_Bay_passHours
  refine lp_for n (fun j t => ∃ h', t = (nI j, h') ∧ Fr (FHo b s) h h' ∧ BScr b h h' ∧ ScOK h' s (hoursS B seed j S)) ?_ ?_ _ ⟨h, rfl, Fr.rf, BScr.rf, hS⟩
  · rintro j t K hj ⟨h', rfl, hF', hs', hS'⟩ hK
    have M := hoursS_B (seed := seed) hB hSB j (by omega)
    unfold DB_Bay_passHours_3
    refine ⟨fun q => absurd ((nI_leI (by omega) (by omega)).mp q) (by omega), fun _ => ?_⟩
    refine P_passHour hr hrs (hO.scr hs') hB hS' M.1 hap (by omega) (fun h2 hF2 hs2 hS2 => ?_)
    intro x5 e5
    rw [nI_1] at e5
    subst e5
    exact hK _ ⟨h2, rfl, hF'.tr hF2, hs'.tr hs2, hS2⟩
  · rintro t K ⟨h', rfl, hF', hs', hS'⟩
    unfold DB_Bay_passHours_3
    exact ⟨fun _ => hQ h' hF' hs' hS', fun q => absurd (Int32.le_refl _) q⟩
