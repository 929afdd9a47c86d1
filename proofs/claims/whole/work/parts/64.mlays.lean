/-! laying: the reference's side -/
def layS (k c v : Nat) (S : Sc) : Sc := (sH S, sP S, sL S, sO S, sC S, sA S, fun i => if i = 40 * k + c then v else sY S i)
theorem layC_H (B : By) (t k c : Nat) : layH (layC B t k c) = nI t ∧ layT (layC B t k c) = nI (t + clamp9 (tellsF (lyV t (bS B k) k c) (bPL B))) := by
  have hc := clamp9_le (tellsF (lyV t (bS B k) k c) (bPL B))
  unfold layH layT layC
  rw [if_neg (by omega), if_neg (by omega)]
  exact ⟨congrArg nI (by omega), congrArg nI (by omega)⟩
theorem P_Mo_lays {r : TR} {h : TH} {m L n k c : Nat} {wo rk : Int32} {B : By} {S : Sc} {Q : TH → Prop} (hr : RMo r m) (hO : MBay h m L rk B) (hB : ByB B) (hn : n = bN B) (hR : RowOK (h.1 (m + 32)) n wo S) (hk : k < n) (hc : c < 40)
    (hQ : ∀ h', MK m h h' → RowOK (h'.1 (m + 32)) n wo (layS k c (layC B (sH S) k c) S) → Q h') : D_Mo_lays r m (nI k) (nI (c % 8)) (nI (c / 8)) h Q := by
  have hn6 : n ≤ 6 := by rw [hn]; exact hB.2.2.1
  have r49 : r m 49 = m + 32 := hr 49 (by decide) (by decide)
  have r45 : r m 45 = m + 29 := hr 45 (by decide) (by decide)
  have r28 : r m 28 = m + 15 := hr 28 (by decide) (by decide)
  have z30 : (30 : Int32).toNatClampNeg = 30 := by decide
  have z1 : (1 : Int32).toNatClampNeg = 1 := by decide
  have z2 : (2 : Int32).toNatClampNeg = 2 := by decide
  have z6 : (6 : Int32).toNatClampNeg = 6 := by decide
  have z7 : (7 : Int32).toNatClampNeg = 7 := by decide
  have hL := hO.2.1
  unfold D_Mo_lays
  rw [r49, r45, r28, z30, z1, z2, z6, z7, hR.1]
  refine P_looks hr (fun h2 f2 v0 vz => ?_)
  have k2 : MK m h h2 := ⟨f2.mono (fun q hq => by unfold FMs; omega), fun j _ => congrFun (f2 m (by omega)).1 j⟩
  intro h5 e5 h7 e7 h9 e9
  have k9 : MK m h h9 := by
    rw [e9, e7, e5]
    exact ((k2.tr (MK.pI (by omega))).tr (MK.pI (by omega))).tr (MK.pI (by omega))
  intro i12 e12
  rw [k9.2 18 (by omega), hO.1] at e12
  have e12' : i12 = nI (6 * L + k) := by
    rw [e12]
    have : (6 : Int32) * nI L = nI (6 * L) := pk_mul 6 L
    rw [this, nI_add]
  subst e12'
  rw [nI_clamp (n := 6 * L + k) (by omega)]
  refine ⟨vp_in_nI (by omega) (by omega), ?_⟩
  intro h13 e13
  rw [k9.at (x := m + 15) (by unfold FMs; omega), (hO.2.2.2.2.2.2.2.2.2.1 k (by omega)).2.2.1] at e13
  have k13 : MK m h h13 := k9.tr (by rw [e13]; exact MK.pI (by omega))
  have O13 := hO.mk k13
  have row13 : h13.1 (m + 32) = h.1 (m + 32) := by
    rw [e13, pI_o _ _ _ _ (by omega), e9, pI_o _ _ _ _ (by omega), e7, pI_o _ _ _ _ (by omega), e5, pI_o _ _ _ _ (by omega)]
    exact (f2 (m + 32) (by omega)).1
  refine P_asks (k := 2) (plain := 1) hr O13.1 O13.2.1 (by omega) (by omega) O13.2.2.2.2.2.2.2.2.2.2.2.2 (fun h14 s14 => ?_)
  have ev : tellsF (h13.1 (m + 29)) (bPL B) = tellsF (lyV (sH S) (bS B k) k c) (bPL B) := by
    refine tellsF_cg (fun i hi => ?_) _ _ (Nat.le_refl _) (O13.2.2.2.2.2.2.2.2.2.2.2.2.wf (by omega))
    unfold lyV
    have low : ∀ i, i = 0 ∨ i = 3 ∨ i = 4 ∨ i = 5 ∨ i = 8 → h13.1 (m + 29) i = h2.1 (m + 29) i := by
      intro i hi
      rw [e13, pI_n _ _ _ _ (by omega), e9, pI_n _ _ _ _ (by omega), e7, pI_n _ _ _ _ (by omega), e5, pI_n _ _ _ _ (by omega)]
    rcases (show i = 0 ∨ i = 1 ∨ i = 2 ∨ i = 3 ∨ i = 4 ∨ i = 5 ∨ i = 6 ∨ i = 7 ∨ i = 8 by omega) with rfl | rfl | rfl | rfl | rfl | rfl | rfl | rfl | rfl
    · rw [low 0 (by omega)]; exact v0
    · rw [e13, pI_n _ _ _ _ (by omega), e9, pI_n _ _ _ _ (by omega), e7, pI_n _ _ _ _ (by omega), e5, pI_s]; rfl
    · rw [e13, pI_n _ _ _ _ (by omega), e9, pI_n _ _ _ _ (by omega), e7, pI_s]; rfl
    · rw [low 3 (by omega)]; exact vz 3 (by omega) (by omega)
    · rw [low 4 (by omega)]; exact vz 4 (by omega) (by omega)
    · rw [low 5 (by omega)]; exact vz 5 (by omega) (by omega)
    · rw [e13, pI_n _ _ _ _ (by omega), e9, pI_s]; rfl
    · rw [e13, pI_s]; rfl
    · rw [low 8 (by omega)]; exact vz 8 (by omega) (by omega)
  rw [ev]
  have k14 : MK m h h14 := k13.tr (MK.sm s14)
  have row14 : h14.1 (m + 32) = h.1 (m + 32) := by rw [s14.at (by omega) (by omega)]; exact row13
  intro x17 e17
  rw [idx6 c k hc] at e17
  subst e17
  have e32 : (32 : Int32) + nI (6 * c + k) = nI (32 + (6 * c + k)) := nI_add 32 _
  have e272 : (272 : Int32) + nI (6 * c + k) = nI (272 + (6 * c + k)) := nI_add 272 _
  rw [e32, nI_clamp (n := 32 + (6 * c + k)) (by omega), row14, hR.1]
  refine ⟨vp_in_nI (by omega) (by omega), ?_⟩
  intro h20 e20
  have h20h : h20.1 (m + 32) 30 = nI (sH S) := by rw [e20, pI_n _ _ _ _ (by omega), row14]; exact hR.1
  have k20 : MK m h h20 := k14.tr (by rw [e20]; exact MK.pI (by omega))
  rw [e272, nI_clamp (n := 272 + (6 * c + k)) (by omega), h20h]
  obtain ⟨lh, lt⟩ := layC_H B (sH S) k c
  have fin : ∀ (v : Int32) (h25 : TH), v = nI (sH S + clamp9 (tellsF (lyV (sH S) (bS B k) k c) (bPL B))) → h25 = pI h20 (m + 32) (272 + (6 * c + k)) v → Q h25 := by
    intro v h25 ev' e25
    refine hQ h25 (k20.tr (by rw [e25]; exact MK.pI (by omega))) ?_
    have lo : ∀ i, i < 32 → h25.1 (m + 32) i = h.1 (m + 32) i := fun i hi => by rw [e25, pI_n _ _ _ _ (by omega), e20, pI_n _ _ _ _ (by omega), row14]
    obtain ⟨q1, q2, q3, q4⟩ := hR
    refine ⟨by rw [lo 30 (by omega)]; exact q1, by rw [lo 31 (by omega)]; exact q2, fun j hj => ?_, fun c' hc' d' hd' => ?_⟩
    · rw [lo j (by omega), lo (6 + j) (by omega), lo (24 + j) (by omega), lo (12 + j) (by omega), lo (18 + j) (by omega)]
      exact q3 j hj
    · obtain ⟨p1, p2⟩ := q4 c' hc' d' hd'
      show h25.1 (m + 32) (32 + (6 * c' + d')) = layH (if 40 * d' + c' = 40 * k + c then layC B (sH S) k c else sY S (40 * d' + c')) ∧ h25.1 (m + 32) (272 + (6 * c' + d')) = layT (if 40 * d' + c' = 40 * k + c then layC B (sH S) k c else sY S (40 * d' + c'))
      by_cases e : 40 * d' + c' = 40 * k + c
      · have ec : c' = c := by omega
        have ed : d' = k := by omega
        rw [if_pos e, ec, ed, lh, lt]
        refine ⟨?_, ?_⟩
        · rw [e25, pI_n _ _ _ _ (by omega), e20, pI_s]
        · rw [e25, pI_s, ev']
      · rw [if_neg e]
        refine ⟨?_, ?_⟩
        · rw [e25, pI_n _ _ _ _ (by omega), e20, pI_n _ _ _ _ (by omega), row14]; exact p1
        · rw [e25, pI_n _ _ _ _ (by omega), e20, pI_n _ _ _ _ (by omega), row14]; exact p2
  have hx := clamp9_eq (tellsF (lyV (sH S) (bS B k) k c) (bPL B))
  generalize tellsF (lyV (sH S) (bS B k) k c) (bPL B) = x at fin hx ⊢
  refine ⟨fun q => ⟨fun q2 => ⟨vp_in_nI (by omega) (by omega), fun h25 e25 => fin _ h25 ?_ e25⟩, fun q2 => ⟨vp_in_nI (by omega) (by omega), fun h25 e25 => fin _ h25 ?_ e25⟩⟩, fun q => ⟨vp_in_nI (by omega) (by omega), fun h25 e25 => fin _ h25 ?_ e25⟩⟩
  · obtain ⟨j, hj, ej⟩ := nn_of q
    rw [ej] at q2 ⊢
    have j9 := (nI_leI (a := j) (b := 9) hj (by omega)).mp q2
    rw [nI_add]
    apply congrArg nI
    apply congrArg (sH S + ·)
    unfold clamp9
    by_cases e9' : j = 9
    · subst e9'; decide
    · rw [if_pos (show nI j < 9 from (nI_ltI (a := j) (b := 9) hj (by omega)).mpr (by omega))]
      by_cases e0 : j = 0
      · subst e0; decide
      · rw [if_pos (show 0 < nI j from (nI_ltI (a := 0) (b := j) (by omega) hj).mpr (by omega)), nI_clamp hj]
  · have e9' : (9 : Int32) = nI 9 := rfl
    rw [e9', nI_add]
    apply congrArg nI
    apply congrArg (sH S + ·)
    unfold clamp9
    rw [if_neg (fun z => q2 (Int32.le_of_lt z))]
  · have e9' : (0 : Int32) = nI 0 := rfl
    rw [e9', nI_add]
    apply congrArg nI
    apply congrArg (sH S + ·)
    unfold clamp9
    have hneg : x < 0 := by rw [← Int32.not_le]; exact q
    have h9 : x < 9 := by
      rw [Int32.lt_iff_toInt_lt] at hneg ⊢
      have a1 : (0 : Int32).toInt = 0 := by decide
      have a2 : (9 : Int32).toInt = 9 := by decide
      omega
    rw [if_pos h9, if_neg]
    rw [Int32.not_lt]
    exact Int32.le_of_lt hneg
theorem P_laysAll {r : TR} {h : TH} {m L n : Nat} {wo rk : Int32} {B : By} {S : Sc} {Q : TH → Prop} (hr : RMo r m) (hO : MBay h m L rk B) (hB : ByB B) (hn : n = bN B) (hR : RowOK (h.1 (m + 32)) n wo S) (hw : h.1 m 51 = wo) (hSB : ScB S) (hP : ScP n S)
    (hQ : ∀ h', MK m h h' → RowOK (h'.1 (m + 32)) n wo (layAll B S) → Q h') : D_Mo_laysAll r m h Q := by
  have hn6 : n ≤ 6 := by rw [hn]; exact hB.2.2.1
  have r49 : r m 49 = m + 32 := hr 49 (by decide) (by decide)
  have r25 : r m 25 = m + 12 := hr 25 (by decide) (by decide)
  have r28 : r m 28 = m + 15 := hr 28 (by decide) (by decide)
  have z30 : (30 : Int32).toNatClampNeg = 30 := by decide
  have hL := hO.2.1
  have hw4 := way4_le (tellsF (windV (sH S)) (bPW B))
  have hwf : windF B (sH S) < 8 := by unfold windF; omega
  unfold D_Mo_laysAll
  rw [r49, z30, hR.1]
  refine P_windIn hr hO (fun h2 f2 k2 => ?_)
  have R2 : RowOK (h2.1 (m + 32)) n wo S := by rw [(f2 (m + 32) (by omega)).1]; exact hR
  have H : ∀ j, sH (layUp B (windF B (sH S)) (sailM B S &&& sP S) j S) = sH S := layUp_H _ _ _ _
  have Same : ∀ j, sL (layUp B (windF B (sH S)) (sailM B S &&& sP S) j S) = sL S ∧ sO (layUp B (windF B (sH S)) (sailM B S &&& sP S) j S) = sO S ∧ sC (layUp B (windF B (sH S)) (sailM B S &&& sP S) j S) = sC S ∧ sP (layUp B (windF B (sH S)) (sailM B S &&& sP S) j S) = sP S ∧ sA (layUp B (windF B (sH S)) (sailM B S &&& sP S) j S) = sA S := by
    intro j
    induction j with
    | zero => exact ⟨rfl, rfl, rfl, rfl, rfl⟩
    | succ j ih => unfold layUp; split; exact ih; exact ih
  refine lp_for (bN B) (fun j t => ∃ h', t = (nI j, h') ∧ MK m h h' ∧ RowOK (h'.1 (m + 32)) n wo (layUp B (windF B (sH S)) (sailM B S &&& sP S) j S)) ?_ ?_ _ ⟨h2, rfl, k2, R2⟩
  · rintro j t K hj ⟨h', rfl, k', R'⟩ hK
    have O' := hO.mk k'
    have hj6 : j < 6 := by omega
    obtain ⟨sm1, sm2, sm3, sm4, sm5⟩ := Same j
    have hwo : h'.1 m 51 = wo := by rw [k'.2 51 (by omega)]; exact hw
    have hP' : ScP n (layUp B (windF B (sH S)) (sailM B S &&& sP S) j S) := by
      intro k hk ho
      rw [sm2] at ho
      rw [sm5, sm1]
      exact hP k hk ho
    have hsl : sail (layUp B (windF B (sH S)) (sailM B S &&& sP S) j S) j = sail S j := by unfold sail; rw [sm1, sm2]
    unfold DB_Mo_laysAll_14
    intro i7 e7
    rw [O'.1] at e7
    subst e7
    rw [r25, nI_clamp (n := L) (by omega), O'.2.2.2.2.2.1]
    have skip : ¬ (sailM B S &&& sP S).testBit j = true → ∀ x12 : Int32, x12 = nI j + 1 → K (x12, h') := by
      intro z x12 e12
      rw [nI_1] at e12
      subst e12
      refine hK _ ⟨h', rfl, k', ?_⟩
      unfold layUp
      rw [if_neg z]
      exact R'
    refine ⟨vp_in_nI hL (by omega), fun q => absurd ((nI_leI (by omega) (by omega)).mp q) (by omega), fun _ => ?_⟩
    refine P_Mo_isSailing hr R' hwo hP' hn6 (by omega) (fun hs => ⟨fun z => absurd z z01, fun _ => ?_⟩) (fun hs => ⟨fun _ => skip ?_, fun z => absurd rfl z⟩)
    · rw [hsl] at hs
      intro i14 e14
      have e14' : i14 = nI (24 + j) := by rw [e14]; exact nI_add 24 j
      subst e14'
      obtain ⟨g1, g2, g3, g4, g5⟩ := R'.2.2.1 j (by omega)
      rw [sm3] at g1 g2
      rw [sm4] at g3
      rw [r49, nI_clamp (n := 24 + j) (by omega), g3]
      refine ⟨vp_in_nI (by omega) (by omega), fun q => ?_, fun q => skip ?_⟩
      · have hp : (sP S).testBit j = true := by
          cases hp : (sP S).testBit j with
          | true => rfl
          | false => rw [hp] at q; exact absurd rfl q
        have hbit : (sailM B S &&& sP S).testBit j = true := by
          rw [Nat.testBit_and, sailM_bit hB hSB hj6, hs, hp]
          simp [hj]
        have hcj := hSB.2.2.2.2.1 j hj6
        refine ⟨vp_in_nI (by omega) (by omega), ?_⟩
        intro x17 e17
        rw [nI_clamp (n := j) (by omega), g1] at e17
        subst e17
        intro i19 e19
        have e19' : i19 = nI (6 + j) := by rw [e19]; exact nI_add 6 j
        subst e19'
        rw [nI_clamp (n := 6 + j) (by omega), g2]
        refine ⟨vp_in_nI (by omega) (by omega), ?_⟩
        intro x20 e20
        subst e20
        refine P_Mo_lays hr O' hB hn R' (by omega) hcj (fun h21 k21 R21 => ?_)
        rw [H j] at R21
        have nextS : ∀ Y : Nat → Nat, Y = layRun B (sH S) j (windF B (sH S)) (bS B j + 1) (some (sC S j)) (sY (layUp B (windF B (sH S)) (sailM B S &&& sP S) j S)) → (sH (layUp B (windF B (sH S)) (sailM B S &&& sP S) j S), sP (layUp B (windF B (sH S)) (sailM B S &&& sP S) j S), sL (layUp B (windF B (sH S)) (sailM B S &&& sP S) j S), sO (layUp B (windF B (sH S)) (sailM B S &&& sP S) j S), sC (layUp B (windF B (sH S)) (sailM B S &&& sP S) j S), sA (layUp B (windF B (sH S)) (sailM B S &&& sP S) j S), Y) = layUp B (windF B (sH S)) (sailM B S &&& sP S) (j + 1) S := by
          intro Y eY
          conv => rhs; unfold layUp
          rw [if_pos hbit]
          unfold layD
          rw [H j, sm3, ← eY]
        have hst := (hB.2.2.2.2.2.2.1 j hj).2.2.1
        have leave : ∀ (h3 : TH) (Y : Nat → Nat), MK m h h3 → RowOK (h3.1 (m + 32)) n wo (sH (layUp B (windF B (sH S)) (sailM B S &&& sP S) j S), sP (layUp B (windF B (sH S)) (sailM B S &&& sP S) j S), sL (layUp B (windF B (sH S)) (sailM B S &&& sP S) j S), sO (layUp B (windF B (sH S)) (sailM B S &&& sP S) j S), sC (layUp B (windF B (sH S)) (sailM B S &&& sP S) j S), sA (layUp B (windF B (sH S)) (sailM B S &&& sP S) j S), Y) → Y = layRun B (sH S) j (windF B (sH S)) (bS B j + 1) (some (sC S j)) (sY (layUp B (windF B (sH S)) (sailM B S &&& sP S) j S)) → ∀ x47 : Int32, x47 = nI j + 1 → K (x47, h3) := by
          intro h3 Y k3 R3 eY x47 e47
          rw [nI_1] at e47
          subst e47
          refine hK _ ⟨h3, rfl, k3, ?_⟩
          rw [← nextS Y eY]
          exact R3
        refine lp_for (bS B j) (fun i t => ∃ h3 c Y, t = (nI (c % 8), nI (c / 8), nI i, h3) ∧ c < 40 ∧ MK m h h3 ∧ RowOK (h3.1 (m + 32)) n wo (sH (layUp B (windF B (sH S)) (sailM B S &&& sP S) j S), sP (layUp B (windF B (sH S)) (sailM B S &&& sP S) j S), sL (layUp B (windF B (sH S)) (sailM B S &&& sP S) j S), sO (layUp B (windF B (sH S)) (sailM B S &&& sP S) j S), sC (layUp B (windF B (sH S)) (sailM B S &&& sP S) j S), sA (layUp B (windF B (sH S)) (sailM B S &&& sP S) j S), Y) ∧ layRun B (sH S) j (windF B (sH S)) (bS B j - i) (downF B c (windF B (sH S))) Y = layRun B (sH S) j (windF B (sH S)) (bS B j + 1) (some (sC S j)) (sY (layUp B (windF B (sH S)) (sailM B S &&& sP S) j S))) ?_ ?_ _ ⟨h21, sC S j, _, rfl, hcj, k'.tr k21, R21, rfl⟩
        · rintro i t K2 hi ⟨h3, c, Y, rfl, hc, k3, R3, hY⟩ hK2
          have O3 := hO.mk k3
          unfold DB_Mo_laysAll_79
          intro i25 e25
          rw [O3.1] at e25
          have e25' : i25 = nI (6 * L + j) := by
            rw [e25]
            have : (6 : Int32) * nI L = nI (6 * L) := pk_mul 6 L
            rw [this, nI_add]
          subst e25'
          rw [r28, nI_clamp (n := 6 * L + j) (by omega), (O3.2.2.2.2.2.2.2.2.2.1 j hj).2.2.1]
          refine ⟨vp_in_nI (by omega) (by omega), fun q => absurd ((nI_leI (by omega) (by omega)).mp q) (by omega), fun _ => ?_⟩
          refine P_eastBy (by omega) ?_
          intro x29 e29
          refine P_southBy (by omega) ?_
          intro x32 e32
          subst e29; subst e32
          have em : bS B j - i = (bS B j - (i + 1)) + 1 := by omega
          refine P_stepM hr O3 hB hc (fun d hd ex ey => ⟨fun z => absurd z z01, fun _ => ?_⟩) (fun hd => ⟨fun _ => ?_, fun z => absurd rfl z⟩)
          · have hbd := besF_lt hB.1 hB.2.1 hd
            show D_Mo_sortAt r m (nI (c % 8) + eI (windF B (sH S))) (nI (c / 8) + soI (windF B (sH S))) h3 _
            rw [ex, ey]
            have hk3 : bK B d ≤ 3 := by have := hB.2.2.2.2.2.1 d hbd.1; split at this <;> omega
            refine P_sortAt hr O3 hbd.1 hbd.2.1 hbd.2.2 ⟨fun q => ?_, fun q => ?_⟩
            · have n1 : ¬ bK B d = 1 := fun z => q (by rw [z]; rfl)
              have hdn : downF B c (windF B (sH S)) = some d := by unfold downF; rw [hd]; dsimp only; rw [if_neg n1]
              refine P_Mo_lays hr O3 hB hn R3 (by omega) hbd.1 (fun h4 k4 R4 => ?_)
              intro x41 e41
              have e41' : x41 = nI (i + 1) := by rw [e41]; exact nI_1 i
              subst e41'
              have hH3 : sH (layUp B (windF B (sH S)) (sailM B S &&& sP S) j S) = sH S := H j
              refine hK2 _ ⟨h4, d, _, rfl, hbd.1, k3.tr k4, R4, ?_⟩
              rw [← hY, em, hdn]
              simp only [layRun]
              rw [hH3]
            · have n1 : bK B d = 1 := (nI_eq (a := bK B d) (b := 1) (by omega) (by omega)).mp q
              have hdn : downF B c (windF B (sH S)) = none := by unfold downF; rw [hd]; dsimp only; rw [if_pos n1]
              refine leave h3 Y k3 R3 ?_
              rw [← hY, em, hdn]; rfl
          · have hdn : downF B c (windF B (sH S)) = none := by unfold downF; rw [hd]
            refine leave h3 Y k3 R3 ?_
            rw [← hY, em, hdn]; rfl
        · rintro t K2 ⟨h3, c, Y, rfl, hc, k3, R3, hY⟩
          have O3 := hO.mk k3
          unfold DB_Mo_laysAll_79
          intro i25 e25
          rw [O3.1] at e25
          have e25' : i25 = nI (6 * L + j) := by
            rw [e25]
            have : (6 : Int32) * nI L = nI (6 * L) := pk_mul 6 L
            rw [this, nI_add]
          subst e25'
          rw [r28, nI_clamp (n := 6 * L + j) (by omega), (O3.2.2.2.2.2.2.2.2.2.1 j hj).2.2.1]
          refine ⟨vp_in_nI (by omega) (by omega), fun _ => leave h3 Y k3 R3 ?_, fun q => absurd (Int32.le_refl _) q⟩
          rw [← hY, Nat.sub_self]; rfl
      · have hp : (sP S).testBit j = false := by
          cases hp : (sP S).testBit j with
          | false => rfl
          | true => rw [hp] at q; exact absurd q (by decide)
        rw [Nat.testBit_and, hp]; simp
    · rw [hsl] at hs
      rw [Nat.testBit_and, sailM_bit hB hSB hj6, hs]; simp
  · rintro t K ⟨h', rfl, k', R'⟩
    have O' := hO.mk k'
    unfold DB_Mo_laysAll_14
    intro i7 e7
    rw [O'.1] at e7
    subst e7
    rw [r25, nI_clamp (n := L) (by omega), O'.2.2.2.2.2.1]
    exact ⟨vp_in_nI hL (by omega), fun _ => hQ h' k' R', fun q => absurd (Int32.le_refl _) q⟩
