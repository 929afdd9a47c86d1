theorem mUp_P {n : Nat} {B : By} {S : Sc} {seed : Int32} (hn : n ≤ 6) (hB : ByB B) (hSB : ScB S) (h : ScP n S) : ∀ j, j ≤ 6 → ScP n (mUp B S seed j) ∧ (∀ k, j ≤ k → k < 6 → sail (mUp B S seed j) k = sail S k) := by
  intro j
  induction j with
  | zero => intro _; exact ⟨h, fun _ _ _ => rfl⟩
  | succ j ih =>
    intro hj
    obtain ⟨h1, h2⟩ := ih (by omega)
    have hb := mUp_B (seed := seed) hB hSB j (by omega)
    unfold mUp
    split
    · rename_i hs
      have hs' : sail S j = true := by
        rw [sailM_bit hB hSB (by omega)] at hs
        simp at hs
        exact hs.2
      have hsj : sail (mUp B S seed j) j = true := by rw [h2 j (Nat.le_refl _) (by omega)]; exact hs'
      refine ⟨moveS_P hn hB hb.1 h1 (by omega) hsj, fun k hk hk6 => ?_⟩
      rw [← h2 k (by omega) hk6]
      have hlt := hb.1.2.2.1
      have hot := hb.1.2.2.2.1
      have hjk : ¬ k = j := by omega
      unfold moveS
      split
      · rfl
      · split
        · rfl
        · split
          · unfold sail lostS
            show (!(sL (mUp B S seed j) ||| 2 ^ j).testBit k && !(sO (mUp B S seed j)).testBit k) = _
            rw [tbor hlt (by omega) hk6]
            simp [hjk]
          · split
            · unfold sail homeS
              show (!(sL (mUp B S seed j)).testBit k && !(sO (mUp B S seed j) ||| 2 ^ j).testBit k) = _
              rw [tbor hot (by omega) hk6]
              simp [hjk]
            · rfl
    · exact ⟨h1, fun k hk hk6 => h2 k (by omega) hk6⟩
theorem layAll_P {n : Nat} {B : By} {S : Sc} (h : ScP n S) : ScP n (layAll B S) := by
  have : ∀ j, ScP n (layUp B (windF B (sH S)) (sailM B S &&& sP S) j S) := by
    intro j
    induction j with
    | zero => exact h
    | succ j ih => unfold layUp; split; exact ih; exact ih
  exact this _
theorem hourS_P {n : Nat} {B : By} {S : Sc} {seed : Int32} (hn : n ≤ 6) (hB : ByB B) (hSB : ScB S) (h : ScP n S) : ScP n (hourS B seed S) := layAll_P (show ScP n (nextH (mUp B S seed (bN B))) from (mUp_P hn hB hSB h (bN B) hB.2.2.1).1)
theorem P_hourGoes {r : TR} {h : TH} {m L n : Nat} {wo rk seed : Int32} {B : By} {S : Sc} {Q : TH → Prop} (hr : RMo r m) (hO : MBay h m L rk B) (hB : ByB B) (hn : n = bN B) (hR : RowOK (h.1 (m + 32)) n wo S) (hw : h.1 m 51 = wo) (hs : h.1 m 50 = seed) (hSB : ScB S) (hP : ScP n S) (hh : sH S < 1000000)
    (hQ : ∀ h', MK m h h' → RowOK (h'.1 (m + 32)) n wo (hourS B seed S) → Q h') : D_Mo_hourGoes r m h Q := by
  have hn6 : n ≤ 6 := by rw [hn]; exact hB.2.2.1
  have r49 : r m 49 = m + 32 := hr 49 (by decide) (by decide)
  have r25 : r m 25 = m + 12 := hr 25 (by decide) (by decide)
  have r53 : r m 53 = m + 33 := hr 53 (by decide) (by decide)
  have z30 : (30 : Int32).toNatClampNeg = 30 := by decide
  have hL := hO.2.1
  have hw5 : ∀ j, wayF B S seed j (windF B (sH S)) < 5 := fun j => way5_lt _
  unfold D_Mo_hourGoes
  refine lp_for (bN B) (fun j t => ∃ h', t = (nI j, h') ∧ MK m h h' ∧ h'.1 (m + 32) = h.1 (m + 32) ∧ ∀ k, k < j → h'.1 (m + 33) k = nI (if sail S k = true then wayF B S seed k (windF B (sH S)) else 0)) ?_ ?_ _ ⟨h, rfl, MK.rf, rfl, fun k hk => absurd hk (Nat.not_lt_zero _)⟩
  · rintro j t K hj ⟨h', rfl, k', row', ways'⟩ hK
    have O' := hO.mk k'
    have R' : RowOK (h'.1 (m + 32)) n wo S := by rw [row']; exact hR
    have hwo : h'.1 m 51 = wo := by rw [k'.2 51 (by omega)]; exact hw
    have hse : h'.1 m 50 = seed := by rw [k'.2 50 (by omega)]; exact hs
    unfold DB_Mo_hourGoes_2
    intro i3 e3
    rw [O'.1] at e3
    subst e3
    rw [r25, r53, nI_clamp (n := L) (by omega), O'.2.2.2.2.2.1]
    refine ⟨vp_in_nI hL (by omega), fun q => absurd ((nI_leI (by omega) (by omega)).mp q) (by omega), fun _ => ?_⟩
    refine P_Mo_isSailing hr R' hwo hP hn6 (by omega) (fun hsl => ⟨fun z => absurd z z01, fun _ => ?_⟩) (fun hsl => ⟨fun _ => ⟨vp_in_nI (by omega) (by omega), ?_⟩, fun z => absurd rfl z⟩)
    · refine P_Mo_wayOf hr O' hB hn R' hwo hse hSB hP (by omega) hsl (fun h11 f11 k11 => ⟨vp_in_nI (by omega) (by omega), ?_⟩)
      intro h13 e13 x14 e14
      rw [nI_clamp (n := j) (by omega)] at e13
      rw [nI_1] at e14
      subst e14
      refine hK _ ⟨h13, rfl, (k'.tr k11).tr (by rw [e13]; exact MK.pI (by omega)), ?_, fun k hk => ?_⟩
      · rw [e13, pI_o _ _ _ _ (by omega), (f11 (m + 32) (by omega)).1]; exact row'
      · by_cases e : k = j
        · rw [e13, e, pI_s, if_pos hsl]
        · rw [e13, pI_n _ _ _ _ (by omega), (f11 (m + 33) (by omega)).1]; exact ways' k (by omega)
    · intro h9 e9 x10 e10
      rw [nI_clamp (n := j) (by omega)] at e9
      rw [nI_1] at e10
      subst e10
      refine hK _ ⟨h9, rfl, k'.tr (by rw [e9]; exact MK.pI (by omega)), ?_, fun k hk => ?_⟩
      · rw [e9, pI_o _ _ _ _ (by omega)]; exact row'
      · by_cases e : k = j
        · rw [e9, e, pI_s, if_neg (by rw [hsl]; decide)]; rfl
        · rw [e9, pI_n _ _ _ _ (by omega)]; exact ways' k (by omega)
  · rintro t K ⟨h', rfl, k', row', ways'⟩
    have O' := hO.mk k'
    unfold DB_Mo_hourGoes_2
    intro i3 e3
    rw [O'.1] at e3
    subst e3
    rw [r25, nI_clamp (n := L) (by omega), O'.2.2.2.2.2.1]
    refine ⟨vp_in_nI hL (by omega), fun _ => ?_, fun q => absurd (Int32.le_refl _) q⟩
    refine lp_for (bN B) (fun j t => ∃ h2, t = (nI j, h2) ∧ MK m h h2 ∧ RowOK (h2.1 (m + 32)) n wo (mUp B S seed j) ∧ h2.1 (m + 33) = h'.1 (m + 33)) ?_ ?_ _ ⟨h', rfl, k', by rw [row']; exact hR, rfl⟩
    · rintro j t K hj ⟨h2, rfl, k2, R2, w2⟩ hK
      have O2 := hO.mk k2
      have MB := mUp_B (seed := seed) hB hSB j (by omega)
      have MP := mUp_P (seed := seed) hn6 hB hSB hP j (by omega)
      unfold DB_Mo_hourGoes_46
      intro i20 e20
      rw [O2.1] at e20
      subst e20
      rw [r25, r53, nI_clamp (n := L) (by omega), O2.2.2.2.2.2.1]
      refine ⟨vp_in_nI hL (by omega), fun q => absurd ((nI_leI (by omega) (by omega)).mp q) (by omega), fun _ => ⟨vp_in_nI (by omega) (by omega), ?_⟩⟩
      show D_Mo_goesBy r m (nI j) (h2.1 (m + 33) (nI j).toNatClampNeg) h2 _
      rw [nI_clamp (n := j) (by omega), w2, ways' j hj]
      have hsj : sail (mUp B S seed j) j = sail S j := MP.2 j (Nat.le_refl _) (by omega)
      cases hsl : sail S j with
      | true =>
        rw [if_pos rfl]
        refine P_goesBy hr O2 hB hn R2 MB.1 (by omega) (by have := hw5 j; omega) (Or.inr (by rw [hsj]; exact hsl)) (fun h3 k3 f3 R3 => ?_)
        intro x25 e25
        rw [nI_1] at e25
        subst e25
        refine hK _ ⟨h3, rfl, k2.tr k3, ?_, by rw [(f3 (m + 33) (by omega)).1]; exact w2⟩
        unfold mUp
        rw [if_pos (by rw [sailM_bit hB hSB (by omega), hsl]; simp [hj])]
        exact R3
      | false =>
        rw [if_neg (by decide)]
        refine P_goesBy hr O2 hB hn R2 MB.1 (by omega) (by omega) (Or.inl rfl) (fun h3 k3 f3 R3 => ?_)
        intro x25 e25
        rw [nI_1] at e25
        subst e25
        refine hK _ ⟨h3, rfl, k2.tr k3, ?_, by rw [(f3 (m + 33) (by omega)).1]; exact w2⟩
        unfold mUp
        rw [if_neg (by rw [sailM_bit hB hSB (by omega), hsl]; simp)]
        have e0 : (moveS B j 0 (mUp B S seed j)).2 = mUp B S seed j := by
          unfold moveS
          split
          · rfl
          · rw [if_pos rfl]
        rw [e0] at R3
        exact R3
    · rintro t K ⟨h2, rfl, k2, R2, w2⟩
      have O2 := hO.mk k2
      have MB := mUp_B (seed := seed) hB hSB (bN B) hB.2.2.1
      have MP := mUp_P (seed := seed) hn6 hB hSB hP (bN B) hB.2.2.1
      unfold DB_Mo_hourGoes_46
      intro i20 e20
      rw [O2.1] at e20
      subst e20
      rw [r25, nI_clamp (n := L) (by omega), O2.2.2.2.2.2.1]
      refine ⟨vp_in_nI hL (by omega), fun _ => ?_, fun q => absurd (Int32.le_refl _) q⟩
      intro h30 e30
      rw [r49, z30] at e30
      have e30' : h30 = pI h2 (m + 32) 30 (nI (sH (mUp B S seed (bN B)) + 1)) := by
        rw [e30]
        show pI h2 (m + 32) 30 (h2.1 (m + 32) 30 + 1) = _
        rw [R2.1, nI_1]
      have k30 : MK m h h30 := k2.tr (by rw [e30']; exact MK.pI (by omega))
      have row30 : ∀ i, ¬ i = 30 → h30.1 (m + 32) i = h2.1 (m + 32) i := fun i a => by rw [e30', pI_n _ _ _ _ (by omega)]
      have R30 : RowOK (h30.1 (m + 32)) n wo (nextH (mUp B S seed (bN B))) := by
        obtain ⟨q1, q2, q3, q4⟩ := R2
        refine ⟨by rw [e30', pI_s]; rfl, by rw [row30 31 (by omega)]; exact q2, fun j hj => ?_, fun c' hc' d' hd' => ?_⟩
        · rw [row30 j (by omega), row30 (6 + j) (by omega), row30 (24 + j) (by omega), row30 (12 + j) (by omega), row30 (18 + j) (by omega)]
          exact q3 j hj
        · rw [row30 (32 + (6 * c' + d')) (by omega), row30 (272 + (6 * c' + d')) (by omega)]
          exact q4 c' hc' d' hd'
      refine P_laysAll hr (hO.mk k30) hB hn R30 (by rw [k30.2 51 (by omega)]; exact hw) (nextH_B MB.1 (by rw [MB.2]; exact hh)) (show ScP n (nextH (mUp B S seed (bN B))) from MP.1) (fun h31 k31 R31 => hQ h31 (k30.tr k31) R31)
theorem hoursS_P {n : Nat} {B : By} {S : Sc} {seed : Int32} (hn : n ≤ 6) (hB : ByB B) (hSB : ScB S) (h : ScP n S) : ∀ k, sH S + k ≤ 1000000 → ScP n (hoursS B seed k S) := by
  intro k
  induction k with
  | zero => intro _; exact h
  | succ k ih => intro hk; exact hourS_P hn hB (hoursS_B hB hSB k (by omega)).1 (ih (by omega))
theorem P_goes {r : TR} {h : TH} {m L n t : Nat} {wo rk seed : Int32} {B : By} {S : Sc} {Q : TH → Prop} (hr : RMo r m) (hO : MBay h m L rk B) (hB : ByB B) (hn : n = bN B) (hR : RowOK (h.1 (m + 32)) n wo S) (hw : h.1 m 51 = wo) (hs : h.1 m 50 = seed) (hSB : ScB S) (hP : ScP n S) (hh : sH S + t ≤ 1000000) (ht : t < 1000)
    (hQ : ∀ h', MK m h h' → RowOK (h'.1 (m + 32)) n wo (hoursS B seed t S) → Q h') : D_Mo_goes r m (nI t) h Q := by
  have hn6 : n ≤ 6 := by rw [hn]; exact hB.2.2.1
  unfold D_Mo_goes
  refine lp_for t (fun j s => ∃ h', s = (nI j, h') ∧ MK m h h' ∧ RowOK (h'.1 (m + 32)) n wo (hoursS B seed j S)) ?_ ?_ _ ⟨h, rfl, MK.rf, hR⟩
  · rintro j s K hj ⟨h', rfl, k', R'⟩ hK
    have M := hoursS_B (seed := seed) hB hSB j (by omega)
    have MP := hoursS_P (seed := seed) hn6 hB hSB hP j (by omega)
    unfold DB_Mo_goes_2
    refine ⟨fun q => absurd ((nI_leI (by omega) (by omega)).mp q) (by omega), fun _ => ?_⟩
    refine P_hourGoes (seed := seed) hr (hO.mk k') hB hn R' (by rw [k'.2 51 (by omega)]; exact hw) (by rw [k'.2 50 (by omega)]; exact hs) M.1 MP (by omega) (fun h2 k2 R2 => ?_)
    intro x5 e5
    rw [nI_1] at e5
    subst e5
    exact hK _ ⟨h2, rfl, k'.tr k2, R2⟩
  · rintro s K ⟨h', rfl, k', R'⟩
    unfold DB_Mo_goes_2
    exact ⟨fun _ => hQ h' k' R', fun q => absurd (Int32.le_refl _) q⟩
