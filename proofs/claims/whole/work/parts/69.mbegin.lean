/-! rows kept and copied, the text begun: the reference's side -/
theorem P_keepsRow {r : TR} {h : TH} {m : Nat} {Q : TH → Prop} (hr : RMo r m) (hQ : ∀ h', Fr (fun a => a = m + 31) h h' → (∀ i, i < 512 → h'.1 (m + 31) i = h.1 (m + 32) i) → Q h') : D_Mo_keepsRow r m h Q := by
  have r49 : r m 49 = m + 32 := hr 49 (by decide) (by decide)
  have r48 : r m 48 = m + 31 := hr 48 (by decide) (by decide)
  unfold D_Mo_keepsRow
  refine lp_for 512 (fun j t => ∃ h', t = (nI j, h') ∧ Fr (fun a => a = m + 31) h h' ∧ ∀ i, i < j → h'.1 (m + 31) i = h.1 (m + 32) i) ?_ ?_ _ ⟨h, rfl, Fr.rf, fun i hi => absurd hi (Nat.not_lt_zero _)⟩
  · rintro j t K hj ⟨h', rfl, f', v'⟩ hK
    unfold DB_Mo_keepsRow_2
    refine ⟨fun q => absurd ((nI_leI (a := 512) (by omega) (by omega)).mp q) (by omega), fun _ => ⟨vp_in_nI (by omega) (by omega), vp_in_nI (by omega) (by omega), ?_⟩⟩
    intro h5 e5 x6 e6
    rw [r48, r49, nI_clamp (n := j) (by omega)] at e5
    rw [nI_1] at e6
    subst e6
    have e5' : h5 = pI h' (m + 31) j (h.1 (m + 32) j) := by rw [e5]; show pI h' (m + 31) j (h'.1 (m + 32) j) = _; rw [(f' (m + 32) (by omega)).1]
    refine hK _ ⟨h5, rfl, f'.tr (by rw [e5']; exact Fr.pI rfl), fun i hi => ?_⟩
    by_cases e : i = j
    · rw [e5', e, pI_s]
    · rw [e5', pI_n _ _ _ _ (by omega)]; exact v' i (by omega)
  · rintro t K ⟨h', rfl, f', v'⟩
    unfold DB_Mo_keepsRow_2
    exact ⟨fun _ => hQ h' f' v', fun q => absurd (show (512 : Int32) ≤ nI 512 from Int32.le_refl _) q⟩
/-- fields lots, without, rockAt of the reference may change, and its row -/
def FCp (m : Nat) : Nat → Prop := fun a => a = m ∨ a = m + 32
theorem P_plainly {r : TR} {h : TH} {m L : Nat} {sd : Int32} {Q : TH → Prop} (hr : RMo r m) (hl : h.1 m 18 = nI L) (hL : L < 2) (hsd : h.1 (m + 18) L = sd) (hQ : ∀ h', Fr (fun a => a = m) h h' → (∀ j, ¬ j = 50 → ¬ j = 51 → ¬ j = 52 → h'.1 m j = h.1 m j) → h'.1 m 50 = sd → h'.1 m 51 = -1 → h'.1 m 52 = -1 → Q h') : D_Mo_plainly r m h Q := by
  have r31 : r m 31 = m + 18 := hr 31 (by decide) (by decide)
  unfold D_Mo_plainly
  intro i2 e2
  rw [hl] at e2
  subst e2
  refine ⟨vp_in_nI hL (by omega), ?_⟩
  intro h3 e3 h4 e4 h5 e5
  rw [r31, nI_clamp (n := L) (by omega), hsd] at e3
  refine hQ h5 ?_ (fun j a b c => ?_) ?_ ?_ ?_
  · rw [e5, e4, e3]
    exact ((Fr.pI (F := fun a => a = m) rfl).tr (Fr.pI (F := fun a => a = m) rfl)).tr (Fr.pI (F := fun a => a = m) rfl)
  · rw [e5, pI_n _ _ _ _ (by omega), e4, pI_n _ _ _ _ (by omega), e3, pI_n _ _ _ _ (by omega)]
  · rw [e5, pI_n _ _ _ _ (by omega), e4, pI_n _ _ _ _ (by omega), e3, pI_s]
  · rw [e5, pI_n _ _ _ _ (by omega), e4, pI_s]
  · rw [e5, pI_s]
theorem P_copies {r : TR} {h : TH} {m L : Nat} {sd : Int32} {Q : TH → Prop} (hr : RMo r m) (hl : h.1 m 18 = nI L) (hL : L < 2) (hsd : h.1 (m + 18) L = sd) (hQ : ∀ h', Fr (FCp m) h h' → (∀ j, ¬ j = 50 → ¬ j = 51 → ¬ j = 52 → h'.1 m j = h.1 m j) → h'.1 m 50 = sd → h'.1 m 51 = -1 → h'.1 m 52 = -1 → (∀ i, i < 512 → h'.1 (m + 32) i = h.1 (m + 31) i) → Q h') : D_Mo_copies r m h Q := by
  have r49 : r m 49 = m + 32 := hr 49 (by decide) (by decide)
  have r48 : r m 48 = m + 31 := hr 48 (by decide) (by decide)
  unfold D_Mo_copies
  refine lp_for 512 (fun j t => ∃ h', t = (nI j, h') ∧ Fr (fun a => a = m + 32) h h' ∧ ∀ i, i < j → h'.1 (m + 32) i = h.1 (m + 31) i) ?_ ?_ _ ⟨h, rfl, Fr.rf, fun i hi => absurd hi (Nat.not_lt_zero _)⟩
  · rintro j t K hj ⟨h', rfl, f', v'⟩ hK
    unfold DB_Mo_copies_2
    refine ⟨fun q => absurd ((nI_leI (a := 512) (by omega) (by omega)).mp q) (by omega), fun _ => ⟨vp_in_nI (by omega) (by omega), vp_in_nI (by omega) (by omega), ?_⟩⟩
    intro h5 e5 x6 e6
    rw [r48, r49, nI_clamp (n := j) (by omega)] at e5
    rw [nI_1] at e6
    subst e6
    have e5' : h5 = pI h' (m + 32) j (h.1 (m + 31) j) := by rw [e5]; show pI h' (m + 32) j (h'.1 (m + 31) j) = _; rw [(f' (m + 31) (by omega)).1]
    refine hK _ ⟨h5, rfl, f'.tr (by rw [e5']; exact Fr.pI rfl), fun i hi => ?_⟩
    by_cases e : i = j
    · rw [e5', e, pI_s]
    · rw [e5', pI_n _ _ _ _ (by omega)]; exact v' i (by omega)
  · rintro t K ⟨h', rfl, f', v'⟩
    unfold DB_Mo_copies_2
    refine ⟨fun _ => ?_, fun q => absurd (show (512 : Int32) ≤ nI 512 from Int32.le_refl _) q⟩
    refine P_plainly (sd := sd) hr (by rw [(f' m (by omega)).1]; exact hl) hL (by rw [(f' (m + 18) (by omega)).1]; exact hsd) (fun h2 f2 k2 a50 a51 a52 => ?_)
    refine hQ h2 ((f'.mono (fun q hq => by unfold FCp; omega)).tr (f2.mono (fun q hq => by unfold FCp; omega))) (fun j a b c => by rw [k2 j a b c, (f' m (by omega)).1]) a50 a51 a52 (fun i hi => ?_)
    rw [(f2 (m + 32) (by omega)).1]; exact v' i hi
theorem RowOK.cg {f g : Nat → Int32} {n : Nat} {wo : Int32} {S : Sc} (hn : n ≤ 6) (e : ∀ i, i < 512 → g i = f i) (h : RowOK f n wo S) : RowOK g n wo S := by
  obtain ⟨q1, q2, q3, q4⟩ := h
  refine ⟨by rw [e 30 (by omega)]; exact q1, by rw [e 31 (by omega)]; exact q2, fun j hj => ?_, fun c hc d hd => ?_⟩
  · rw [e j (by omega), e (6 + j) (by omega), e (24 + j) (by omega), e (12 + j) (by omega), e (18 + j) (by omega)]; exact q3 j hj
  · rw [e (32 + (6 * c + d)) (by omega), e (272 + (6 * c + d)) (by omega)]; exact q4 c hc d hd
theorem begUp_P {n : Nat} {B : By} (hn : n ≤ 6) (hB : ByB B) : ∀ j, j ≤ bN B → ScP n (begUp B j) ∧ (∀ k, j ≤ k → k < 6 → (sO (begUp B j)).testBit k = false) ∧ sL (begUp B j) = 0 := by
  have hn6 := hB.2.2.1
  intro j
  induction j with
  | zero =>
    intro _
    have z : ∀ k, (0 : Nat).testBit k = false := fun k => Nat.zero_testBit k
    exact ⟨fun k _ hb => absurd ((z k).symm.trans hb) (by decide), fun k _ _ => z k, rfl⟩
  | succ j ih =>
    intro hj
    obtain ⟨h1, h2, h3⟩ := ih (by omega)
    have hb := begUp_B hB j (by omega)
    have hc := startF_lt hB (k := j) (by omega)
    unfold begUp
    split
    · refine ⟨homeS_P hn (cellS_B hb.1 hc) (cellS_P h1) (by omega) (h2 j (Nat.le_refl _) (by omega)) (by show (sL (begUp B j)).testBit j = false; rw [h3]; exact Nat.zero_testBit j), fun k hk hk6 => ?_, h3⟩
      show (sO (begUp B j) ||| 2 ^ j).testBit k = false
      rw [tbor hb.1.2.2.2.1 (by omega) hk6, h2 k (by omega) hk6]
      have : ¬ k = j := by omega
      simp [this]
    · exact ⟨h1, fun k hk hk6 => h2 k (by omega) hk6, h3⟩
theorem all_bit : ∀ n : Fin 7, ∀ k : Fin 6, (2 ^ n.1 - 1).testBit k.1 = decide (k.1 < n.1) := by decide +kernel
theorem begUp_pans {B : By} : ∀ j, sP (begUp B j) = 2 ^ bN B - 1 := by
  intro j
  induction j with
  | zero => rfl
  | succ j ih => unfold begUp; split; exact ih; exact ih
