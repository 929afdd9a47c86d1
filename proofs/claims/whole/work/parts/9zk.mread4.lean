/-! read: the reference's side, whole -/
theorem P_Mnew {r : TR} {m L J t b K : Nat} {h h0 h' : TH} {A : St} {P : PSt} {Q : Int32 → TH → Prop} (hr : RMo r m) (hm : AM h m L A) (hs : 1 - L < 2) (s : MD r h0 h' m (1 - L) (fun j => byC (tA A j)) (tL A) J t b K P) (pv : PV P) (hf : dF P = none) (hal : aflB (dB P) = true) (R : PR m (1 - L) h h') (e2 : h'.1 m 2 = 0)
    (hok : ∀ h9, Fr (fun a => m ≤ a ∧ a < m + 44) h h9 → AM h9 m (1 - L) (newS (dB P) (tA A)) → RG2 h9 m (1 - L) → Q 0 h9) : DJ_Mo_read_210 r m (-1) m h' Q := by
  obtain ⟨hB, -⟩ := pv.bay hf hal
  have r64 : r m 64 = m + 42 := hr 64 (by decide) (by decide)
  unfold DJ_Mo_read_210
  intro h49 e49
  have k13 : h49.1 m 13 = 0 := by rw [e49, pI_n _ _ _ _ (by omega)]; exact s.1.1.2.2.1
  have k15 : h49.1 m 15 = 0 := by rw [e49, pI_n _ _ _ _ (by omega)]; exact s.2.2.2.2.1.1 hf
  have k19 : h49.1 m 19 = nI (1 - L) := by rw [e49, pI_n _ _ _ _ (by omega)]; exact s.1.2.2.2.2
  rw [k13, k15, k19]
  refine ⟨fun _ => ⟨fun _ h52 e52 => ?_, fun z => absurd (Int32.le_refl _) z⟩, fun z => absurd (Int32.le_refl _) z⟩
  have o52 : ∀ a, ¬ a = m → h52.1 a = h'.1 a := fun a ha => by rw [e52, pI_o _ _ _ _ ha, e49, pI_o _ _ _ _ ha]
  have l52 : h52.2 = h'.2 := by rw [e52, pI_l, e49, pI_l]
  obtain ⟨O, RR⟩ := s.bay hs hf (h' := pI h52 m 52 (-1)) (fun a ha => by rw [pI_o _ _ _ _ ha]; exact o52 a ha) (by rw [pI_n _ _ _ _ (by omega), e52, pI_s]) (pI_s _ _ _ _)
  unfold D_Mo_begins
  refine P_beginsBy hr O hB rfl (fun h53 f53 k53 _ _ _ row53 => ?_)
  refine P_keepsRow hr (fun h55 f55 c55 h57 e57 h58 e58 => ?_)
  have b58 : ∀ a, ¬ a = m → h58.1 a = h55.1 a := fun a ha => by rw [e58, pI_o _ _ _ _ ha, e57, pI_o _ _ _ _ ha]
  have l58 : h58.2 = h55.2 := by rw [e58, pI_l, e57, pI_l]
  refine lp_for 3 (fun j x => ∃ h9, x = (nI j, h9) ∧ Fr (fun a => a = m + 42) h58 h9 ∧ ∀ i, i < j → h9.1 (m + 42) i = 0) ?_ ?_ _ ⟨h58, rfl, Fr.rf, fun i hi => absurd hi (Nat.not_lt_zero _)⟩
  · rintro j x KK hj ⟨h9, rfl, f9, g9⟩ hK
    have n0 : vp_nar .boolean 0 = 0 := by decide
    unfold DB_Mo_read_265
    show (3 ≤ nI j → _) ∧ (¬ 3 ≤ nI j → _)
    rw [r64, nI_clamp (n := j) (by omega), n0]
    refine ⟨fun z => absurd ((nI_leI (a := 3) (by omega) (by omega)).mp z) (by omega), fun _ => ⟨vp_in_nI (by omega) (by omega), fun h62 e62 x63 e63 => ?_⟩⟩
    rw [nI_1] at e63; subst e63
    refine hK _ ⟨h62, rfl, f9.tr (by rw [e62]; exact Fr.pI rfl), fun i hi => ?_⟩
    rw [e62]
    by_cases w : i = j
    · subst w; rw [pI_s]
    · rw [pI_n _ _ _ _ (by omega)]; exact g9 i (by omega)
  · rintro x KK ⟨h9, rfl, f9, g9⟩
    unfold DB_Mo_read_265
    refine ⟨fun _ => ?_, fun z => absurd (show (3 : Int32) ≤ nI 3 from Int32.le_refl _) z⟩
    show Q 0 h9
    have B9 : ∀ a, m < a → a < m + 28 → h9.1 a = (pI h52 m 52 (-1)).1 a := fun a y z => by rw [(f9 a (by omega)).1, b58 a (by omega), (f55 a (by omega)).1, (f53 a (by unfold FMs; omega)).1, pI_o _ _ _ _ (by omega)]
    have M9 : ∀ j, ¬ j = 47 → ¬ j = 50 → ¬ j = 51 → ¬ j = 52 → ¬ j = 54 → ¬ j = 60 → h9.1 m j = h52.1 m j := fun j x1 x2 x3 x4 x5 x6 => by rw [(f9 m (by omega)).1, e58, pI_n _ _ _ _ (by omega), e57, pI_n _ _ _ _ (by omega), (f55 m (by omega)).1, k53 j x1 x2 x3 x4]
    have W9 : h9.2 (m + 7) = h.2 (m + 7) := by rw [(f9 (m + 7) (by omega)).2, l58, (f55 (m + 7) (by omega)).2, (f53 (m + 7) (by unfold FMs; omega)).2, l52, (R.1 (m + 7) (by omega)).2]
    have RG9 : RG2 h9 m (1 - L) := by
      unfold RG2
      rw [B9 _ (by omega) (by omega), B9 (m + 20) (by omega) (by omega), B9 (m + 21) (by omega) (by omega), B9 (m + 22) (by omega) (by omega), B9 (m + 23) (by omega) (by omega), B9 (m + 24) (by omega) (by omega), B9 (m + 25) (by omega) (by omega)]
      exact RR
    refine hok h9 ?_ ⟨MBay.mv (fun a y z => by rw [pI_o _ _ _ _ (by omega)]; exact B9 a y z) (by rw [pI_n _ _ _ _ (by omega), pI_n _ _ _ _ (by omega)]; exact M9 18 (by omega) (by omega) (by omega) (by omega) (by omega) (by omega)) (pI_s _ _ _ _) O, ?_, ⟨?_, fun i hi => absurd hi (Nat.not_lt_zero _)⟩, fun i hi => ⟨?_, fun S w => (by cases w)⟩, ⟨?_, fun i hi => absurd hi (Nat.not_lt_zero _)⟩, ⟨?_, fun i hi => absurd hi (Nat.not_lt_zero _)⟩, ?_, fun i hi => absurd hi (Nat.not_lt_zero _), RG.of (fun k hk => by rw [W9]; exact hm.2.2.2.2.2.2.2.2.1 k hk) RG9⟩ RG9
    · intro a ha
      have y1 := f9 a (by omega)
      have y3 := f55 a (by omega)
      have y4 := f53 a (by unfold FMs; omega)
      have y5 := R.1 a (by omega)
      exact ⟨by rw [y1.1, b58 a (by omega), y3.1, y4.1, o52 a (by omega), y5.1], by rw [y1.2, l58, y3.2, y4.2, l52, y5.2]⟩
    · have e31 : h9.1 (m + 31) = h55.1 (m + 31) := by rw [(f9 _ (by omega)).1, b58 _ (by omega)]
      rw [e31]
      exact row53.cg hB.2.2.1 c55
    · rw [(f9 m (by omega)).1, e58, pI_n _ _ _ _ (by omega), e57, pI_s]; rfl
    · rw [g9 i hi]; rfl
    · rw [(f9 m (by omega)).1, e58, pI_s]; rfl
    · rw [M9 2 (by omega) (by omega) (by omega) (by omega) (by omega) (by omega), e52, pI_n _ _ _ _ (by omega), e49, pI_n _ _ _ _ (by omega)]; exact e2
    · rw [M9 17 (by omega) (by omega) (by omega) (by omega) (by omega) (by omega), e52, pI_n _ _ _ _ (by omega), e49, pI_s]; rfl
theorem RG2.mv {h h' : TH} {m L : Nat} (e : ∀ x, m + 19 ≤ x → x ≤ m + 25 → h'.1 x = h.1 x) (g : RG2 h m L) : RG2 h' m L := by
  unfold RG2
  rw [e (m + 19) (by omega) (by omega), e (m + 20) (by omega) (by omega), e (m + 21) (by omega) (by omega), e (m + 22) (by omega) (by omega), e (m + 23) (by omega) (by omega), e (m + 24) (by omega) (by omega), e (m + 25) (by omega) (by omega)]
  exact g
theorem AI.err {T : Nat} {A : St} {p : Int32} (h : AI T A) : AI T (errS p A) := ⟨h.1, h.2.1, h.2.2.1, h.2.2.2.1, h.2.2.2.2.1, h.2.2.2.2.2.1, h.2.2.2.2.2.2.1, Nat.zero_le _, h.2.2.2.2.2.2.2.2⟩
theorem AI.new {T : Nat} {B : By} {v : Nat → Int32} (hB : ByB B) (ha : afl B) (hT : T ≤ 100000) : AI T (newS B v) := ⟨hB, beginS_I hB ha, Nat.zero_le _, fun i hi => absurd hi (Nat.not_lt_zero _), fun s hs S w => (by cases w), Nat.zero_le _, fun i hi => absurd hi (Nat.not_lt_zero _), Nat.zero_le _, hT⟩
theorem J_read {r : TR} {q b d m L T : Nat} {h : TH} {A : St} {Q : Int32 → Int32 → TR → TH → Prop} (C : Cx r q b d m L T h A) (hQ : ∀ x r' b' d' L' h' A', Cx r' q b' d' m L' T h' A' → Q x x r' h') : D_SR_read r q h (fun x r1 h1 => D_Mo_read r1 m h1 (fun y h2 => Q x y r1 h2)) := by
  obtain ⟨hR, hM, hqm, hA, hx, hm⟩ := C
  have hb : ∀ i, i < tL A → isB (tA A i) := hm.2.2.2.2.2.2.2.1
  have hL : L < 2 := hm.1.2.1
  have rg : RG2 h m L := hm.2.2.2.2.2.2.2.2.2
  have hT : T ≤ 100000 := hA.2.2.2.2.2.2.2.2
  have low : ∀ {h1 : TH}, Fr (fun a => q ≤ a ∧ a < q + 207) h h1 → AM h1 m L A ∧ RG2 h1 m L := fun f => ⟨hm.out (f.mono (fun a x => by omega)), rg.mv (fun x y z => (f x (by omega)).1)⟩
  refine P_SRread hR hA hx hb (fun J P sJ hP pv hf hal r' h1 hR' Rs f1 X1 => ?_) (fun J e sJ hP h1 f1 X1 => ?_)
  · obtain ⟨hm1, rg1⟩ := low f1
    have hM' : RMo r' m := fun j hj hz => by rw [Rs m (by omega)]; exact hM j hj hz
    refine P_Mread0 hM' hA hm1 sJ (fun P' t b' K h0 h2 hP' s pv' hf' hal' R e2 => ?_) (fun e h2 he => ?_)
    · rw [hP] at hP'
      cases hP'
      refine P_Mnew hM' hm1 (by omega) s pv hf hal R e2 (fun h9 f9 M9 R9 => ?_)
      obtain ⟨hB, ha⟩ := pv.bay hf hal
      exact hQ 0 r' d b (1 - L) h9 _ ⟨hR', hM', hqm, AI.new hB ha hT, X1.out hR'.ap (Nat.zero_le _) (f9.mono (fun a x => by omega)), M9⟩
    · rw [hP] at he
      cases he
  · obtain ⟨hm1, rg1⟩ := low f1
    refine P_Mread0 hM hA hm1 sJ (fun P' t b' K h0 h2 hP' => ?_) (fun e' h2 he R e2 => ?_)
    · rw [hP] at hP'
      cases hP'
    · rw [hP] at he
      cases he
      have R' : PR m (1 - L) h1 (pI h2 m 17 (nI e.2)) := R.tr (PR.fd (by omega))
      have M9 : AM (pI h2 m 17 (nI e.2)) m L (errS (nI e.2) A) := AM.err hA hm1 rg1 R' (by rw [pI_n _ _ _ _ (by omega)]; exact e2) (pI_s _ _ _ _)
      exact hQ (nI e.1) r b d L _ _ ⟨hR, hM, hqm, hA.err, X1.out hR.ap hA.2.2.1 (R'.1.mono (fun a x => by omega)), M9⟩
