/-! read: the reference's side, the text cut and told -/
theorem P_Mread0 {r : TR} {m L T J : Nat} {h : TH} {A : St} {Q : Int32 → TH → Prop} (hr : RMo r m) (hA : AI T A) (hm : AM h m L A) (sJ : stp (fun j => byC (tA A j)) (tL A) J)
    (hok : ∀ P t b K h0 h', rdP (fun j => byC (tA A j)) (tL A) = .ok P → MD r h0 h' m (1 - L) (fun j => byC (tA A j)) (tL A) J t b K P → PV P → dF P = none → aflB (dB P) = true → PR m (1 - L) h h' → h'.1 m 2 = 0 → DJ_Mo_read_210 r m (-1) m h' Q)
    (her : ∀ e h', rdP (fun j => byC (tA A j)) (tL A) = .error e → PR m (1 - L) h h' → h'.1 m 2 = 0 → Q (nI e.1) (pI h' m 17 (nI e.2))) : D_Mo_read r m h Q := by
  have hn : tL A ≤ 2000 := hA.2.2.2.2.2.2.2.1
  obtain ⟨g1, -, -, -, -, ⟨g6, g6'⟩, g7, g8, g9⟩ := hm
  have hL : L < 2 := g1.2.1
  have e18 : h.1 m 18 = nI L := by have := g1.1; rw [pI_n _ _ _ _ (by omega)] at this; exact this
  have r1 : r m 1 = m + 1 := hr 1 (by decide) (by decide)
  have r3 : r m 3 = m + 2 := hr 3 (by decide) (by decide)
  have hJ := sJ.J
  have hsd : 1 - L < 2 := by omega
  unfold D_Mo_read
  intro h1 e1
  rw [g6] at e1
  refine lp_for (tL A) (fun j x => ∃ h', x = (nI j, h') ∧ Fr (fun a => a = m + 2) h1 h' ∧ ∀ i, i < j → h'.1 (m + 2) i = tA A i) ?_ ?_ _ ⟨h1, rfl, Fr.rf, fun i hi => absurd hi (Nat.not_lt_zero _)⟩
  · rintro j x KK hj ⟨h', rfl, f', g'⟩ hK
    have e4 : h'.1 m 4 = nI (tL A) := by rw [(f' m (by omega)).1, e1, pI_s]
    have ea : h'.1 (m + 1) j = tA A j := by rw [(f' (m + 1) (by omega)).1, e1, pI_o _ _ _ _ (by omega)]; exact g6' j hj
    unfold DB_Mo_read_10
    show (h'.1 m 4 ≤ nI j → _) ∧ (¬ h'.1 m 4 ≤ nI j → _)
    rw [e4, r1, r3, nI_clamp (n := j) (by omega), ea, nar_b (g8 j hj)]
    refine ⟨fun z => absurd ((nI_leI (by omega) (by omega)).mp z) (by omega), fun _ => ⟨vp_in_nI (by omega) (by omega), vp_in_nI (by omega) (by omega), fun h6 e6 x7 e7 => ?_⟩⟩
    rw [nI_1] at e7; subst e7
    refine hK _ ⟨h6, rfl, f'.tr (by rw [e6]; exact Fr.pI rfl), fun i hi => ?_⟩
    rw [e6]
    by_cases w : i = j
    · subst w; rw [pI_s]
    · rw [pI_n _ _ _ _ (by omega)]; exact g' i (by omega)
  · rintro x KK ⟨h10, rfl, f10, g10⟩
    have e4 : h10.1 m 4 = nI (tL A) := by rw [(f10 m (by omega)).1, e1, pI_s]
    unfold DB_Mo_read_10
    refine ⟨fun _ => ?_, fun z => absurd (by show h10.1 m 4 ≤ nI (tL A); rw [e4]; exact Int32.le_refl _) z⟩
    intro h11 e11
    have R11 : PR m (1 - L) h h11 := by
      have a1 : PR m (1 - L) h h1 := by rw [e1]; exact PR.fd (by omega)
      have a2 : PR m (1 - L) h1 h10 := ⟨f10.mono (fun a x => by omega), fun j _ _ _ _ _ _ => by rw [(f10 m (by omega)).1], fun a x p q _ => by rw [(f10 a (by omega)).1]⟩
      have a3 : PR m (1 - L) h10 h11 := by rw [e11]; exact PR.fd (by omega)
      exact (a1.tr a2).tr a3
    have tp : TpM r h11 m (tL A) (tA A) := ⟨hr, by rw [e11, pI_n _ _ _ _ (by omega)]; exact e4, hn, fun i hi => ⟨by rw [e11, pI_o _ _ _ _ (by omega)]; exact g10 i hi, g8 i hi⟩⟩
    refine P_cut tp (fun k hk => by rw [(R11.1 (m + 7) (by omega)).2]; exact g9.1 k hk) sJ (fun h12 f12 m12 t12 h14 e14 h15 e15 h16 e16 h17 e17 h18 e18' h19 e19 => ?_)
    have e18b : h17.1 m 18 = nI L := by rw [e17, pI_n _ _ _ _ (by omega), e16, pI_n _ _ _ _ (by omega), e15, pI_n _ _ _ _ (by omega), e14, pI_n _ _ _ _ (by omega), m12 18 (by omega), R11.2.1 18 (by unfold fdM; omega) (by omega) (by omega) (by omega) (by omega) (by omega)]; exact e18
    have esd : (1 : Int32) - nI L = nI (1 - L) := by
      have : L = 0 ∨ L = 1 := by omega
      rcases this with rfl | rfl <;> decide
    rw [e18b, esd] at e18'
    have k19 : h19.1 m 19 = nI (1 - L) := by rw [e19, pI_n _ _ _ _ (by omega), e18', pI_s]
    have R12 : PR m (1 - L) h11 h12 := ⟨f12.mono (fun a x => by omega), fun j _ _ _ x4 _ _ => m12 j x4, fun a x p q _ => by rw [(f12 a (by omega)).1]⟩
    have R19 : PR m (1 - L) h12 h19 := by
      rw [e19, e18', e17, e16, e15, e14]
      exact (((((PR.fd (by unfold fdM; omega)).tr (PR.fd (by unfold fdM; omega))).tr (PR.fd (by unfold fdM; omega))).tr (PR.fd (by unfold fdM; omega))).tr (PR.fd (by unfold fdM; omega))).tr (PR.fd (by unfold fdM; omega))
    have o19 : ∀ a, ¬ a = m → h19.1 a = h12.1 a := fun a ha => by rw [e19, pI_o _ _ _ _ ha, e18', pI_o _ _ _ _ ha, e17, pI_o _ _ _ _ ha, e16, pI_o _ _ _ _ ha, e15, pI_o _ _ _ _ ha, e14, pI_o _ _ _ _ ha]
    have l19 : h19.2 = h12.2 := by rw [e19, pI_l, e18', pI_l, e17, pI_l, e16, pI_l, e15, pI_l, e14, pI_l]
    have k2 : h19.1 m 2 = 0 := by rw [e19, pI_n _ _ _ _ (by omega), e18', pI_n _ _ _ _ (by omega), e17, pI_n _ _ _ _ (by omega), e16, pI_n _ _ _ _ (by omega), e15, pI_n _ _ _ _ (by omega), e14, pI_n _ _ _ _ (by omega), m12 2 (by omega), e11, pI_s]
    have k11 : h19.1 m 11 = 0 := by rw [e19, pI_n _ _ _ _ (by omega), e18', pI_n _ _ _ _ (by omega), e17, pI_n _ _ _ _ (by omega), e16, pI_n _ _ _ _ (by omega), e15, pI_n _ _ _ _ (by omega), e14, pI_s]
    have k12 : h19.1 m 12 = 0 := by rw [e19, pI_n _ _ _ _ (by omega), e18', pI_n _ _ _ _ (by omega), e17, pI_n _ _ _ _ (by omega), e16, pI_n _ _ _ _ (by omega), e15, pI_s]
    have k13 : h19.1 m 13 = 0 := by rw [e19, pI_n _ _ _ _ (by omega), e18', pI_n _ _ _ _ (by omega), e17, pI_n _ _ _ _ (by omega), e16, pI_s]
    have k15 : h19.1 m 15 = 0 := by rw [e19, pI_n _ _ _ _ (by omega), e18', pI_n _ _ _ _ (by omega), e17, pI_s]
    have k20 : h19.1 m 20 = 0 := by rw [e19, pI_s]
    rw [k19]
    refine P_plain hr hsd (fun h20 p20 m20 l20 z20 y20 h22 e22 h23 e23 => ?_)
    rw [m20, k19] at e22
    have e34 : (130 : Int32) * nI (1 - L) = nI (130 * (1 - L)) := pk_mul 130 _
    have e40 : (420 : Int32) * nI (1 - L) = nI (420 * (1 - L)) := pk_mul 420 _
    rw [e34] at e22
    have k22 : h22.1 m 19 = nI (1 - L) := by rw [e22, pI_n _ _ _ _ (by omega), m20]; exact k19
    rw [k22, e40] at e23
    have m23 : ∀ j, ¬ j = 34 → ¬ j = 40 → h23.1 m j = h19.1 m j := fun j x y => by rw [e23, pI_n _ _ _ _ (by omega), e22, pI_n _ _ _ _ (by omega), m20]
    have o23 : ∀ a, ¬ a = m → h23.1 a = h20.1 a := fun a ha => by rw [e23, pI_o _ _ _ _ ha, e22, pI_o _ _ _ _ ha]
    have l23 : h23.2 = h12.2 := by rw [e23, pI_l, e22, pI_l, l20, l19]
    have R23 : PR m (1 - L) h h23 := by
      have a4 : PR m (1 - L) h20 h23 := by rw [e23, e22]; exact (PR.fd (by unfold fdM; omega)).tr (PR.fd (by unfold fdM; omega))
      exact (((R11.tr R12).tr R19).tr p20.R).tr a4
    have c2 : ∀ h', PF m (1 - L) h23 h' → h'.1 m 2 = 0 := fun h' p => by rw [p.2.1 2 (by unfold fdM; omega), m23 2 (by omega) (by omega)]; exact k2
    have tk : TkM h23 m (fun j => byC (tA A j)) (tL A) J := by
      intro j hj
      have z : ∀ a, m + 3 ≤ a → a ≤ m + 6 → h23.1 a = h12.1 a := fun a y w => by rw [o23 a (by omega), (p20.1 a (by omega)).1, o19 a (by omega)]
      rw [z (m + 3) (by omega) (by omega), z (m + 4) (by omega) (by omega), z (m + 5) (by omega) (by omega), l23]
      exact t12 j hj
    have s0 : MD r h23 h23 m (1 - L) (fun j => byC (tA A j)) (tL A) J 0 (130 * (1 - L)) (420 * (1 - L)) draft0 := by
      refine ⟨⟨⟨⟨hr, tk, hJ.1, hn⟩, Nat.zero_le _, by rw [m23 13 (by omega) (by omega)]; exact k13, by rw [m23 11 (by omega) (by omega)]; exact k11⟩, by rw [m23 12 (by omega) (by omega)]; exact k12, by rw [e23, pI_n _ _ _ _ (by omega), e22, pI_s], by rw [e23, pI_s], by rw [m23 19 (by omega) (by omega)]; exact k19⟩, PF.rf, ⟨⟨?_, ?_, ?_, ?_, ?_, ?_⟩, fun k hk => absurd hk (Nat.not_lt_zero _), fun _ x hx _ => absurd hx (Nat.not_lt_zero _)⟩, ⟨?_, ?_, ?_⟩, ⟨fun _ => by rw [m23 15 (by omega) (by omega)]; exact k15, fun k p w => (by cases w)⟩, by unfold Bds; omega⟩
      · rw [o23 _ (by omega)]; exact z20.2.1
      · rw [o23 _ (by omega)]; exact z20.1
      · rw [o23 _ (by omega)]; exact z20.2.2.1
      · rw [m23 20 (by omega) (by omega)]; exact k20
      · rw [o23 _ (by omega)]; exact z20.2.2.2.1
      · rw [o23 _ (by omega)]; exact z20.2.2.2.2
      · exact Or.inr ⟨by rw [o23 _ (by omega)]; exact (y20 0 (by omega)).1, by rw [o23 _ (by omega)]; exact (y20 0 (by omega)).2, rfl⟩
      · exact Or.inr ⟨by rw [o23 _ (by omega)]; exact (y20 1 (by omega)).1, by rw [o23 _ (by omega)]; exact (y20 1 (by omega)).2, rfl⟩
      · exact Or.inr ⟨by rw [o23 _ (by omega)]; exact (y20 2 (by omega)).1, by rw [o23 _ (by omega)]; exact (y20 2 (by omega)).2, rfl⟩
    exact P_Mbody hsd hJ hn s0 (fun P t b K h' hP s pv hf hal => hok P t b K h23 h' hP s pv hf hal (R23.tr s.2.1.R) (c2 h' s.2.1)) (fun e h' hP p => her e h' hP (R23.tr p.R) (c2 h' p))
