/-! feed: both sides -/
theorem bv8 (v : BitVec 32) (k : Nat) (hk : k ≤ 24) : (v >>> k).signExtend 8 = (v.sshiftRight k).signExtend 8 := by
  rw [BitVec.signExtend_eq_setWidth_of_le _ (by omega), BitVec.signExtend_eq_setWidth_of_le _ (by omega)]
  apply BitVec.eq_of_getLsbD_eq
  intro i hi
  simp only [BitVec.getLsbD_setWidth, BitVec.getLsbD_ushiftRight, BitVec.getLsbD_sshiftRight]
  have h1 : ¬ 32 ≤ i := by omega
  have h2 : k + i < 32 := by omega
  simp [h1, h2]
theorem by8 (x : Int32) : (jushr x 24).toInt8 = (x >>> ((24 : Int32) &&& 31)).toInt8 ∧ (jushr x 16).toInt8 = (x >>> ((16 : Int32) &&& 31)).toInt8 ∧ (jushr x 8).toInt8 = (x >>> ((8 : Int32) &&& 31)).toInt8 ∧ (jushr x 0).toInt8 = (x >>> ((0 : Int32) &&& 31)).toInt8 := by
  refine ⟨?_, ?_, ?_, ?_⟩
  · apply Int8.toBitVec_inj.mp
    exact bv8 x.toBitVec 24 (by omega)
  · apply Int8.toBitVec_inj.mp
    exact bv8 x.toBitVec 16 (by omega)
  · apply Int8.toBitVec_inj.mp
    exact bv8 x.toBitVec 8 (by omega)
  · apply Int8.toBitVec_inj.mp
    exact bv8 x.toBitVec 0 (by omega)
/-- the byte that is written at a shift -/
def byF (w : Int32) (j : Nat) : Int32 := vp_nar .byte ((jushr w (24 + nI j * (-8))).toInt8.toInt32)
theorem sh8 : ∀ j : Fin 5, (24 + nI j.1 * (-8) : Int32) + (-8) = 24 + nI (j.1 + 1) * (-8) ∧ (j.1 < 4 → ¬ (24 + nI j.1 * (-8) : Int32) < 0) ∧ (j.1 = 4 → (24 + nI j.1 * (-8) : Int32) < 0) := by decide
theorem sh8b (w : Int32) : ∀ j, j < 4 → (w >>> (((24 + nI j * (-8)) : Int32) &&& 31)).toInt8 = (jushr w (24 + nI j * (-8))).toInt8 := by
  intro j hj
  have b := by8 w
  match j, hj with
  | 0, _ => exact b.1.symm
  | 1, _ => exact b.2.1.symm
  | 2, _ => exact b.2.2.1.symm
  | 3, _ => exact b.2.2.2.symm
/-- a tape with four bytes more -/
def tpF (n : Nat) (f : Nat → Int32) (w : Int32) : Nat → Int32 := fun i => if n ≤ i ∧ i < n + 4 then byF w (i - n) else f i
theorem P_addBytes {r : TR} {q n : Nat} {h : TH} {w : Int32} {f : Nat → Int32} {Q : TH → Prop} (hr : r (q + 1) 0 = q + 2) (hn : n + 4 ≤ 2000) (h1 : h.1 (q + 1) 1 = nI n) (h2 : ∀ i, i < n → h.1 (q + 2) i = f i) (hQ : ∀ h', Fr (fun a => a = q + 1 ∨ a = q + 2) h h' → h'.1 (q + 1) 3 = h.1 (q + 1) 3 → h'.1 (q + 1) 1 = nI (n + 4) → (∀ i, i < n + 4 → h'.1 (q + 2) i = tpF n f w i) → Q h') : D_Rd_addBytes r (q + 1) w h Q := by
  unfold D_Rd_addBytes
  refine lp_for 4 (fun j t => ∃ h', t = (24 + nI j * (-8), h') ∧ Fr (fun a => a = q + 1 ∨ a = q + 2) h h' ∧ h'.1 (q + 1) 3 = h.1 (q + 1) 3 ∧ h'.1 (q + 1) 1 = nI (n + j) ∧ ∀ i, i < n + j → h'.1 (q + 2) i = tpF n f w i) ?_ ?_ _ ⟨h, rfl, Fr.rf, rfl, h1, fun i hi => ?_⟩
  · rintro j t K hj ⟨h', rfl, f', e3, e1, v'⟩ hK
    have s := sh8 ⟨j, by omega⟩
    simp only [] at s
    unfold DB_Rd_addBytes_3
    refine ⟨fun z => absurd z (s.2.1 hj), fun _ => ?_⟩
    show ((2000 ≤ h'.1 (q + 1) 1 → _) ∧ _)
    rw [e1, hr]
    refine ⟨fun z => absurd ((nI_leI (a := 2000) (by omega) (by omega)).mp z) (by omega), fun _ => ⟨vp_in_nI (by omega) (by omega), fun h5 e5 h6 e6 x7 e7 => ?_⟩⟩
    rw [nI_clamp (n := n + j) (by omega)] at e5
    replace e5 : h5 = pI h' (q + 2) (n + j) (byF w j) := e5
    have e51 : h5.1 (q + 1) 1 = nI (n + j) := by rw [e5, pI_o _ _ _ _ (by omega)]; exact e1
    rw [e51, nI_1] at e6
    replace e7 : x7 = (24 + nI j * (-8)) + (-8) := e7
    rw [s.1] at e7
    subst e7
    refine hK _ ⟨h6, rfl, (f'.tr (show Fr _ h' h5 by rw [e5]; exact Fr.pI (Or.inr rfl))).tr (by rw [e6]; exact Fr.pI (Or.inl rfl)), ?_, by rw [e6, pI_s]; rfl, fun i hi => ?_⟩
    · rw [e6, pI_n _ _ _ _ (by omega), e5, pI_o _ _ _ _ (by omega)]; exact e3
    · rw [e6, pI_o _ _ _ _ (by omega), e5]
      by_cases e : i = n + j
      · rw [e, pI_s]
        unfold tpF
        rw [if_pos (by omega), show n + j - n = j by omega]
      · rw [pI_n _ _ _ _ (by omega)]; exact v' i (by omega)
  · rintro t K ⟨h', rfl, f', e3, e1, v'⟩
    unfold DB_Rd_addBytes_3
    exact ⟨fun _ => hQ h' f' e3 e1 v', fun z => absurd ((sh8 ⟨4, by omega⟩).2.2 rfl) z⟩
  · unfold tpF
    rw [if_neg (by omega)]
    exact h2 i (by omega)
theorem P_put {r : TR} {m n : Nat} {h : TH} {w : Int32} {f : Nat → Int32} {Q : TH → Prop} (hr : RMo r m) (hn : n + 4 ≤ 2000) (h1 : h.1 m 2 = nI n) (h2 : ∀ i, i < n → h.1 (m + 1) i = f i) (hQ : ∀ h', Fr (fun a => a = m ∨ a = m + 1) h h' → (∀ j, ¬ j = 2 → h'.1 m j = h.1 m j) → h'.1 m 2 = nI (n + 4) → (∀ i, i < n + 4 → h'.1 (m + 1) i = tpF n f w i) → Q h') : D_Mo_put r m w h Q := by
  have r1 : r m 1 = m + 1 := hr 1 (by decide) (by decide)
  unfold D_Mo_put
  refine lp_for 4 (fun j t => ∃ h', t = (24 + nI j * (-8), h') ∧ Fr (fun a => a = m ∨ a = m + 1) h h' ∧ (∀ j, ¬ j = 2 → h'.1 m j = h.1 m j) ∧ h'.1 m 2 = nI (n + j) ∧ ∀ i, i < n + j → h'.1 (m + 1) i = tpF n f w i) ?_ ?_ _ ⟨h, rfl, Fr.rf, fun _ _ => rfl, h1, fun i hi => ?_⟩
  · rintro j t K hj ⟨h', rfl, f', e3, e1, v'⟩ hK
    have s := sh8 ⟨j, by omega⟩
    simp only [] at s
    unfold DB_Mo_put_3
    refine ⟨fun z => absurd z (s.2.1 hj), fun _ => ?_⟩
    show (vp_in (h'.1 m 2) 2000 ∧ _)
    rw [e1, r1]
    refine ⟨vp_in_nI (by omega) (by omega), fun h5 e5 h6 e6 x7 e7 => ?_⟩
    rw [nI_clamp (n := n + j) (by omega), sh8b w j hj] at e5
    replace e5 : h5 = pI h' (m + 1) (n + j) (byF w j) := e5
    have e51 : h5.1 m 2 = nI (n + j) := by rw [e5, pI_o _ _ _ _ (by omega)]; exact e1
    rw [e51, nI_1] at e6
    replace e7 : x7 = (24 + nI j * (-8)) + (-8) := e7
    rw [s.1] at e7
    subst e7
    refine hK _ ⟨h6, rfl, (f'.tr (show Fr _ h' h5 by rw [e5]; exact Fr.pI (Or.inr rfl))).tr (by rw [e6]; exact Fr.pI (Or.inl rfl)), fun i hi => ?_, by rw [e6, pI_s]; rfl, fun i hi => ?_⟩
    · rw [e6, pI_n _ _ _ _ (by omega), e5, pI_o _ _ _ _ (by omega)]; exact e3 i hi
    · rw [e6, pI_o _ _ _ _ (by omega), e5]
      by_cases e : i = n + j
      · rw [e, pI_s]
        unfold tpF
        rw [if_pos (by omega), show n + j - n = j by omega]
      · rw [pI_n _ _ _ _ (by omega)]; exact v' i (by omega)
  · rintro t K ⟨h', rfl, f', e3, e1, v'⟩
    unfold DB_Mo_put_3
    exact ⟨fun _ => hQ h' f' e3 e1 v', fun z => absurd ((sh8 ⟨4, by omega⟩).2.2 rfl) z⟩
  · unfold tpF
    rw [if_neg (by omega)]
    exact h2 i (by omega)
theorem byF_B (w : Int32) (j : Nat) : isB (byF w j) := by
  unfold byF vp_nar
  rw [pk_nb]
  exact ⟨_, rfl⟩
theorem tpF_B {n N : Nat} {f : Nat → Int32} {w : Int32} (hN : N = n + 4) (h : ∀ i, i < n → isB (f i)) : ∀ i, i < N → isB (tpF n f w i) := by
  intro i hi
  unfold tpF
  split
  · exact byF_B w _
  · exact h i (by omega)
theorem J_feed {r : TR} {q b d m L T : Nat} {h : TH} {A : St} {a1 a2 a3 a4 a5 : Int32} {Q : Int32 → Int32 → TH → Prop} (C : Cx r q b d m L T h A) (hQ : ∀ x h' A', Cx r q b d m L T h' A' → Q x x h') : D_SR_feed r q a1 a2 a3 a4 a5 h (fun x h1 => D_Mo_feed r m a1 a2 a3 a4 a5 h1 (fun y h2 => Q x y h2)) := by
  obtain ⟨hR, hM, hqm, hA, hx, hm⟩ := id C
  have r0 := hR.1.1
  have rt := hR.2.1.1
  have hL := hA.2.2.2.2.2.2.2.1
  obtain ⟨eX, vX⟩ := hx.2.2.2.2.2.2.2.1
  have e20 : nI (tL A) + (20 : Int32) = nI (tL A + 20) := nI_add _ 20
  unfold D_SR_feed
  rw [r0, eX, e20]
  refine ⟨fun z => ?_, fun z => ?_⟩
  · have hz := (nI_leI (b := 2000) (by omega) (by omega)).mp z
    refine P_addBytes rt (by omega) eX vX (fun h4 f4 p4 l4 v4 => ?_)
    refine P_addBytes rt (by omega) l4 v4 (fun h7 f7 p7 l7 v7 => ?_)
    refine P_addBytes rt (by omega) l7 v7 (fun h10 f10 p10 l10 v10 => ?_)
    refine P_addBytes rt (by omega) l10 v10 (fun h13 f13 p13 l13 v13 => ?_)
    refine P_addBytes rt (by omega) l13 v13 (fun h16 f16 p16 l16 v16 => ?_)
    have F := (((f4.tr f7).tr f10).tr f13).tr f16
    have X16 := hx.tape hR.ap hA.2.2.1 F (by rw [p16, p13, p10, p7, p4]) ⟨l16, v16⟩
    have m16 := C.out (F.mono (fun a ha => by omega))
    obtain ⟨eM, vM⟩ := m16.2.2.2.2.2.1
    rw [l16]
    show D_Mo_feed r m a1 a2 a3 a4 a5 h16 _
    unfold D_Mo_feed
    rw [eM, e20]
    refine ⟨fun _ => ?_, fun w => absurd z w⟩
    refine P_put hM (by omega) eM vM (fun g4 f4 p4 l4 v4 => ?_)
    refine P_put hM (by omega) l4 v4 (fun g7 f7 p7 l7 v7 => ?_)
    refine P_put hM (by omega) l7 v7 (fun g10 f10 p10 l10 v10 => ?_)
    refine P_put hM (by omega) l10 v10 (fun g13 f13 p13 l13 v13 => ?_)
    refine P_put hM (by omega) l13 v13 (fun g16 f16 p16 l16 v16 => ?_)
    have G := (((f4.tr f7).tr f10).tr f13).tr f16
    rw [l16]
    refine hQ _ _ (tapeS (tL A + 4 + 4 + 4 + 4 + 4) (tpF (tL A + 4 + 4 + 4 + 4) (tpF (tL A + 4 + 4 + 4) (tpF (tL A + 4 + 4) (tpF (tL A + 4) (tpF (tL A) (tA A) a1) a2) a3) a4) a5) A) ⟨hR, hM, hqm, ⟨hA.1, hA.2.1, hA.2.2.1, hA.2.2.2.1, hA.2.2.2.2.1, hA.2.2.2.2.2.1, hA.2.2.2.2.2.2.1, ?_, hA.2.2.2.2.2.2.2.2⟩, X16.out hR.ap hA.2.2.1 (G.mono (fun a ha => by omega)), m16.tape G (fun j hj => by rw [p16 j hj, p13 j hj, p10 j hj, p7 j hj, p4 j hj]) ⟨l16, v16⟩ (tpF_B rfl (tpF_B rfl (tpF_B rfl (tpF_B rfl (tpF_B rfl m16.2.2.2.2.2.2.2.1)))))⟩
    show tL A + 4 + 4 + 4 + 4 + 4 ≤ 2000
    omega
  · show D_Mo_feed r m a1 a2 a3 a4 a5 h _
    unfold D_Mo_feed
    rw [hm.2.2.2.2.2.1.1, e20]
    exact ⟨fun w => absurd w z, fun _ => hQ _ _ _ C⟩
