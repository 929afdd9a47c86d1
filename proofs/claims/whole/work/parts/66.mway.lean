theorem P_Mo_wayOf {r : TR} {h : TH} {m L n k : Nat} {wo rk seed : Int32} {B : By} {S : Sc} {Q : Int32 → TH → Prop} (hr : RMo r m) (hO : MBay h m L rk B) (hB : ByB B) (hn : n = bN B) (hR : RowOK (h.1 (m + 32)) n wo S) (hw : h.1 m 51 = wo) (hs : h.1 m 50 = seed) (hSB : ScB S) (hP : ScP n S) (hk : k < n) (hsl : sail S k = true)
    (hQ : ∀ h', Fr (fun a => a = m ∨ a = m + 29 ∨ a = m + 30) h h' → MK m h h' → Q (nI (wayF B S seed k (windF B (sH S)))) h') : D_Mo_wayOf r m (nI k) h Q := by
  have hn6 : n ≤ 6 := by rw [hn]; exact hB.2.2.1
  have r49 : r m 49 = m + 32 := hr 49 (by decide) (by decide)
  have r45 : r m 45 = m + 29 := hr 45 (by decide) (by decide)
  have r28 : r m 28 = m + 15 := hr 28 (by decide) (by decide)
  have z30 : (30 : Int32).toNatClampNeg = 30 := by decide
  have z31 : (31 : Int32).toNatClampNeg = 31 := by decide
  have z1 : (1 : Int32).toNatClampNeg = 1 := by decide
  have z2 : (2 : Int32).toNatClampNeg = 2 := by decide
  have z3 : (3 : Int32).toNatClampNeg = 3 := by decide
  have z4 : (4 : Int32).toNatClampNeg = 4 := by decide
  have z5 : (5 : Int32).toNatClampNeg = 5 := by decide
  have z6 : (6 : Int32).toNatClampNeg = 6 := by decide
  have z7 : (7 : Int32).toNatClampNeg = 7 := by decide
  have z8 : (8 : Int32).toNatClampNeg = 8 := by decide
  have hL := hO.2.1
  have hm := smells_lt (S := S) (seed := seed) (k := k) hB
  unfold D_Mo_wayOf
  refine P_Mo_smellsOf hr hO hB hn hR hw hs hSB hP hk (P_near hm ?_)
  rw [r49, r45, r28, z30, z31, z1, z2, z3, z4, z5, z6, z7, z8, hR.1]
  refine P_windIn hr hO (fun h17 f17 k17 => ?_)
  have row17 : h17.1 (m + 32) = h.1 (m + 32) := (f17 (m + 32) (by omega)).1
  rw [row17, hR.1]
  refine P_looks hr (fun h21 f21 v0 vz => ?_)
  have k21 : MK m h h21 := k17.tr ⟨f21.mono (fun q hq => by unfold FMs; omega), fun j _ => congrFun (f21 m (by omega)).1 j⟩
  have fr21 : Fr (fun a => a = m ∨ a = m + 29 ∨ a = m + 30) h h21 := f17.tr (f21.mono (fun q hq => by omega))
  have row21 : h21.1 (m + 32) = h.1 (m + 32) := (fr21 (m + 32) (by omega)).1
  obtain ⟨g1, g2, g3, g4, g5⟩ := hR.2.2.1 k hk
  refine ⟨vp_in_nI (by omega) (by omega), ?_⟩
  intro h25 e25
  rw [nI_clamp (n := k) (by omega), row21, g1] at e25
  intro i28 e28
  have e28' : i28 = nI (6 + k) := by rw [e28]; exact nI_add 6 k
  subst e28'
  refine ⟨vp_in_nI (by omega) (by omega), ?_⟩
  intro h29 e29 h31 e31
  have row25 : h25.1 (m + 32) = h.1 (m + 32) := by rw [e25, pI_o _ _ _ _ (by omega)]; exact row21
  rw [nI_clamp (n := 6 + k) (by omega), row25, g2] at e29
  refine P_bits hm ?_
  intro h35 e35 h37 e37 h39 e39
  have k39 : MK m h h39 := by
    rw [e39, e37, e35, e31, e29, e25]
    exact (((((k21.tr (MK.pI (by omega))).tr (MK.pI (by omega))).tr (MK.pI (by omega))).tr (MK.pI (by omega))).tr (MK.pI (by omega))).tr (MK.pI (by omega))
  intro i42 e42
  rw [k39.2 18 (by omega), hO.1] at e42
  have e42' : i42 = nI (6 * L + k) := by
    rw [e42]
    have : (6 : Int32) * nI L = nI (6 * L) := pk_mul 6 L
    rw [this, nI_add]
  subst e42'
  refine ⟨vp_in_nI (by omega) (by omega), ?_⟩
  intro h43 e43 h46 e46
  rw [nI_clamp (n := 6 * L + k) (by omega), k39.at (x := m + 15) (by unfold FMs; omega), (hO.2.2.2.2.2.2.2.2.2.1 k (by omega)).2.2.1] at e43
  have row43 : h43.1 (m + 32) = h.1 (m + 32) := by
    rw [e43, pI_o _ _ _ _ (by omega), e39, pI_o _ _ _ _ (by omega), e37, pI_o _ _ _ _ (by omega), e35, pI_o _ _ _ _ (by omega), e31, pI_o _ _ _ _ (by omega), e29, pI_o _ _ _ _ (by omega)]
    exact row25
  rw [row43, hR.2.1] at e46
  have k43 : MK m h h43 := k39.tr (by rw [e43]; exact MK.pI (by omega))
  have k46 : MK m h h46 := k43.tr (by rw [e46]; exact MK.pI (by omega))
  have fr46 : Fr (fun a => a = m ∨ a = m + 29 ∨ a = m + 30) h h46 := by
    have f : ∀ (x : TH) (j : Nat) (v : Int32), Fr (fun a => a = m ∨ a = m + 29 ∨ a = m + 30) x (pI x (m + 29) j v) := fun x j v => Fr.pI (by omega)
    rw [e46, e43, e39, e37, e35, e31, e29, e25]
    exact (((((((fr21.tr (f _ _ _)).tr (f _ _ _)).tr (f _ _ _)).tr (f _ _ _)).tr (f _ _ _)).tr (f _ _ _)).tr (f _ _ _)).tr (f _ _ _)
  have O46 := hO.mk k46
  refine P_asks (k := 1) (plain := 1) hr O46.1 O46.2.1 (by omega) (by omega) O46.2.2.2.2.2.2.2.2.2.2.2.1 (fun h47 s47 => ?_)
  have hlost : (sL S).testBit k = false := by
    unfold sail at hsl
    simp at hsl
    exact hsl.1
  have ev : tellsF (h46.1 (m + 29)) (bPS B) = tellsF (stV B S k (windF B (sH S)) (smells B S seed k)) (bPS B) := by
    refine tellsF_cg (fun i hi => ?_) _ _ (Nat.le_refl _) (O46.2.2.2.2.2.2.2.2.2.2.2.1.wf (by omega))
    unfold stV
    rcases (show i = 0 ∨ i = 1 ∨ i = 2 ∨ i = 3 ∨ i = 4 ∨ i = 5 ∨ i = 6 ∨ i = 7 ∨ i = 8 by omega) with rfl | rfl | rfl | rfl | rfl | rfl | rfl | rfl | rfl
    · rw [e46, pI_n _ _ _ _ (by omega), e43, pI_n _ _ _ _ (by omega), e39, pI_n _ _ _ _ (by omega), e37, pI_n _ _ _ _ (by omega), e35, pI_n _ _ _ _ (by omega), e31, pI_n _ _ _ _ (by omega), e29, pI_n _ _ _ _ (by omega), e25, pI_n _ _ _ _ (by omega)]; exact v0
    · rw [e46, pI_n _ _ _ _ (by omega), e43, pI_n _ _ _ _ (by omega), e39, pI_n _ _ _ _ (by omega), e37, pI_n _ _ _ _ (by omega), e35, pI_n _ _ _ _ (by omega), e31, pI_n _ _ _ _ (by omega), e29, pI_n _ _ _ _ (by omega), e25, pI_s]
      show _ = eastI S k
      unfold eastI; rw [if_neg (by rw [hlost]; decide)]
    · rw [e46, pI_n _ _ _ _ (by omega), e43, pI_n _ _ _ _ (by omega), e39, pI_n _ _ _ _ (by omega), e37, pI_n _ _ _ _ (by omega), e35, pI_n _ _ _ _ (by omega), e31, pI_n _ _ _ _ (by omega), e29, pI_s]
      show _ = southI S k
      unfold southI; rw [if_neg (by rw [hlost]; decide)]
    · rw [e46, pI_n _ _ _ _ (by omega), e43, pI_n _ _ _ _ (by omega), e39, pI_n _ _ _ _ (by omega), e37, pI_n _ _ _ _ (by omega), e35, pI_n _ _ _ _ (by omega), e31, pI_s]; rfl
    · rw [e46, pI_n _ _ _ _ (by omega), e43, pI_n _ _ _ _ (by omega), e39, pI_n _ _ _ _ (by omega), e37, pI_n _ _ _ _ (by omega), e35, pI_s]; rfl
    · rw [e46, pI_n _ _ _ _ (by omega), e43, pI_n _ _ _ _ (by omega), e39, pI_n _ _ _ _ (by omega), e37, pI_s]; rfl
    · rw [e46, pI_n _ _ _ _ (by omega), e43, pI_n _ _ _ _ (by omega), e39, pI_s]; rfl
    · rw [e46, pI_n _ _ _ _ (by omega), e43, pI_s]; rfl
    · rw [e46, pI_s]; rfl
  rw [ev]
  have fin := hQ h47 (fr46.tr (s47.1.mono (fun q hq => by omega))) (k46.tr (MK.sm s47))
  unfold wayF way5 at fin
  refine ⟨fun q => ?_, fun q => ?_⟩
  · rw [if_pos q] at fin
    obtain ⟨j, hj, ej⟩ := nn_of q
    rw [ej] at fin ⊢
    rw [jr5 hj]
    rw [nI_clamp hj] at fin
    exact fin
  · rw [if_neg q] at fin; exact fin
