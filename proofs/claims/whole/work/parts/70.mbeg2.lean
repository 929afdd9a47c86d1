theorem Seg.mv {m : Nat} {h h' : TH} {a b : Int32} {cs : List Nat} (e : ∀ x, m < x → x < m + 28 → h'.1 x = h.1 x) (g : Seg h m a b cs) : Seg h' m a b cs := by
  obtain ⟨x, h1, h2, h3, h4, h5⟩ := g
  exact ⟨x, h1, h2, h3, fun i hi => by rw [e (m + 26) (by omega) (by omega), e (m + 27) (by omega) (by omega)]; exact h4 i hi, h5⟩
theorem LawM.mv {m a plain : Nat} {h h' : TH} {Ps : List (List Nat)} (e : ∀ x, m < x → x < m + 28 → h'.1 x = h.1 x) (g : LawM h m a plain Ps) : LawM h' m a plain Ps := by
  obtain ⟨f, nb, h1, h2, h3, h4⟩ := g
  refine ⟨f, nb, by rw [e (m + 19) (by omega) (by omega)]; exact h1, by rw [e (m + 20) (by omega) (by omega)]; exact h2, h3, ?_⟩
  rcases h4 with h4 | ⟨a1, a2, a3, a4, a5⟩
  · exact Or.inl h4
  · right
    refine ⟨a1, a2, fun i hi => ?_, ?_, ?_⟩
    · obtain ⟨p1, p2, p3, p4⟩ := a3 i hi
      rw [e (m + 21) (by omega) (by omega), e (m + 22) (by omega) (by omega), e (m + 23) (by omega) (by omega), e (m + 24) (by omega) (by omega), e (m + 25) (by omega) (by omega)]
      exact ⟨p1, p2.mv e, p3.mv e, p4.mv e⟩
    · rw [e (m + 21) (by omega) (by omega)]; exact a4
    · rw [e (m + 24) (by omega) (by omega), e (m + 25) (by omega) (by omega)]; exact a5.mv e
theorem MBay.mv {m L : Nat} {rk : Int32} {h h' : TH} {B : By} (e : ∀ x, m < x → x < m + 28 → h'.1 x = h.1 x) (e18 : h'.1 m 18 = h.1 m 18) (e52 : h'.1 m 52 = rk) (g : MBay h m L rk B) : MBay h' m L rk B := by
  obtain ⟨a1, a2, a3, a4, a5, a6, a7, a8, a9, a10, a11, a12, a13⟩ := g
  refine ⟨by rw [e18]; exact a1, a2, e52, ?_, ?_, ?_, ?_, ?_, fun c h1 h2 h3 => ?_, fun k hk => ?_, a11.mv e, a12.mv e, a13.mv e⟩
  · rw [e (m + 10) (by omega) (by omega)]; exact a4
  · rw [e (m + 9) (by omega) (by omega)]; exact a5
  · rw [e (m + 12) (by omega) (by omega)]; exact a6
  · rw [e (m + 17) (by omega) (by omega)]; exact a7
  · rw [e (m + 18) (by omega) (by omega)]; exact a8
  · rw [e (m + 11) (by omega) (by omega)]; exact a9 c h1 h2 h3
  · rw [e (m + 13) (by omega) (by omega), e (m + 14) (by omega) (by omega), e (m + 15) (by omega) (by omega), e (m + 16) (by omega) (by omega)]; exact a10 k hk
theorem begUp_Y {B : By} : ∀ j, sY (begUp B j) = fun _ => 0 := by
  intro j
  induction j with
  | zero => rfl
  | succ j ih => unfold begUp; split; exact ih; exact ih
/-- the text is begun, with a rock more at a1 or none: B' is the bay as it is looked at then -/
theorem P_beginsBy {r : TR} {h : TH} {m L n : Nat} {a1 : Int32} {B' : By} {Q : TH → Prop} (hr : RMo r m) (hO : MBay (pI h m 52 a1) m L a1 B') (hB : ByB B') (hn : n = bN B')
    (hQ : ∀ h', Fr (FMs m) h h' → (∀ j, ¬ j = 47 → ¬ j = 50 → ¬ j = 51 → ¬ j = 52 → h'.1 m j = h.1 m j) → h'.1 m 50 = nI (bSe B') → h'.1 m 51 = -1 → h'.1 m 52 = a1 → RowOK (h'.1 (m + 32)) n (-1) (beginS B') → Q h') : D_Mo_beginsBy r m a1 h Q := by
  have hn6 : n ≤ 6 := by rw [hn]; exact hB.2.2.1
  have r49 : r m 49 = m + 32 := hr 49 (by decide) (by decide)
  have r25 : r m 25 = m + 12 := hr 25 (by decide) (by decide)
  have r26 : r m 26 = m + 13 := hr 26 (by decide) (by decide)
  have r27 : r m 27 = m + 14 := hr 27 (by decide) (by decide)
  have z31 : (31 : Int32).toNatClampNeg = 31 := by decide
  have hL := hO.2.1
  have l18 : h.1 m 18 = nI L := by have := hO.1; rw [pI_n _ _ _ _ (by omega)] at this; exact this
  have lsd : h.1 (m + 18) L = nI (bSe B') := by have := hO.2.2.2.2.2.2.2.1; rw [pI_o _ _ _ _ (by omega)] at this; exact this
  have nwo : ∀ k : Nat, k < 2 ^ 31 → ¬ nI k = (-1 : Int32) := fun k hk => nI_nm1 hk
  unfold D_Mo_beginsBy
  refine P_plainly (sd := nI (bSe B')) hr l18 hL lsd (fun h1 f1 k1 a50 a51 a52 => ?_)
  intro h3 e3
  have f3 : Fr (FMs m) h h3 := (f1.mono (fun q hq => by unfold FMs; omega)).tr (by rw [e3]; exact Fr.pI (by unfold FMs; omega))
  have key3 : ∀ j, ¬ j = 50 → ¬ j = 51 → ¬ j = 52 → h3.1 m j = h.1 m j := fun j a b c => by rw [e3, pI_n _ _ _ _ (by omega)]; exact k1 j a b c
  have b50 : h3.1 m 50 = nI (bSe B') := by rw [e3, pI_n _ _ _ _ (by omega)]; exact a50
  have b51 : h3.1 m 51 = -1 := by rw [e3, pI_n _ _ _ _ (by omega)]; exact a51
  have b52 : h3.1 m 52 = a1 := by rw [e3, pI_s]
  have O3 : MBay h3 m L a1 B' := hO.mv (fun x p1 p2 => by rw [pI_o _ _ _ _ (by omega)]; exact (f3 x (by unfold FMs; omega)).1) (by rw [pI_n _ _ _ _ (by omega)]; exact key3 18 (by omega) (by omega) (by omega)) b52
  refine lp_for 512 (fun j t => ∃ h', t = (nI j, h') ∧ Fr (fun a => a = m + 32) h3 h' ∧ ∀ i, i < j → h'.1 (m + 32) i = if i < 32 then 0 else -2) ?_ ?_ _ ⟨h3, rfl, Fr.rf, fun i hi => absurd hi (Nat.not_lt_zero _)⟩
  · rintro j t K hj ⟨h', rfl, f', v'⟩ hK
    unfold DB_Mo_beginsBy_11
    rw [r49, nI_clamp (n := j) (by omega)]
    refine ⟨fun q => absurd ((nI_leI (a := 512) (by omega) (by omega)).mp q) (by omega), fun _ => ⟨fun q => ⟨vp_in_nI (by omega) (by omega), ?_⟩, fun q => ⟨vp_in_nI (by omega) (by omega), ?_⟩⟩⟩
    · have q' := (nI_leI (a := 32) (by omega) (by omega)).mp q
      intro h8 e8 x9 e9
      rw [nI_1] at e9
      subst e9
      refine hK _ ⟨h8, rfl, f'.tr (by rw [e8]; exact Fr.pI rfl), fun i hi => ?_⟩
      by_cases e : i = j
      · rw [e8, e, pI_s, if_neg (by omega)]
      · rw [e8, pI_n _ _ _ _ (by omega)]; exact v' i (by omega)
    · have q' : ¬ 32 ≤ j := fun z => q ((nI_leI (a := 32) (by omega) (by omega)).mpr z)
      intro h8 e8 x9 e9
      rw [nI_1] at e9
      subst e9
      refine hK _ ⟨h8, rfl, f'.tr (by rw [e8]; exact Fr.pI rfl), fun i hi => ?_⟩
      by_cases e : i = j
      · rw [e8, e, pI_s, if_pos (by omega)]
      · rw [e8, pI_n _ _ _ _ (by omega)]; exact v' i (by omega)
  · rintro t K ⟨h', rfl, f', v'⟩
    unfold DB_Mo_beginsBy_11
    refine ⟨fun _ => ?_, fun q => absurd (show (512 : Int32) ≤ nI 512 from Int32.le_refl _) q⟩
    have kk : ∀ {x : TH}, Fr (fun a => a = m + 32) h3 x → MK m h3 x := fun f => ⟨f.mono (fun q hq => by unfold FMs; omega), fun j _ => congrFun (f m (by omega)).1 j⟩
    refine lp_for (bN B') (fun j t => ∃ h2, t = (nI j, h2) ∧ Fr (fun a => a = m + 32) h3 h2 ∧ RowOK (h2.1 (m + 32)) j (-1) (begUp B' j) ∧ (∀ i, 32 ≤ i → i < 512 → h2.1 (m + 32) i = -2) ∧ ∀ k, j ≤ k → k < 6 → h2.1 (m + 32) (12 + k) = 0 ∧ h2.1 (m + 32) (18 + k) = 0) ?_ ?_ _ ⟨h', rfl, f', ⟨by rw [v' 30 (by omega)]; rfl, by rw [v' 31 (by omega), if_pos (by omega)]; show (0 : Int32) = nI (popc 0); decide, fun k hk => absurd hk (Nat.not_lt_zero _), fun c _ d hd => absurd hd (Nat.not_lt_zero _)⟩, fun i a b => by rw [v' i b, if_neg (by omega)], fun k _ hk => ⟨by rw [v' (12 + k) (by omega), if_pos (by omega)], by rw [v' (18 + k) (by omega), if_pos (by omega)]⟩⟩
    · rintro j t K hj ⟨h2, rfl, f2, R2, lay2, zz2⟩ hK
      have O2 := O3.mk (kk f2)
      have hc := startF_lt hB hj
      have hbx := hB.2.2.2.2.2.2.1 j hj
      have hw8 := hB.1
      have s8 : startF B' j % 8 = bX B' j := by unfold startF; omega
      have d8 : startF B' j / 8 = bY B' j := by unfold startF; omega
      have hbu := begUp_B hB j (by omega)
      have hbp := begUp_P hn6 hB j (by omega)
      have e6L : ∀ x : TH, x.1 m 18 = nI L → (6 * x.1 m 18) + nI j = nI (6 * L + j) := fun x hx => by
        rw [hx]
        have : (6 : Int32) * nI L = nI (6 * L) := pk_mul 6 L
        rw [this, nI_add]
      unfold DB_Mo_beginsBy_44
      rw [r25, r26, r27, r49]
      intro i17 e17
      rw [O2.1] at e17
      subst e17
      rw [nI_clamp (n := L) (by omega), O2.2.2.2.2.2.1]
      refine ⟨vp_in_nI hL (by omega), fun q => absurd ((nI_leI (by omega) (by omega)).mp q) (by omega), fun _ => ?_⟩
      intro i21 e21
      rw [e6L h2 O2.1] at e21
      subst e21
      refine ⟨vp_in_nI (by omega) (by omega), vp_in_nI (by omega) (by omega), ?_⟩
      intro h22 e22
      rw [nI_clamp (n := j) (by omega), nI_clamp (n := 6 * L + j) (by omega)] at e22
      replace e22 : h22 = pI h2 (m + 32) j (h2.1 (m + 13) (6 * L + j)) := e22
      rw [(O2.2.2.2.2.2.2.2.2.2.1 j hj).1] at e22
      have f22 : Fr (fun a => a = m + 32) h3 h22 := f2.tr (by rw [e22]; exact Fr.pI rfl)
      have O22 := O3.mk (kk f22)
      intro i25 e25
      rw [e6L h22 O22.1] at e25
      subst e25
      have e6k : (6 : Int32) + nI j = nI (6 + j) := nI_add 6 j
      have e24k : (24 : Int32) + nI j = nI (24 + j) := nI_add 24 j
      have e12k : (12 : Int32) + nI j = nI (12 + j) := nI_add 12 j
      refine ⟨vp_in_nI (by omega) (by omega), by rw [e6k]; exact vp_in_nI (by omega) (by omega), ?_⟩
      intro h26 e26
      rw [e6k, nI_clamp (n := 6 + j) (by omega), nI_clamp (n := 6 * L + j) (by omega), (O22.2.2.2.2.2.2.2.2.2.1 j hj).2.1] at e26
      refine ⟨by rw [e24k]; exact vp_in_nI (by omega) (by omega), ?_⟩
      intro h28 e28
      rw [e24k, nI_clamp (n := 24 + j) (by omega)] at e28
      have f28 : Fr (fun a => a = m + 32) h3 h28 := (f22.tr (h2 := h26) (by rw [e26]; exact Fr.pI rfl)).tr (by rw [e28]; exact Fr.pI rfl)
      have O28 := O3.mk (kk f28)
      have row28 : ∀ i, ¬ i = j → ¬ i = 6 + j → ¬ i = 24 + j → h28.1 (m + 32) i = h2.1 (m + 32) i := fun i a b c => by rw [e28, pI_n _ _ _ _ (by omega), e26, pI_n _ _ _ _ (by omega), e22, pI_n _ _ _ _ (by omega)]
      have v0 : h28.1 (m + 32) j = nI (startF B' j % 8) := by rw [e28, pI_n _ _ _ _ (by omega), e26, pI_n _ _ _ _ (by omega), e22, pI_s, s8]
      have v6 : h28.1 (m + 32) (6 + j) = nI (startF B' j / 8) := by rw [e28, pI_n _ _ _ _ (by omega), e26, pI_s, d8]
      have v24 : h28.1 (m + 32) (24 + j) = 1 := by rw [e28, pI_s]
      refine ⟨vp_in_nI (by omega) (by omega), ?_⟩
      intro i31 e31
      rw [e6k] at e31
      subst e31
      refine ⟨vp_in_nI (by omega) (by omega), ?_⟩
      rw [nI_clamp (n := 6 + j) (by omega), v6]
      show D_Mo_sortAt r m (h28.1 (m + 32) (nI j).toNatClampNeg) (nI (startF B' j / 8)) h28 _
      rw [nI_clamp (n := j) (by omega), v0]
      have hk3 : bK B' (startF B' j) ≤ 3 := by have := hB.2.2.2.2.2.1 _ hc; split at this <;> omega
      have c2 : nI (bK B' (startF B' j)) = 2 ↔ bK B' (startF B' j) = 2 := nI_eq (b := 2) (by omega) (by omega)
      have pan : (2 ^ bN B' - 1).testBit j = true := by
        have := all_bit ⟨bN B', by omega⟩ ⟨j, by omega⟩
        rw [this]; simp [hj]
      have lays : ∀ (g : Nat → Int32) (S : Sc), sY S = (fun _ => 0) → (∀ i, 32 ≤ i → i < 512 → g i = -2) → ∀ c, c < 40 → ∀ d, d < j + 1 → g (32 + (6 * c + d)) = layH (sY S (40 * d + c)) ∧ g (272 + (6 * c + d)) = layT (sY S (40 * d + c)) := by
        intro g S hY hg c hc d hd
        rw [hY, hg _ (by omega) (by omega), hg _ (by omega) (by omega)]
        exact ⟨rfl, rfl⟩
      have R28 : RowOK (h28.1 (m + 32)) (j + 1) (-1) (cellS j (startF B' j) (begUp B' j)) := by
        obtain ⟨q1, q2, q3, q4⟩ := R2
        refine ⟨by rw [row28 30 (by omega) (by omega) (by omega)]; exact q1, by rw [row28 31 (by omega) (by omega) (by omega)]; exact q2, fun k hk => ?_, lays _ _ (begUp_Y j) (fun i a b => by rw [row28 i (by omega) (by omega) (by omega)]; exact lay2 i a b)⟩
        show h28.1 (m + 32) k = nI ((if k = j then startF B' j else sC (begUp B' j) k) % 8) ∧ h28.1 (m + 32) (6 + k) = nI ((if k = j then startF B' j else sC (begUp B' j) k) / 8) ∧ h28.1 (m + 32) (24 + k) = (if (sP (begUp B' j)).testBit k then 1 else 0) ∧ _
        by_cases e : k = j
        · subst e
          rw [if_pos rfl, begUp_pans]
          have zz := zz2 k (Nat.le_refl _) (by omega)
          refine ⟨v0, v6, by rw [v24, if_pos pan], fun z => absurd z (nwo k (by omega)), fun _ => ⟨?_, ?_⟩⟩
          · rw [row28 (12 + k) (by omega) (by omega) (by omega), zz.1]
            show 0 = (if (sO (begUp B' k)).testBit k = true then nI (sA (begUp B' k) k) else 0)
            rw [hbp.2.1 k (Nat.le_refl _) (by omega)]; rfl
          · rw [row28 (18 + k) (by omega) (by omega) (by omega), zz.2]
            show 0 = (if (sL (begUp B' k)).testBit k = true then 1 else 0)
            rw [hbp.2.2, Nat.zero_testBit]; rfl
        · rw [if_neg e]
          obtain ⟨u1, u2, u3, u4, u5⟩ := q3 k (by omega)
          rw [row28 k (by omega) (by omega) (by omega), row28 (6 + k) (by omega) (by omega) (by omega), row28 (24 + k) (by omega) (by omega) (by omega), row28 (12 + k) (by omega) (by omega) (by omega), row28 (18 + k) (by omega) (by omega) (by omega)]
          exact ⟨u1, u2, u3, u4, u5⟩
      refine P_sortAt hr O28 hc (by rw [s8]; exact hbx.1) (by rw [d8]; exact hbx.2.1) ⟨fun q x35 e35 => ?_, fun q => ?_⟩
      · have n2 : ¬ bK B' (startF B' j) = 2 := fun z => q (c2.mpr z)
        rw [nI_1] at e35
        subst e35
        refine hK _ ⟨h28, rfl, f28, ?_, fun i a b => by rw [row28 i (by omega) (by omega) (by omega)]; exact lay2 i a b, fun k a b => by rw [row28 (12 + k) (by omega) (by omega) (by omega), row28 (18 + k) (by omega) (by omega) (by omega)]; exact zz2 k (by omega) b⟩
        unfold begUp
        rw [if_neg n2]
        exact R28
      · have n2 := c2.mp q
        unfold D_Mo_homeIs
        rw [r49, z31, e12k, nI_clamp (n := 12 + j) (by omega)]
        intro h5 e5
        rw [R28.2.1, nI_1] at e5
        refine ⟨vp_in_nI (by omega) (by omega), ?_⟩
        intro h6 e6 x38 e38
        rw [nI_1] at e38
        subst e38
        have ho := hbp.2.1 j (Nat.le_refl _) (by omega)
        have p1 := pc_set ⟨sO (begUp B' j), hbu.1.2.2.2.1⟩ ⟨j, by omega⟩ ho
        dsimp only at p1
        have v31 : h5.1 (m + 32) 31 = nI (popc (sO (begUp B' j) ||| 2 ^ j)) := by rw [e5, pI_s, p1]; rfl
        rw [v31] at e6
        have row6 : ∀ i, ¬ i = 31 → ¬ i = 12 + j → h6.1 (m + 32) i = h28.1 (m + 32) i := fun i a b => by rw [e6, pI_n _ _ _ _ (by omega), e5, pI_n _ _ _ _ (by omega)]
        have f6 : Fr (fun a => a = m + 32) h3 h6 := (f28.tr (h2 := h5) (by rw [e5]; exact Fr.pI rfl)).tr (by rw [e6]; exact Fr.pI rfl)
        refine hK _ ⟨h6, rfl, f6, ?_, fun i a b => by rw [row6 i (by omega) (by omega), row28 i (by omega) (by omega) (by omega)]; exact lay2 i a b, fun k a b => by rw [row6 (12 + k) (by omega) (by omega), row6 (18 + k) (by omega) (by omega), row28 (12 + k) (by omega) (by omega) (by omega), row28 (18 + k) (by omega) (by omega) (by omega)]; exact zz2 k (by omega) b⟩
        unfold begUp
        rw [if_pos n2]
        obtain ⟨q1, q2, q3, q4⟩ := R28
        refine ⟨by rw [row6 30 (by omega) (by omega)]; exact q1, ?_, fun k hk => ?_, lays _ _ (begUp_Y j) (fun i a b => by rw [row6 i (by omega) (by omega), row28 i (by omega) (by omega) (by omega)]; exact lay2 i a b)⟩
        · show h6.1 (m + 32) 31 = nI (popc (sO (begUp B' j) ||| 2 ^ j))
          rw [e6, pI_n _ _ _ _ (by omega)]; exact v31
        · obtain ⟨u1, u2, u3, u4, u5⟩ := q3 k hk
          refine ⟨by rw [row6 k (by omega) (by omega)]; exact u1, by rw [row6 (6 + k) (by omega) (by omega)]; exact u2, by rw [row6 (24 + k) (by omega) (by omega)]; exact u3, u4, fun z => ?_⟩
          obtain ⟨w1, w2⟩ := u5 z
          show h6.1 (m + 32) (12 + k) = (if (sO (begUp B' j) ||| 2 ^ j).testBit k then nI (if k = j then popc (sO (begUp B' j) ||| 2 ^ j) else sA (begUp B' j) k) else 0) ∧ h6.1 (m + 32) (18 + k) = (if (sL (begUp B' j)).testBit k then 1 else 0)
          rw [tbor hbu.1.2.2.2.1 (by omega) (by omega)]
          refine ⟨?_, by rw [row6 (18 + k) (by omega) (by omega)]; exact w2⟩
          by_cases e : k = j
          · subst e
            rw [e6, pI_s]
            simp
          · rw [row6 (12 + k) (by omega) (by omega), w1]
            show (if (sO (begUp B' j)).testBit k = true then nI (sA (begUp B' j) k) else 0) = _
            simp [e]
    · rintro t K ⟨h2, rfl, f2, R2, lay2, zz2⟩
      have k2 := kk f2
      have O2 := O3.mk k2
      have hbu := begUp_B hB (bN B') (Nat.le_refl _)
      have hbp := begUp_P hn6 hB (bN B') (Nat.le_refl _)
      unfold DB_Mo_beginsBy_44
      rw [r25]
      intro i17 e17
      rw [O2.1] at e17
      subst e17
      rw [nI_clamp (n := L) (by omega), O2.2.2.2.2.2.1]
      refine ⟨vp_in_nI hL (by omega), fun _ => ?_, fun q => absurd (Int32.le_refl _) q⟩
      rw [← hn] at R2 hbp hbu
      refine P_laysAll (wo := -1) hr O2 hB hn R2 (by rw [k2.2 51 (by omega)]; exact b51) hbu.1 hbp.1 (fun h5 k5 R5 => ?_)
      have k35 := k2.tr k5
      refine hQ h5 (f3.tr k35.1) (fun j a b c d => by rw [k35.2 j a]; exact key3 j b c d) (by rw [k35.2 50 (by omega)]; exact b50) (by rw [k35.2 51 (by omega)]; exact b51) (by rw [k35.2 52 (by omega)]; exact b52) ?_
      unfold beginS
      rw [← hn]
      exact R5
