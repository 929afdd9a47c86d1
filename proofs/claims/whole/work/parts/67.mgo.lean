theorem pc_set : ∀ m : Fin 64, ∀ k : Fin 6, m.1.testBit k.1 = false → popc (m.1 ||| 2 ^ k.1) = popc m.1 + 1 := by decide +kernel
theorem pc_le : ∀ m : Fin 64, popc m.1 ≤ 6 := by decide +kernel
theorem tb_or : ∀ m : Fin 64, ∀ k j : Fin 6, (m.1 ||| 2 ^ k.1).testBit j.1 = (m.1.testBit j.1 || decide (j.1 = k.1)) := by decide +kernel
theorem tbor {m k j : Nat} (hm : m < 64) (hk : k < 6) (hj : j < 6) : (m ||| 2 ^ k).testBit j = (m.testBit j || decide (j = k)) := tb_or ⟨m, hm⟩ ⟨k, hk⟩ ⟨j, hj⟩
theorem cellS_P {n k c : Nat} {S : Sc} (h : ScP n S) : ScP n (cellS k c S) := h
theorem homeS_P {n k : Nat} {S : Sc} (hn : n ≤ 6) (hSB : ScB S) (h : ScP n S) (hk : k < 6) (ho : (sO S).testBit k = false) (hl : (sL S).testBit k = false) : ScP n (homeS k S) := by
  intro j hj hb
  have hb' : (sO S ||| 2 ^ k).testBit j = true := hb
  rw [tbor hSB.2.2.2.1 hk (by omega)] at hb'
  show 1 ≤ (if j = k then popc (sO S ||| 2 ^ k) else sA S j) ∧ (if j = k then popc (sO S ||| 2 ^ k) else sA S j) ≤ 6 ∧ (sL S).testBit j = false
  by_cases e : j = k
  · rw [if_pos e]
    have p1 := pc_set ⟨sO S, hSB.2.2.2.1⟩ ⟨k, hk⟩ ho
    have p2 := pc_le ⟨sO S ||| 2 ^ k, bo_lt hSB.2.2.2.1 hk⟩
    exact ⟨by dsimp only at p1; omega, p2, by rw [e]; exact hl⟩
  · rw [if_neg e]
    have : (sO S).testBit j = true := by simpa [e] using hb'
    exact h j hj this
theorem lostS_P {n k : Nat} {S : Sc} (hn : n ≤ 6) (hSB : ScB S) (h : ScP n S) (hk : k < 6) (ho : (sO S).testBit k = false) : ScP n (lostS k S) := by
  intro j hj hb
  have hb' : (sO S).testBit j = true := hb
  obtain ⟨a, b, c⟩ := h j hj hb'
  refine ⟨a, b, ?_⟩
  show (sL S ||| 2 ^ k).testBit j = false
  rw [tbor hSB.2.2.1 hk (by omega), c]
  have : ¬ j = k := fun e => by rw [e, ho] at hb'; exact absurd hb' (by decide)
  simp [this]
theorem sail_iff {S : Sc} {k : Nat} : sail S k = true ↔ (sL S).testBit k = false ∧ (sO S).testBit k = false := by unfold sail; simp
theorem moveS_P {n k w : Nat} {B : By} {S : Sc} (hn : n ≤ 6) (hB : ByB B) (hSB : ScB S) (h : ScP n S) (hk : k < 6) (hs : sail S k = true) : ScP n (moveS B k w S).2 := by
  obtain ⟨hl, ho⟩ := sail_iff.mp hs
  unfold moveS
  split
  · exact h
  · rename_i d hd
    have hd40 := (besF_lt hB.1 hB.2.1 hd).1
    split
    · exact h
    · split
      · exact lostS_P hn (cellS_B hSB hd40) (cellS_P h) hk ho
      · split
        · exact homeS_P hn (cellS_B hSB hd40) (cellS_P h) hk ho hl
        · exact h
theorem P_goesBy {r : TR} {h : TH} {m L n k w : Nat} {wo rk : Int32} {B : By} {S : Sc} {Q : Int32 → TH → Prop} (hr : RMo r m) (hO : MBay h m L rk B) (hB : ByB B) (hn : n = bN B) (hR : RowOK (h.1 (m + 32)) n wo S) (hSB : ScB S) (hk : k < n) (hwl : w < 8) (hs : w = 0 ∨ sail S k = true)
    (hQ : ∀ h', MK m h h' → Fr (fun a => a = m + 32) h h' → RowOK (h'.1 (m + 32)) n wo (moveS B k w S).2 → Q (moveS B k w S).1 h') : D_Mo_goesBy r m (nI k) (nI w) h Q := by
  have hn6 : n ≤ 6 := by rw [hn]; exact hB.2.2.1
  have hk6 : k < 6 := by omega
  have r49 : r m 49 = m + 32 := hr 49 (by decide) (by decide)
  have z31 : (31 : Int32).toNatClampNeg = 31 := by decide
  have hc := hSB.2.2.2.2.1 k hk6
  obtain ⟨g1, g2, g3, g4, g5⟩ := hR.2.2.1 k hk
  unfold D_Mo_goesBy
  rw [r49, nI_clamp (n := k) (by omega), g1]
  refine ⟨vp_in_nI (by omega) (by omega), P_eastBy (by omega) ?_⟩
  intro x4 e4 i6 e6
  have e6' : i6 = nI (6 + k) := by rw [e6]; exact nI_add 6 k
  subst e6'
  rw [nI_clamp (n := 6 + k) (by omega), g2]
  refine ⟨vp_in_nI (by omega) (by omega), P_southBy (by omega) ?_⟩
  intro x9 e9
  subst e4; subst e9
  have w0 : nI w = 0 ↔ w = 0 := nI_eq (b := 0) (by omega) (by omega)
  unfold moveS at hQ
  refine ⟨fun q => ?_, fun q => ?_⟩
  · have hw0 := w0.mp q
    cases he : besF (bW B) (bH B) (sC S k) w with
    | none => rw [he] at hQ; exact hQ h MK.rf Fr.rf hR
    | some d => rw [he] at hQ; dsimp only at hQ; rw [if_pos hw0] at hQ; exact hQ h MK.rf Fr.rf hR
  · have hw0 : ¬ w = 0 := fun z => q (w0.mpr z)
    have hsl : sail S k = true := hs.resolve_left hw0
    obtain ⟨hl, ho⟩ := sail_iff.mp hsl
    have hkw : ¬ nI k = wo := fun z => by rw [g4 z] at hl; exact absurd hl (by decide)
    obtain ⟨p12, p18⟩ := g5 hkw
    refine P_stepM hr hO hB hc (fun d hd ex ey => ⟨fun _ => ?_, fun z => absurd z z01⟩) (fun hd => ⟨fun z => absurd rfl z, fun _ => ?_⟩)
    · have hbd := besF_lt hB.1 hB.2.1 hd
      rw [hd] at hQ
      dsimp only at hQ
      rw [if_neg hw0] at hQ
      have hk3 : bK B d ≤ 2 := by have := hB.2.2.2.2.2.1 d hbd.1; rw [if_pos hbd.2] at this; exact this
      show D_Mo_sortAt r m (nI (sC S k % 8) + eI w) (nI (sC S k / 8) + soI w) h _
      rw [ex, ey]
      refine P_sortAt hr hO hbd.1 hbd.2.1 hbd.2.2 ⟨vp_in_nI (by omega) (by omega), ?_⟩
      intro h18 e18
      have e6k : (6 : Int32) + nI k = nI (6 + k) := nI_add 6 k
      refine ⟨by rw [e6k]; exact vp_in_nI (by omega) (by omega), ?_⟩
      intro h20 e20
      have e18k : (18 : Int32) + nI k = nI (18 + k) := nI_add 18 k
      have e12k : (12 : Int32) + nI k = nI (12 + k) := nI_add 12 k
      rw [e6k, nI_clamp (n := 6 + k) (by omega)] at e20
      have k20 : MK m h h20 := by rw [e20, e18]; exact (MK.pI (by omega)).tr (MK.pI (by omega))
      have f20 : Fr (fun a => a = m + 32) h h20 := by rw [e20, e18]; exact (Fr.pI (F := fun a => a = m + 32) rfl).tr (Fr.pI (F := fun a => a = m + 32) rfl)
      have row20 : ∀ i, ¬ i = k → ¬ i = 6 + k → h20.1 (m + 32) i = h.1 (m + 32) i := fun i a b => by rw [e20, pI_n _ _ _ _ (by omega), e18, pI_n _ _ _ _ (by omega)]
      have at0 : h20.1 (m + 32) k = nI (d % 8) := by rw [e20, pI_n _ _ _ _ (by omega), e18, pI_s]
      have at6 : h20.1 (m + 32) (6 + k) = nI (d / 8) := by rw [e20, pI_s]
      have R20 : RowOK (h20.1 (m + 32)) n wo (cellS k d S) := by
        obtain ⟨q1, q2, q3, q4⟩ := hR
        refine ⟨by rw [row20 30 (by omega) (by omega)]; exact q1, by rw [row20 31 (by omega) (by omega)]; exact q2, fun j hj => ?_, fun c' hc' d' hd' => ?_⟩
        · obtain ⟨u1, u2, u3, u4, u5⟩ := q3 j hj
          show h20.1 (m + 32) j = nI ((if j = k then d else sC S j) % 8) ∧ h20.1 (m + 32) (6 + j) = nI ((if j = k then d else sC S j) / 8) ∧ _
          refine ⟨?_, ?_, ?_, u4, fun z => ?_⟩
          · by_cases e : j = k
            · rw [if_pos e, e]; exact at0
            · rw [if_neg e, row20 j e (by omega)]; exact u1
          · by_cases e : j = k
            · rw [if_pos e, e]; exact at6
            · rw [if_neg e, row20 (6 + j) (by omega) (by omega)]; exact u2
          · rw [row20 (24 + j) (by omega) (by omega)]; exact u3
          · rw [row20 (12 + j) (by omega) (by omega), row20 (18 + j) (by omega) (by omega)]; exact u5 z
        · rw [row20 (32 + (6 * c' + d')) (by omega) (by omega), row20 (272 + (6 * c' + d')) (by omega) (by omega)]
          exact q4 c' hc' d' hd'
      have b98 : ∀ (h' : TH), (bK B d = 0 → Q 0 h') → (bK B d = 2 → Q 1 h') → (bK B d = 1 → Q 2 h') → DJ_Mo_goesBy_98 r (nI (bK B d)) h' Q := by
        intro h' a0 a2 a1
        have c0 : nI (bK B d) = 0 ↔ bK B d = 0 := nI_eq (b := 0) (by omega) (by omega)
        have c2 : nI (bK B d) = 2 ↔ bK B d = 2 := nI_eq (b := 2) (by omega) (by omega)
        unfold DJ_Mo_goesBy_98
        refine ⟨fun q0 => ⟨fun q2 => a1 ?_, fun q2 => a2 (c2.mp q2)⟩, fun q0 => a0 (c0.mp q0)⟩
        have n0 : ¬ bK B d = 0 := fun z => q0 (c0.mpr z)
        have n2 : ¬ bK B d = 2 := fun z => q2 (c2.mpr z)
        omega
      have c1 : nI (bK B d) = 1 ↔ bK B d = 1 := nI_eq (b := 1) (by omega) (by omega)
      have c2 : nI (bK B d) = 2 ↔ bK B d = 2 := nI_eq (b := 2) (by omega) (by omega)
      refine ⟨fun q1 => ?_, fun q1 => ?_⟩
      · have n1 : ¬ bK B d = 1 := fun z => q1 (c1.mpr z)
        rw [if_neg n1] at hQ
        unfold DJ_Mo_goesBy_87
        refine ⟨fun q2 => ?_, fun q2 => ?_⟩
        · have n2 : ¬ bK B d = 2 := fun z => q2 (c2.mpr z)
          rw [if_neg n2] at hQ
          exact b98 h20 (fun _ => hQ h20 k20 f20 R20) (fun z => absurd z n2) (fun z => absurd z n1)
        · have n2 := c2.mp q2
          rw [if_pos n2] at hQ
          unfold D_Mo_homeIs
          rw [r49, z31, e12k, nI_clamp (n := 12 + k) (by omega)]
          intro h2 e2
          rw [R20.2.1, nI_1] at e2
          refine ⟨vp_in_nI (by omega) (by omega), ?_⟩
          intro h5 e5
          have p1 := pc_set ⟨sO S, hSB.2.2.2.1⟩ ⟨k, hk6⟩ ho
          dsimp only at p1
          have v31 : h2.1 (m + 32) 31 = nI (popc (sO S ||| 2 ^ k)) := by rw [e2, pI_s, p1]; rfl
          rw [v31] at e5
          have k5 : MK m h h5 := k20.tr (by rw [e5, e2]; exact (MK.pI (by omega)).tr (MK.pI (by omega)))
          have f5 : Fr (fun a => a = m + 32) h h5 := f20.tr (by rw [e5, e2]; exact (Fr.pI (F := fun a => a = m + 32) rfl).tr (Fr.pI (F := fun a => a = m + 32) rfl))
          have row5 : ∀ i, ¬ i = 31 → ¬ i = 12 + k → h5.1 (m + 32) i = h20.1 (m + 32) i := fun i a b => by rw [e5, pI_n _ _ _ _ (by omega), e2, pI_n _ _ _ _ (by omega)]
          refine b98 h5 (fun z => by omega) (fun _ => hQ h5 k5 f5 ?_) (fun z => absurd z n1)
          obtain ⟨q1', q2', q3', q4'⟩ := R20
          refine ⟨by rw [row5 30 (by omega) (by omega)]; exact q1', ?_, fun j hj => ?_, fun c' hc' d' hd' => ?_⟩
          · show h5.1 (m + 32) 31 = nI (popc (sO S ||| 2 ^ k))
            rw [e5, pI_n _ _ _ _ (by omega)]; exact v31
          · obtain ⟨u1, u2, u3, u4, u5⟩ := q3' j hj
            refine ⟨by rw [row5 j (by omega) (by omega)]; exact u1, by rw [row5 (6 + j) (by omega) (by omega)]; exact u2, by rw [row5 (24 + j) (by omega) (by omega)]; exact u3, u4, fun z => ?_⟩
            obtain ⟨w1, w2⟩ := u5 z
            show h5.1 (m + 32) (12 + j) = (if (sO S ||| 2 ^ k).testBit j then nI (if j = k then popc (sO S ||| 2 ^ k) else sA S j) else 0) ∧ h5.1 (m + 32) (18 + j) = (if (sL S).testBit j then 1 else 0)
            rw [tbor hSB.2.2.2.1 hk6 (by omega)]
            refine ⟨?_, by rw [row5 (18 + j) (by omega) (by omega)]; exact w2⟩
            by_cases e : j = k
            · subst e
              rw [e5, pI_s]
              simp
            · rw [row5 (12 + j) (by omega) (by omega), w1]
              show (if (sO S).testBit j = true then nI (sA S j) else 0) = _
              simp [e]
          · rw [row5 (32 + (6 * c' + d')) (by omega) (by omega), row5 (272 + (6 * c' + d')) (by omega) (by omega)]
            exact q4' c' hc' d' hd'
      · have n1 := c1.mp q1
        rw [if_pos n1] at hQ
        rw [e18k]
        refine ⟨vp_in_nI (by omega) (by omega), ?_⟩
        intro h28 e28
        rw [nI_clamp (n := 18 + k) (by omega)] at e28
        have k28 : MK m h h28 := k20.tr (by rw [e28]; exact MK.pI (by omega))
        have f28 : Fr (fun a => a = m + 32) h h28 := f20.tr (by rw [e28]; exact Fr.pI rfl)
        have row28 : ∀ i, ¬ i = 18 + k → h28.1 (m + 32) i = h20.1 (m + 32) i := fun i a => by rw [e28, pI_n _ _ _ _ (by omega)]
        unfold DJ_Mo_goesBy_87
        refine ⟨fun q2 => ?_, fun q2 => absurd (c2.mp q2) (by omega)⟩
        refine b98 h28 (fun z => by omega) (fun z => by omega) (fun _ => hQ h28 k28 f28 ?_)
        obtain ⟨q1', q2', q3', q4'⟩ := R20
        refine ⟨by rw [row28 30 (by omega)]; exact q1', by rw [row28 31 (by omega)]; exact q2', fun j hj => ?_, fun c' hc' d' hd' => ?_⟩
        · obtain ⟨u1, u2, u3, u4, u5⟩ := q3' j hj
          have u4' : nI j = wo → (sL S).testBit j = true := u4
          refine ⟨by rw [row28 j (by omega)]; exact u1, by rw [row28 (6 + j) (by omega)]; exact u2, by rw [row28 (24 + j) (by omega)]; exact u3, fun z => ?_, fun z => ?_⟩
          · show (sL S ||| 2 ^ k).testBit j = true
            rw [tbor hSB.2.2.1 hk6 (by omega), u4' z]; rfl
          · obtain ⟨w1, w2⟩ := u5 z
            show h28.1 (m + 32) (12 + j) = (if (sO S).testBit j then nI (sA S j) else 0) ∧ h28.1 (m + 32) (18 + j) = (if (sL S ||| 2 ^ k).testBit j then 1 else 0)
            rw [tbor hSB.2.2.1 hk6 (by omega)]
            refine ⟨by rw [row28 (12 + j) (by omega)]; exact w1, ?_⟩
            by_cases e : j = k
            · subst e
              rw [e28, pI_s]
              simp
            · rw [row28 (18 + j) (by omega), w2]
              show (if (sL S).testBit j = true then 1 else 0) = _
              simp [e]
        · rw [row28 (32 + (6 * c' + d')) (by omega), row28 (272 + (6 * c' + d')) (by omega)]
          exact q4' c' hc' d' hd'
    · rw [hd] at hQ
      exact hQ h MK.rf Fr.rf hR
