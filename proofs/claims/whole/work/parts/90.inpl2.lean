theorem J_inPlace {r : TR} {q b d m L T : Nat} {h : TH} {A : St} {a1 a2 : Int32} {Q : Int32 → Int32 → TH → Prop} (C : Cx r q b d m L T h A) (hQ : ∀ x h', Cx r q b d m L T h' A → Q x x h') : D_SR_inPlace r q a1 a2 h (fun x h1 => D_Mo_inPlace r m a1 a2 h1 (fun y h2 => Q x y h2)) := by
  have hB := C.2.2.2.1.1
  have hn := hB.2.2.1
  obtain ⟨hR, hM, hqm, hA, hx, hm⟩ := id C
  obtain ⟨⟨-, r1, r2, r3, -⟩, -, ⟨s1, s2, -⟩, -, -, -, -, rb, -, ap⟩ := id hR
  have hT := hA.2.2.2.2.2.2.2.2
  have r49 : r m 49 = m + 32 := hM 49 (by decide) (by decide)
  have z31 : (31 : Int32).toNatClampNeg = 31 := by decide
  unfold D_SR_inPlace
  refine P_SRisBoat (B := tB A) r1 hx.1.2.2.1 hB (fun k hk e => ⟨fun z => absurd z z01, fun _ => ?_⟩) (fun hnk => ⟨fun _ => ?_, fun z => absurd rfl z⟩)
  · subst e
    refine P_within (fun z2 w2 => ⟨fun _ => ?_, fun z => absurd z z01⟩) (fun z2 => ⟨fun z => absurd rfl z, fun _ => ?_⟩)
    · obtain ⟨p, hp1, hp6, rfl⟩ := wi_nI (x := 1) (y := 6) (by omega) z2 w2 (by omega)
      have ep : nI p - 1 = nI (p - 1) := nI_s1 (by omega)
      refine P_stepsToMark hR hA hx hk ⟨fun z => ?_, fun z => ?_⟩
      · obtain ⟨x, hx0, hx40, hs, hf, ex⟩ := stepI_pos z
        have p1 : (1 : Int32) ≤ nI x := nI_le (a := 1) hx0 (by omega)
        have I0 := lostS_I hB hA.2.1 hk hs
        have l0 : (sL (lostS k (tS A))).testBit k = true := by
          show (sL (tS A) ||| 2 ^ k).testBit k = true
          rw [tbor hA.2.1.1.2.2.1 (by omega) (by omega), decide_eq_true rfl, Bool.or_true]
        have hI : ∀ t, t ≤ 101 → SI (tB A) (T + t) (hoursS (tB A) (nI (bSe (tB A))) t (lostS k (tS A))) := fun t ht => hoursS_I (seed := nI (bSe (tB A))) hB I0 t (by omega)
        have hl : ∀ t, t ≤ 101 → (sL (hoursS (tB A) (nI (bSe (tB A))) t (lostS k (tS A)))).testBit k = true := fun t ht => hours_lost l0 hn (by omega) hB I0.1 t (by have := I0.2.2.2.1; omega)
        have hac : ∀ t, t < 100 → ahdM (hoursS (tB A) (nI (bSe (tB A))) t (lostS k (tS A))) (hoursS (tB A) (nI (bSe (tB A))) (t + 1) (lostS k (tS A))) k < 64 ∧ popc (ahdM (hoursS (tB A) (nI (bSe (tB A))) t (lostS k (tS A))) (hoursS (tB A) (nI (bSe (tB A))) (t + 1) (lostS k (tS A))) k) = _ := fun t ht => ahd_cnt hB (hI t (by omega)) (hI (t + 1) (by omega)) (hourS_HE hB (hI t (by omega)).1 (hI t (by omega)).2.1) hk (hl (t + 1) (by omega))
        have pt1 : ∀ t, 1 + t - 1 = t := fun t => by omega
        have et1 : ∀ t, 1 + t = t + 1 := fun t => by omega
        have mo : ∀ h1 : TH, Fr (FX q b) h h1 → BScr b h h1 → D_Mo_inPlace r m (nI k) (nI p) h1 (fun y h2 => Q (seekF (inpF (tB A) (lostS k (tS A)) k x p) 40 1) y h2) := by
          intro h1 f1 t1
          have C1 := C.x f1 t1
          unfold D_Mo_inPlace
          refine P_MoisBoat hM C1.2.2.2.2.2.bay (rockB_B hB) (fun k' hk' e' => ⟨fun z => absurd z z01, fun _ => ?_⟩) (fun z => absurd rfl (z k hk))
          refine P_in1 z2 w2 ⟨fun _ => ?_, fun z => absurd z z01⟩
          refine P_soonestOf hM hA C1.2.2.2.2.2 hk (fun h4 q4 O4 R4 w4 l4 _ => ?_)
          rw [ex]
          refine ⟨fun _ h11 e11 => ?_, fun w => absurd p1 w⟩
          have q11 : Qm m h4 h11 := ⟨by rw [e11]; exact Fr.pI (Or.inl rfl), fun j _ _ y _ => by rw [e11, pI_n _ _ _ _ (by omega)]⟩
          have O11 : MBay h11 m L (-1) (tB A) := O4.mv (fun x a b => by rw [e11, pI_o _ _ _ _ (by omega)]) (by rw [e11, pI_n _ _ _ _ (by omega)]) (by rw [e11, pI_n _ _ _ _ (by omega)]; exact O4.2.2.1)
          have R11 : RowOK (h11.1 (m + 32)) (bN (tB A)) (nI k) (lostS k (tS A)) := by rw [e11, pI_o _ _ _ _ (by omega)]; exact R4.without hn hA.2.1.1.2.2.1 hk
          have w11 : h11.1 m 51 = nI k := by rw [e11, pI_s]
          have l11 : h11.1 m 50 = nI (bSe (tB A)) := by rw [e11, pI_n _ _ _ _ (by omega)]; exact l4
          refine lp_for 40 (fun t s => ∃ h5, s = (nI (1 + t), h5) ∧ MK m h11 h5 ∧ RowOK (h5.1 (m + 32)) (bN (tB A)) (nI k) (hoursS (tB A) (nI (bSe (tB A))) t (lostS k (tS A))) ∧ seekF (inpF (tB A) (lostS k (tS A)) k x p) 40 1 = seekF (inpF (tB A) (lostS k (tS A)) k x p) (40 - t) (1 + t)) ?_ ?_ _ ⟨h11, rfl, MK.rf, R11, rfl⟩
          · rintro t s K ht ⟨h5, rfl, k5, R5, es⟩ hK
            have It := hI t (by omega)
            have It1 := hI (t + 1) (by omega)
            have en : 40 - t = (40 - (t + 1)) + 1 := by omega
            rw [en] at es
            have w5 : h5.1 m 51 = nI k := by rw [k5.2 51 (by omega)]; exact w11
            have l5 : h5.1 m 50 = nI (bSe (tB A)) := by rw [k5.2 50 (by omega)]; exact l11
            have e1t : 1 + (t + 1) = 1 + t + 1 := by omega
            obtain ⟨am, ac⟩ := hac t (by omega)
            have pl := pc_le ⟨_, It.1.2.2.2.1⟩
            simp only [] at pl
            unfold DB_Mo_inPlace_42
            refine ⟨fun q => absurd ((nI_ltI (a := 40) (by omega) (by omega)).mp q) (by omega), fun _ x15 e15 => ?_⟩
            rw [r49, z31] at e15
            replace e15 : x15 = h5.1 (m + 32) 31 := e15
            rw [R5.2.1] at e15
            subst e15
            refine P_hourGoes (seed := nI (bSe (tB A))) hM (O11.mk k5) hB rfl R5 w5 l5 It.1 It.2.1 (by have := It.2.2.2.1; omega) (fun h8 k8 R8 => ?_)
            replace R8 : RowOK (h8.1 (m + 32)) (bN (tB A)) (nI k) (hoursS (tB A) (nI (bSe (tB A))) (t + 1) (lostS k (tS A))) := R8
            have k58 := k5.tr k8
            have no : inpF (tB A) (lostS k (tS A)) k x p (1 + t) = none → ∀ y : Int32, y = nI (1 + t) + 1 → K (y, h8) := by
              intro z y ey
              rw [nI_1] at ey; subst ey
              refine hK _ ⟨h8, by rw [e1t], k58, R8, ?_⟩
              rw [es, seekF_n z, e1t]
            refine ⟨fun z => no ?_, fun z => ?_⟩
            · have : 1 + t < x := (nI_ltI (by omega) (by omega)).mp z
              unfold inpF
              rw [if_neg (by omega)]
            · have hxt : x ≤ 1 + t := by
                rcases Nat.lt_or_ge (1 + t) x with q | q
                · exact absurd (nI_lt q (by omega)) z
                · exact q
              refine P_homeAhead hM (O11.mk k58) hB R8 It1.2.1 (by omega) pl ?_
              rw [← ac, ep]
              have pa := pc_le ⟨_, am⟩
              simp only [] at pa
              refine ⟨fun y => no ?_, fun y => ?_⟩
              · have : ¬ popc (ahdM (hoursS (tB A) (nI (bSe (tB A))) t (lostS k (tS A))) (hoursS (tB A) (nI (bSe (tB A))) (t + 1) (lostS k (tS A))) k) = p - 1 := fun w => y (by rw [w])
                unfold inpF
                rw [pt1, et1, if_neg (by omega)]
              · have := (nI_eq (by omega) (by omega)).mp y
                have fs : inpF (tB A) (lostS k (tS A)) k x p (1 + t) = some (nI (1 + t)) := by
                  unfold inpF
                  rw [pt1, if_pos ⟨hxt, by rw [et1]; omega⟩]
                rw [es, seekF_s fs]
                exact hQ _ _ (((C1.m q4).m q11).m (Qm.mk k58))
          · rintro s K ⟨h5, rfl, k5, R5, es⟩
            unfold DB_Mo_inPlace_42
            refine ⟨fun _ => ?_, fun q => absurd (nI_lt (a := 40) (by omega) (by omega)) q⟩
            rw [es]
            exact hQ _ _ (((C1.m q4).m q11).m (Qm.mk k5))
        refine P_lookWithout hR hA hx (by omega) (fun h1 f1 t1 S1 x13 e13 => ?_)
        have e13' : x13 = nI (2 ^ k - 1) := by rw [e13]; exact (ab1 ⟨k, by omega⟩).1
        subst e13'
        have hlk : 2 ^ k - 1 < 64 := (ab1 ⟨k, by omega⟩).2
        rw [ex]
        refine lp_for 40 (fun t s => ∃ h', s = (nI (1 + t), h') ∧ Fr (FX q b) h h' ∧ BScr b h h' ∧ ScOK h' (q + 56) (hoursS (tB A) (nI (bSe (tB A))) t (lostS k (tS A))) ∧ seekF (inpF (tB A) (lostS k (tS A)) k x p) 40 1 = seekF (inpF (tB A) (lostS k (tS A)) k x p) (40 - t) (1 + t)) ?_ ?_ _ ⟨h1, rfl, f1, t1, S1, rfl⟩
        · rintro t s K ht ⟨h', rfl, f', t', S', es⟩ hK
          have It := hI t (by omega)
          have It1 := hI (t + 1) (by omega)
          have en : 40 - t = (40 - (t + 1)) + 1 := by omega
          rw [en] at es
          have e1t : 1 + (t + 1) = 1 + t + 1 := by omega
          obtain ⟨am, ac⟩ := hac t (by omega)
          unfold DB_SR_inPlace_48
          refine ⟨fun q => absurd ((nI_ltI (a := 40) (by omega) (by omega)).mp q) (by omega), fun _ x17 e17 => ?_⟩
          rw [r3] at e17
          replace e17 : x17 = h'.1 (q + 56) 3 := e17
          rw [S'.2.2.2.1] at e17
          subst e17
          show D_Bay_passHour r (r q 1) (r q 3) (h'.1 (r q 1) 4) h' _
          rw [r1, r3]
          refine P_hourX C f' t' S' It.1 (by have := It.2.2.2.1; omega) (fun h8 f8 t8 S8 x24 e24 => ?_)
          replace S8 : ScOK h8 (q + 56) (hoursS (tB A) (nI (bSe (tB A))) (t + 1) (lostS k (tS A))) := S8
          rw [S8.2.2.2.1, band It1.1.2.2.2.1 hlk, bor It.1.2.2.2.1 (and_lt64 It1.1.2.2.2.1)] at e24
          replace e24 : x24 = nI (ahdM (hoursS (tB A) (nI (bSe (tB A))) t (lostS k (tS A))) (hoursS (tB A) (nI (bSe (tB A))) (t + 1) (lostS k (tS A))) k) := e24
          subst e24
          have no : inpF (tB A) (lostS k (tS A)) k x p (1 + t) = none → ∀ y : Int32, y = nI (1 + t) + 1 → K (y, h8) := by
            intro z y ey
            rw [nI_1] at ey; subst ey
            refine hK _ ⟨h8, by rw [e1t], f8, t8, S8, ?_⟩
            rw [es, seekF_n z, e1t]
          refine ⟨fun z => no ?_, fun z => ?_⟩
          · have : 1 + t < x := (nI_ltI (by omega) (by omega)).mp z
            unfold inpF
            rw [if_neg (by omega)]
          · have hxt : x ≤ 1 + t := by
              rcases Nat.lt_or_ge (1 + t) x with q | q
              · exact absurd (nI_lt q (by omega)) z
              · exact q
            refine P_bitCount am ?_
            rw [ep]
            have pa := pc_le ⟨_, am⟩
            simp only [] at pa
            refine ⟨fun y => no ?_, fun y => ?_⟩
            · have : ¬ popc (ahdM (hoursS (tB A) (nI (bSe (tB A))) t (lostS k (tS A))) (hoursS (tB A) (nI (bSe (tB A))) (t + 1) (lostS k (tS A))) k) = p - 1 := fun w => y (by rw [w])
              unfold inpF
              rw [pt1, et1, if_neg (by omega)]
            · have := (nI_eq (by omega) (by omega)).mp y
              have fs : inpF (tB A) (lostS k (tS A)) k x p (1 + t) = some (nI (1 + t)) := by
                unfold inpF
                rw [pt1, if_pos ⟨hxt, by rw [et1]; omega⟩]
              have := mo h8 f8 t8
              rw [es, seekF_s fs] at this
              exact this
        · rintro s K ⟨h', rfl, f', t', S', es⟩
          unfold DB_SR_inPlace_48
          refine ⟨fun _ => ?_, fun q => absurd (nI_lt (a := 40) (by omega) (by omega)) q⟩
          have := mo h' f' t'
          rw [es] at this
          exact this
      · unfold D_Mo_inPlace
        refine P_MoisBoat hM hm.bay (rockB_B hB) (fun k' hk' e' => ⟨fun z => absurd z z01, fun _ => ?_⟩) (fun z => absurd rfl (z k hk))
        refine P_in1 z2 w2 ⟨fun _ => ?_, fun z => absurd z z01⟩
        refine P_soonestOf hM hA hm hk (fun h5 q5 O5 R5 w5 l5 v5 => ?_)
        exact ⟨fun w => absurd (Int32.lt_of_lt_of_le (show (0 : Int32) < 1 by decide) w) z, fun _ => hQ _ _ (C.m q5)⟩
    · unfold D_Mo_inPlace
      refine P_MoisBoat hM hm.bay (rockB_B hB) (fun k' hk' e' => ⟨fun z => absurd z z01, fun _ => ?_⟩) (fun z => absurd rfl (z k hk))
      exact P_in0 z2 ⟨fun z => absurd rfl z, fun _ => hQ _ _ C⟩
  · unfold D_Mo_inPlace
    exact P_MoisBoat hM hm.bay (rockB_B hB) (fun k hk e => absurd e (hnk k hk)) (fun _ => ⟨fun _ => hQ _ _ C, fun z => absurd rfl z⟩)
