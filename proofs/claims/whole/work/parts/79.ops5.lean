/-! searches over hours to come -/
def seekF (f : Nat → Option Int32) : Nat → Nat → Int32
  | 0, _ => -2
  | m + 1, j => match f j with
    | some x => x
    | none => seekF f m (j + 1)
theorem seekF_s {f : Nat → Option Int32} {m j : Nat} {x : Int32} (e : f j = some x) : seekF f (m + 1) j = x := by unfold seekF; rw [e]
theorem seekF_n {f : Nat → Option Int32} {m j : Nat} (e : f j = none) : seekF f (m + 1) j = seekF f m (j + 1) := by conv => lhs; unfold seekF; rw [e]
def smltF (B : By) (S : Sc) (k o t : Nat) : Option Int32 := if (smells B (hoursS B (nI (bSe B)) t S) (nI (bSe B)) k).testBit o = true then some (nI t) else none
theorem J_smelt {r : TR} {q b d m L T : Nat} {h : TH} {A : St} {a1 a2 : Int32} {Q : Int32 → Int32 → TH → Prop} (C : Cx r q b d m L T h A) (hQ : ∀ x h', Cx r q b d m L T h' A → Q x x h') : D_SR_smelt r q a1 a2 h (fun x h1 => D_Mo_smelt r m a1 a2 h1 (fun y h2 => Q x y h2)) := by
  have hB := C.2.2.2.1.1
  have hn := hB.2.2.1
  obtain ⟨hR, hM, hqm, hA, hx, hm⟩ := id C
  obtain ⟨⟨-, r1, r2, r3, -⟩, -, ⟨s1, s2, -⟩, -, -, -, -, rb, -, ap⟩ := id hR
  have hT := hA.2.2.2.2.2.2.2.2
  have SH := hA.2.1.2.2.2.1
  unfold D_SR_smelt
  refine P_arePair (B := tB A) r1 hx.1.2.2.1 hB (fun k j hk hj e1 e2 hkj => ⟨fun _ => ?_, fun z => absurd z z01⟩) (fun hno => ⟨fun z => absurd rfl z, fun _ => ?_⟩)
  · subst e1; subst e2
    have hI : ∀ t, t ≤ 101 → SI (tB A) (T + t) (hoursS (tB A) (nI (bSe (tB A))) t (tS A)) := fun t ht => hoursS_I (seed := nI (bSe (tB A))) hB hA.2.1 t (by omega)
    have mo : ∀ h1 : TH, Fr (FX q b) h h1 → BScr b h h1 → D_Mo_smelt r m (nI k) (nI j) h1 (fun y h2 => Q (seekF (smltF (tB A) (tS A) k j) 101 0) y h2) := by
      intro h1 f1 t1
      have C1 := C.x f1 t1
      unfold D_Mo_smelt
      refine P_MoisBoat hM C1.2.2.2.2.2.bay (rockB_B hB) (fun k' hk' e' => ⟨fun z => absurd z z01, fun _ => ?_⟩) (fun z => absurd rfl (z k hk))
      refine P_MoisBoat hM C1.2.2.2.2.2.bay (rockB_B hB) (fun k' hk' e' => ⟨fun z => absurd z z01, fun _ => ⟨fun _ => ?_, fun z => absurd ((nI_eq (by omega) (by omega)).mp z) hkj⟩⟩) (fun z => absurd rfl (z j hj))
      refine P_cp hM C1.2.2.2.2.2 hB (fun h4 q4 O4 R4 w4 l4 => ?_)
      refine lp_for 101 (fun t s => ∃ h5, s = (nI t, h5) ∧ MK m h4 h5 ∧ RowOK (h5.1 (m + 32)) (bN (tB A)) (-1) (hoursS (tB A) (nI (bSe (tB A))) t (tS A)) ∧ seekF (smltF (tB A) (tS A) k j) 101 0 = seekF (smltF (tB A) (tS A) k j) (101 - t) t) ?_ ?_ _ ⟨h4, rfl, MK.rf, R4, rfl⟩
      · rintro t s K ht ⟨h5, rfl, k5, R5, es⟩ hK
        have It := hI t (by omega)
        have en : 101 - t = (101 - (t + 1)) + 1 := by omega
        rw [en] at es
        have w5 : h5.1 m 51 = -1 := by rw [k5.2 51 (by omega)]; exact w4
        have l5 : h5.1 m 50 = nI (bSe (tB A)) := by rw [k5.2 50 (by omega)]; exact l4
        have sl := smells_lt (S := hoursS (tB A) (nI (bSe (tB A))) t (tS A)) (seed := nI (bSe (tB A))) (k := k) hB
        unfold DB_Mo_smelt_29
        refine ⟨fun q => absurd ((nI_ltI (a := 100) (by omega) (by omega)).mp q) (by omega), fun _ => ?_⟩
        refine P_Mo_smellsOf (seed := nI (bSe (tB A))) hM (O4.mk k5) hB rfl R5 w5 l5 It.1 It.2.1 hk ⟨fun z => ?_, fun z => ?_⟩
        · have z' : smltF (tB A) (tS A) k j t = none := if_neg (fun e => z ((bt_1 sl (by omega)).mpr e))
          refine P_hourGoes (seed := nI (bSe (tB A))) hM (O4.mk k5) hB rfl R5 w5 l5 It.1 It.2.1 (by have := It.2.2.2.1; omega) (fun h8 k8 R8 x e => ?_)
          rw [nI_1] at e; subst e
          exact hK _ ⟨h8, rfl, k5.tr k8, R8, es.trans (seekF_n z')⟩
        · have z' : smltF (tB A) (tS A) k j t = some (nI t) := if_pos ((bt_1 sl (by omega)).mp z)
          rw [es, seekF_s z']
          exact hQ _ _ ((C1.m q4).m (Qm.mk k5))
      · rintro s K ⟨h5, rfl, k5, R5, es⟩
        unfold DB_Mo_smelt_29
        refine ⟨fun _ => ?_, fun q => absurd (nI_lt (a := 100) (by omega) (by omega)) q⟩
        rw [es]
        exact hQ _ _ ((C1.m q4).m (Qm.mk k5))
    refine P_lookAhead (n := 0) hR hA hx (by omega) (fun h1 f1 t1 S1 => ?_)
    refine lp_for 101 (fun t s => ∃ h', s = (nI t, h') ∧ Fr (FX q b) h h' ∧ BScr b h h' ∧ ScOK h' (q + 56) (hoursS (tB A) (nI (bSe (tB A))) t (tS A)) ∧ seekF (smltF (tB A) (tS A) k j) 101 0 = seekF (smltF (tB A) (tS A) k j) (101 - t) t) ?_ ?_ _ ⟨h1, rfl, f1, t1, S1, rfl⟩
    · rintro t s K ht ⟨h', rfl, f', t', S', es⟩ hK
      have It := hI t (by omega)
      have en : 101 - t = (101 - (t + 1)) + 1 := by omega
      rw [en] at es
      have O' := hx.1.scr t'
      have sl := smells_lt (S := hoursS (tB A) (nI (bSe (tB A))) t (tS A)) (seed := nI (bSe (tB A))) (k := k) hB
      unfold DB_SR_smelt_18
      refine ⟨fun q => absurd ((nI_ltI (a := 100) (by omega) (by omega)).mp q) (by omega), fun _ => ?_⟩
      show D_Bay_dishesSmelledBy r (r q 1) (r q 3) (nI k) (h'.1 (r q 1) 4) h' _
      rw [r1, r3, O'.2.2.2.2.1]
      refine P_dishesSmelledBy (seed := nI (bSe (tB A))) rb s2 O' hB S' It.1 hk ⟨fun z => ?_, fun z => ?_⟩
      · have z' : smltF (tB A) (tS A) k j t = none := if_neg (fun e => z ((bt_1 sl (by omega)).mpr e))
        refine P_hourX C f' t' S' It.1 (by have := It.2.2.2.1; omega) (fun h8 f8 t8 S8 x e => ?_)
        have e' : x = nI (t + 1) := by rw [e]; exact nI_1 t
        subst e'
        exact hK _ ⟨h8, rfl, f8, t8, S8, es.trans (seekF_n z')⟩
      · have z' : smltF (tB A) (tS A) k j t = some (nI t) := if_pos ((bt_1 sl (by omega)).mp z)
        have := mo h' f' t'
        rw [es, seekF_s z'] at this
        exact this
    · rintro s K ⟨h', rfl, f', t', S', es⟩
      unfold DB_SR_smelt_18
      refine ⟨fun _ => ?_, fun q => absurd (nI_lt (a := 100) (by omega) (by omega)) q⟩
      have := mo h' f' t'
      rw [es] at this
      exact this
  · unfold D_Mo_smelt
    rcases hno with hno | ⟨⟨k, hk, e⟩, hno⟩
    · exact P_MoisBoat hM hm.bay (rockB_B hB) (fun k hk e => absurd e (hno k hk)) (fun _ => ⟨fun _ => hQ _ _ C, fun z => absurd rfl z⟩)
    · refine P_MoisBoat hM hm.bay (rockB_B hB) (fun k' hk' e' => ⟨fun z => absurd z z01, fun _ => ?_⟩) (fun z => absurd e (z k hk))
      rcases hno with hno | ⟨⟨j, hj, e2⟩, hno⟩
      · exact P_MoisBoat hM hm.bay (rockB_B hB) (fun k hk e => absurd e (hno k hk)) (fun _ => ⟨fun _ => hQ _ _ C, fun z => absurd rfl z⟩)
      · exact P_MoisBoat hM hm.bay (rockB_B hB) (fun k' hk' e' => ⟨fun z => absurd z z01, fun _ => ⟨fun z => absurd hno z, fun _ => hQ _ _ C⟩⟩) (fun z => absurd e2 (z j hj))
/-- of a set those that are not in another -/
def dfM (a b : Nat) : Nat := a &&& (63 ^^^ b)
theorem df1 : ∀ a b : Fin 64, (nI a.1 &&& (nI b.1 ^^^ (-1))) = nI (dfM a.1 b.1) ∧ dfM a.1 b.1 < 64 := by decide +kernel
theorem df2 : ∀ a b : Fin 64, ∀ k : Fin 6, (dfM a.1 b.1).testBit k.1 = (a.1.testBit k.1 && !b.1.testBit k.1) := by decide +kernel
def lostF (B : By) (S : Sc) (w : Int32) (t : Nat) : Option Int32 := if dfM (sL (hoursS B (nI (bSe B)) t S)) (sL S) = 0 then none else some (if w = 1 then nI t else leastI (dfM (sL (hoursS B (nI (bSe B)) t S)) (sL S)))
theorem J_lost {r : TR} {q b d m L T : Nat} {h : TH} {A : St} {a1 : Int32} {Q : Int32 → Int32 → TH → Prop} (C : Cx r q b d m L T h A) (hQ : ∀ x h', Cx r q b d m L T h' A → Q x x h') : D_SR_lost r q a1 h (fun x h1 => D_Mo_lost r m a1 h1 (fun y h2 => Q x y h2)) := by
  have hB := C.2.2.2.1.1
  have hn := hB.2.2.1
  obtain ⟨hR, hM, hqm, hA, hx, hm⟩ := id C
  obtain ⟨⟨-, r1, r2, r3, -⟩, -, ⟨s1, s2, -⟩, -, -, -, -, rb, -, ap⟩ := id hR
  have hT := hA.2.2.2.2.2.2.2.2
  have SH := hA.2.1.2.2.2.1
  have SB := hA.2.1.1
  have r25 : r m 25 = m + 12 := hM 25 (by decide) (by decide)
  unfold D_SR_lost
  refine P_within (fun z2 w2 => ⟨fun _ => ?_, fun z => absurd z z01⟩) (fun z2 => ⟨fun z => absurd rfl z, fun _ => ?_⟩)
  · have ha1 : a1 = 0 ∨ a1 = 1 := by
      obtain ⟨n, -, hn1, rfl⟩ := wi_nI (x := 0) (y := 1) (by omega) z2 w2 (by omega)
      rcases Nat.eq_zero_or_pos n with e | e
      · left; rw [e]; rfl
      · right; have : n = 1 := by omega
        rw [this]; rfl
    have hI : ∀ t, t ≤ 101 → SI (tB A) (T + t) (hoursS (tB A) (nI (bSe (tB A))) t (tS A)) := fun t ht => hoursS_I (seed := nI (bSe (tB A))) hB hA.2.1 t (by omega)
    have mo : ∀ h1 : TH, Fr (FX q b) h h1 → BScr b h h1 → D_Mo_lost r m a1 h1 (fun y h2 => Q (seekF (lostF (tB A) (tS A) a1) 100 1) y h2) := by
      intro h1 f1 t1
      have C1 := C.x f1 t1
      unfold D_Mo_lost
      refine P_in1 z2 w2 ⟨fun _ => ?_, fun z => absurd z z01⟩
      refine P_cp hM C1.2.2.2.2.2 hB (fun h4 q4 O4 R4 w4 l4 => ?_)
      refine P_lostNow hM O4 hB R4 ?_
      rw [hA.2.1.lost hB]
      refine lp_for 100 (fun t s => ∃ h5, s = (nI (1 + t), h5) ∧ MK m h4 h5 ∧ RowOK (h5.1 (m + 32)) (bN (tB A)) (-1) (hoursS (tB A) (nI (bSe (tB A))) t (tS A)) ∧ seekF (lostF (tB A) (tS A) a1) 100 1 = seekF (lostF (tB A) (tS A) a1) (100 - t) (1 + t)) ?_ ?_ _ ⟨h4, rfl, MK.rf, R4, rfl⟩
      · rintro t s K ht ⟨h5, rfl, k5, R5, es⟩ hK
        have It := hI t (by omega)
        have It1 := hI (t + 1) (by omega)
        have en : 100 - t = (100 - (t + 1)) + 1 := by omega
        rw [en] at es
        have w5 : h5.1 m 51 = -1 := by rw [k5.2 51 (by omega)]; exact w4
        have l5 : h5.1 m 50 = nI (bSe (tB A)) := by rw [k5.2 50 (by omega)]; exact l4
        unfold DB_Mo_lost_22
        refine ⟨fun q => absurd ((nI_ltI (a := 100) (by omega) (by omega)).mp q) (by omega), fun _ => ?_⟩
        refine P_hourGoes (seed := nI (bSe (tB A))) hM (O4.mk k5) hB rfl R5 w5 l5 It.1 It.2.1 (by have := It.2.2.2.1; omega) (fun h8 k8 R8 => ?_)
        replace R8 : RowOK (h8.1 (m + 32)) (bN (tB A)) (-1) (hoursS (tB A) (nI (bSe (tB A))) (t + 1) (tS A)) := R8
        have k58 := k5.tr k8
        have O8 := O4.mk k58
        have hL := O8.2.1
        have e1t : 1 + (t + 1) = 1 + t + 1 := by omega
        have et1 : 1 + t = t + 1 := by omega
        have d1 := df1 ⟨_, It1.1.2.2.1⟩ ⟨_, SB.2.2.1⟩
        have d2 := fun k (hk : k < 6) => df2 ⟨_, It1.1.2.2.1⟩ ⟨_, SB.2.2.1⟩ ⟨k, hk⟩
        simp only [] at d1 d2
        refine lp_for (bN (tB A)) (fun a s => s = (nI a, h8) ∧ ∀ i, i < a → (dfM (sL (hoursS (tB A) (nI (bSe (tB A))) (t + 1) (tS A))) (sL (tS A))).testBit i = false) ?_ ?_ _ ⟨rfl, fun i hi => absurd hi (Nat.not_lt_zero _)⟩
        · rintro a s K2 ha ⟨rfl, hz⟩ hK2
          unfold DB_Mo_lost_35
          intro i e
          rw [O8.1] at e
          subst e
          rw [r25, nI_clamp (n := L) (by omega), O8.2.2.2.2.2.1]
          refine ⟨vp_in_nI hL (by omega), fun q => absurd ((nI_leI (by omega) (by omega)).mp q) (by omega), fun _ => ?_⟩
          have st : (dfM (sL (hoursS (tB A) (nI (bSe (tB A))) (t + 1) (tS A))) (sL (tS A))).testBit a = false → ∀ x : Int32, x = nI a + 1 → K2 (x, h8) := by
            intro z x e
            rw [nI_1] at e; subst e
            refine hK2 _ ⟨rfl, fun i hi => ?_⟩
            by_cases ei : i = a
            · rw [ei]; exact z
            · exact hz i (by omega)
          refine P_MoisLost hM R8 hn ha (nI_nm (by omega)) (fun z => ⟨fun q => absurd q z01, fun _ => ⟨fun y => st ?_, fun y => ?_⟩⟩) (fun z => ⟨fun _ => st ?_, fun q => absurd rfl q⟩)
          · rw [d2 a (by omega)]
            cases hq : (sL (tS A)).testBit a with
            | true => rw [Bool.not_true, Bool.and_false]
            | false => exact absurd ((bt_0 SB.2.2.1 (by omega)).mpr hq) y
          · have hb : (dfM (sL (hoursS (tB A) (nI (bSe (tB A))) (t + 1) (tS A))) (sL (tS A))).testBit a = true := by
              rw [d2 a (by omega), z, (bt_0 SB.2.2.1 (by omega)).mp y]; rfl
            have nz : ¬ dfM (sL (hoursS (tB A) (nI (bSe (tB A))) (t + 1) (tS A))) (sL (tS A)) = 0 := by
              intro e0
              rw [e0, Nat.zero_testBit] at hb
              exact absurd hb (by decide)
            have fs : lostF (tB A) (tS A) a1 (1 + t) = some (if a1 = 1 then nI (1 + t) else leastI (dfM (sL (hoursS (tB A) (nI (bSe (tB A))) (t + 1) (tS A))) (sL (tS A)))) := by
              unfold lostF
              rw [et1, if_neg nz]
            rw [es, seekF_s fs]
            refine ⟨fun w => ?_, fun w => ?_⟩
            · rw [if_pos (ha1.resolve_left w)]
              exact hQ _ _ ((C1.m q4).m (Qm.mk k58))
            · rw [if_neg (by rw [w]; decide), leastI_at (by omega) hb hz]
              exact hQ _ _ ((C1.m q4).m (Qm.mk k58))
          · rw [d2 a (by omega), z]; rfl
        · rintro s K2 ⟨rfl, hz⟩
          unfold DB_Mo_lost_35
          intro i e
          rw [O8.1] at e
          subst e
          rw [r25, nI_clamp (n := L) (by omega), O8.2.2.2.2.2.1]
          refine ⟨vp_in_nI hL (by omega), fun _ x ex => ?_, fun q => absurd (Int32.le_refl _) q⟩
          rw [nI_1] at ex; subst ex
          have d0 : dfM (sL (hoursS (tB A) (nI (bSe (tB A))) (t + 1) (tS A))) (sL (tS A)) = 0 := by
            refine bits_eq d1.2 (by omega) (fun k hk => ?_)
            rw [Nat.zero_testBit]
            by_cases hkn : k < bN (tB A)
            · exact hz k hkn
            · rw [d2 k hk, (It1.2.2.2.2.1 k (by omega) hk).2.1]; rfl
          have fs : lostF (tB A) (tS A) a1 (1 + t) = none := by
            unfold lostF
            rw [et1, if_pos d0]
          refine hK _ ⟨h8, by rw [e1t], k58, R8, ?_⟩
          rw [es, seekF_n fs, e1t]
      · rintro s K ⟨h5, rfl, k5, R5, es⟩
        unfold DB_Mo_lost_22
        refine ⟨fun _ => ?_, fun q => absurd (nI_lt (a := 100) (by omega) (by omega)) q⟩
        rw [es]
        exact hQ _ _ ((C1.m q4).m (Qm.mk k5))
    refine P_lookAhead (n := 0) hR hA hx (by omega) (fun h1 f1 t1 S1 => ?_)
    refine lp_for 100 (fun t s => ∃ h', s = (nI (1 + t), h') ∧ Fr (FX q b) h h' ∧ BScr b h h' ∧ ScOK h' (q + 56) (hoursS (tB A) (nI (bSe (tB A))) t (tS A)) ∧ seekF (lostF (tB A) (tS A) a1) 100 1 = seekF (lostF (tB A) (tS A) a1) (100 - t) (1 + t)) ?_ ?_ _ ⟨h1, rfl, f1, t1, S1, rfl⟩
    · rintro t s K ht ⟨h', rfl, f', t', S', es⟩ hK
      have It := hI t (by omega)
      have It1 := hI (t + 1) (by omega)
      have en : 100 - t = (100 - (t + 1)) + 1 := by omega
      rw [en] at es
      have e1t : 1 + (t + 1) = 1 + t + 1 := by omega
      have et1 : 1 + t = t + 1 := by omega
      unfold DB_SR_lost_18
      refine ⟨fun q => absurd ((nI_ltI (a := 100) (by omega) (by omega)).mp q) (by omega), fun _ => ?_⟩
      show D_Bay_passHour r (r q 1) (r q 3) (h'.1 (r q 1) 4) h' _
      rw [r1, r2, r3]
      refine P_hourX C f' t' S' It.1 (by have := It.2.2.2.1; omega) (fun h8 f8 t8 S8 x e => ?_)
      replace S8 : ScOK h8 (q + 56) (hoursS (tB A) (nI (bSe (tB A))) (t + 1) (tS A)) := S8
      have C8 := C.x f8 t8
      have d1 := df1 ⟨_, It1.1.2.2.1⟩ ⟨_, SB.2.2.1⟩
      simp only [] at d1
      rw [S8.2.2.1, C8.2.2.2.2.1.2.2.2.1.2.2.1, d1.1] at e
      subst e
      refine ⟨fun z x17 e17 => ?_, fun z => ?_⟩
      · have d0 := (nI_eq (b := 0) (by omega) (by omega)).mp z
        have e' : x17 = nI (1 + t + 1) := by rw [e17]; exact nI_1 (1 + t)
        subst e'
        have fs : lostF (tB A) (tS A) a1 (1 + t) = none := by
          unfold lostF
          rw [et1, if_pos d0]
        refine hK _ ⟨h8, by rw [e1t], f8, t8, S8, ?_⟩
        rw [es, seekF_n fs, e1t]
      · have nz : ¬ dfM (sL (hoursS (tB A) (nI (bSe (tB A))) (t + 1) (tS A))) (sL (tS A)) = 0 := fun e => z (by rw [e]; rfl)
        have fs : lostF (tB A) (tS A) a1 (1 + t) = some (if a1 = 1 then nI (1 + t) else leastI (dfM (sL (hoursS (tB A) (nI (bSe (tB A))) (t + 1) (tS A))) (sL (tS A)))) := by
          unfold lostF
          rw [et1, if_neg nz]
        have := mo h8 f8 t8
        rw [es, seekF_s fs] at this
        refine ⟨fun w => ?_, fun w => ?_⟩
        · rw [if_neg w] at this
          exact P_leastOf d1.2 this
        · rw [if_pos w] at this
          exact this
    · rintro s K ⟨h', rfl, f', t', S', es⟩
      unfold DB_SR_lost_18
      refine ⟨fun _ => ?_, fun q => absurd (nI_lt (a := 100) (by omega) (by omega)) q⟩
      have := mo h' f' t'
      rw [es] at this
      exact this
  · unfold D_Mo_lost
    exact P_in0 z2 ⟨fun z => absurd rfl z, fun _ => hQ _ _ C⟩
theorem J_odds {r : TR} {q b d m L T : Nat} {h : TH} {A : St} {a1 a2 a3 : Int32} {Q : Int32 → Int32 → TH → Prop} (C : Cx r q b d m L T h A) (hQ : ∀ x h', Cx r q b d m L T h' A → Q x x h') : D_SR_odds r q a1 a2 a3 h (fun x h1 => D_Mo_odds r m a1 a2 a3 h1 (fun y h2 => Q x y h2)) := by
  have hB := C.2.2.2.1.1
  have hn := hB.2.2.1
  obtain ⟨hR, hM, hqm, hA, hx, hm⟩ := id C
  obtain ⟨⟨-, r1, r2, r3, -⟩, -, ⟨s1, s2, -⟩, -, -, -, -, rb, -, ap⟩ := id hR
  have hT := hA.2.2.2.2.2.2.2.2
  have SH := hA.2.1.2.2.2.1
  have r49 : r m 49 = m + 32 := hM 49 (by decide) (by decide)
  have e12 : ∀ k, (12 : Int32) + nI k = nI (12 + k) := fun k => nI_add 12 k
  have hap : apart b (q + 56) := by unfold apart; rcases ap with x | x <;> omega
  have hbq : q + 3 ≤ b ∧ b + 23 ≤ q + 52 := by rcases ap with x | x <;> omega
  unfold D_SR_odds
  refine P_SRisBoat (B := tB A) r1 hx.1.2.2.1 hB (fun k hk e => ⟨fun z => absurd z z01, fun _ => ?_⟩) (fun hnk => ⟨fun _ => ?_, fun z => absurd rfl z⟩)
  · subst e
    have hk6 : k < 6 := by omega
    have nk := nI_nm (k := k) (by omega)
    refine P_within (fun z2 w2 => ⟨fun z => absurd z z01, fun _ => ?_⟩) (fun z2 => ⟨fun _ => ?_, fun z => absurd rfl z⟩)
    · refine P_within (fun z3 w3 => ⟨fun _ => ?_, fun z => absurd z z01⟩) (fun z3 => ⟨fun z => absurd rfl z, fun _ => ?_⟩)
      · obtain ⟨n, -, hn100, rfl⟩ := wi_nI (x := 0) (y := 100) (by omega) z2 w2 (by omega)
        obtain ⟨s, hs1, hs20, rfl⟩ := wi_nI (x := 1) (y := 20) (by omega) z3 w3 (by omega)
        have hI : ∀ sd, SI (tB A) (T + n) (hoursS (tB A) sd n (tS A)) := fun sd => hoursS_I (seed := sd) hB hA.2.1 n (by omega)
        refine lp_for s (fun i t => ∃ h', t = (nI (cntF (fun i => (sO (hoursS (tB A) (nI (bSe (tB A)) + nI i) n (tS A))).testBit k) i), nI i, h') ∧ Fr (FX q b) h h' ∧ BScr b h h') ?_ ?_ _ ⟨h, rfl, Fr.rf, BScr.rf⟩
        · rintro i t K hi ⟨h', rfl, f', t'⟩ hK
          have C' := C.x f' t'
          have Ii := hI (nI (bSe (tB A)) + nI i)
          unfold DB_SR_odds_36
          refine ⟨fun q => absurd ((nI_leI (by omega) (by omega)).mp q) (by omega), fun _ => ?_⟩
          show D_Sc_copyFrom r (r q 3) (r q 2) h' _
          rw [r1, r2, r3]
          refine P_copyFrom s2 s1 C'.2.2.2.2.1.2.2.2.1 (by omega) (fun h3 f3 S3 => ?_)
          have bs : BScr b h' h3 := BScr.out (fun a x y => (f3 a (by unfold FSc; omega)).1)
          have O3 := C'.2.2.2.2.1.1.scr bs
          show D_Bay_passHours r b (q + 56) (nI n) (h3.1 b 4 + nI i) h3 _
          rw [O3.2.2.2.2.1]
          refine P_passHours (seed := nI (bSe (tB A)) + nI i) rb s2 O3 hB S3 hA.2.1.1 hap (by omega) (by omega) (fun h8 f8 s8 S8 x23 e23 x24 e24 => ?_)
          have e24' : x24 = nI (i + 1) := by rw [e24]; exact nI_1 i
          subst e24'
          refine hK _ ⟨h8, ?_, f'.tr ((f3.mono (fun a ha => by unfold FSc at ha; unfold FX; omega)).tr (f8.mono (fun a ha => ?_))), (t'.tr bs).tr s8⟩
          · rw [S8.2.2.2.1] at e23
            conv => rhs; unfold cntF
            cases ho : (sO (hoursS (tB A) (nI (bSe (tB A)) + nI i) n (tS A))).testBit k with
            | true =>
              rw [(bt_1 Ii.1.2.2.2.1 hk6).mpr ho] at e23
              rw [if_pos rfl, e23]
              show (nI _ + 1, _, _) = _
              rw [nI_1]
            | false =>
              rw [(bt_0 Ii.1.2.2.2.1 hk6).mpr ho, Int32.add_zero] at e23
              rw [if_neg (by decide), e23]
          · rcases ha with x | x
            · exact Or.inl x
            · exact Or.inr (Or.inl ⟨by omega, by omega⟩)
        · rintro t K ⟨h', rfl, f', t'⟩
          unfold DB_SR_odds_36
          refine ⟨fun _ => ?_, fun q => absurd (Int32.le_refl _) q⟩
          have C1 := C.x f' t'
          show D_Mo_odds r m (nI k) (nI n) (nI s) h' _
          unfold D_Mo_odds
          refine P_MoisBoat hM C1.2.2.2.2.2.bay (rockB_B hB) (fun k' hk' e' => ⟨fun z => absurd z z01, fun _ => ?_⟩) (fun z => absurd rfl (z k hk))
          refine P_isLong1 z2 w2 ⟨fun z => absurd z z01, fun _ => P_in1 z3 w3 ⟨fun _ => ?_, fun z => absurd z z01⟩⟩
          refine lp_for s (fun i t => ∃ h2, t = (nI (cntF (fun i => (sO (hoursS (tB A) (nI (bSe (tB A)) + nI i) n (tS A))).testBit k) i), nI i, h2) ∧ Qm m h' h2) ?_ ?_ _ ⟨h', rfl, Qm.rf⟩
          · rintro i t K hi ⟨h2, rfl, q2⟩ hK
            have C2 := C1.m q2
            have Ii := hI (nI (bSe (tB A)) + nI i)
            unfold DB_Mo_odds_33
            refine ⟨fun q => absurd ((nI_leI (by omega) (by omega)).mp q) (by omega), fun _ => ?_⟩
            refine P_cp hM C2.2.2.2.2.2 hB (fun h4 q4 O4 R4 w4 l4 h15 e15 => ?_)
            rw [l4] at e15
            have q15 : Qm m h4 h15 := ⟨by rw [e15]; exact Fr.pI (Or.inl rfl), fun j _ x _ _ => by rw [e15, pI_n _ _ _ _ (by omega)]⟩
            have O15 : MBay h15 m L (-1) (tB A) := O4.mv (fun x a b => by rw [e15, pI_o _ _ _ _ (by omega)]) (by rw [e15, pI_n _ _ _ _ (by omega)]) (by rw [e15, pI_n _ _ _ _ (by omega)]; exact O4.2.2.1)
            have R15 : RowOK (h15.1 (m + 32)) (bN (tB A)) (-1) (tS A) := by rw [e15, pI_o _ _ _ _ (by omega)]; exact R4
            refine P_goes (seed := nI (bSe (tB A)) + nI i) hM O15 hB rfl R15 (by rw [e15, pI_n _ _ _ _ (by omega)]; exact w4) (by rw [e15, pI_s]) hA.2.1.1 hA.2.1.2.1 (by omega) (by omega) (fun h16 k16 R16 i19 e19 => ?_)
            have g12 := ((R16.2.2.1 k hk).2.2.2.2 nk).1
            rw [e12] at e19
            subst e19
            rw [r49, nI_clamp (n := 12 + k) (by omega), g12]
            have qq := ((q2.tr q4).tr q15).tr (Qm.mk k16)
            refine ⟨vp_in_nI (by omega) (by omega), fun z x e => ?_, fun z x22 e22 x e => ?_⟩
            · rw [nI_1] at e; subst e
              refine hK _ ⟨h16, ?_, qq⟩
              conv => rhs; unfold cntF
              cases ho : (sO (hoursS (tB A) (nI (bSe (tB A)) + nI i) n (tS A))).testBit k with
              | true =>
                rw [ho] at z
                simp only [if_true] at z
                have := Ii.2.1 k hk ho
                exact absurd z (nI_nle (by omega) (by omega))
              | false => rw [if_neg (by decide)]
            · rw [nI_1] at e e22; subst e; subst e22
              refine hK _ ⟨h16, ?_, qq⟩
              conv => rhs; unfold cntF
              cases ho : (sO (hoursS (tB A) (nI (bSe (tB A)) + nI i) n (tS A))).testBit k with
              | true => rw [if_pos rfl]
              | false => rw [ho] at z; exact absurd (show (0 : Int32) ≤ 0 by decide) z
          · rintro t K ⟨h2, rfl, q2⟩
            unfold DB_Mo_odds_33
            exact ⟨fun _ => hQ _ _ (C1.m q2), fun q => absurd (Int32.le_refl _) q⟩
      · unfold D_Mo_odds
        refine P_MoisBoat hM hm.bay (rockB_B hB) (fun k' hk' e' => ⟨fun z => absurd z z01, fun _ => ?_⟩) (fun z => absurd rfl (z k hk))
        exact P_isLong1 z2 w2 ⟨fun z => absurd z z01, fun _ => P_in0 z3 ⟨fun z => absurd rfl z, fun _ => hQ _ _ C⟩⟩
    · unfold D_Mo_odds
      refine P_MoisBoat hM hm.bay (rockB_B hB) (fun k' hk' e' => ⟨fun z => absurd z z01, fun _ => ?_⟩) (fun z => absurd rfl (z k hk))
      exact P_isLong0 z2 ⟨fun _ => hQ _ _ C, fun z => absurd rfl z⟩
  · unfold D_Mo_odds
    exact P_MoisBoat hM hm.bay (rockB_B hB) (fun k hk e => absurd e (hnk k hk)) (fun _ => ⟨fun _ => hQ _ _ C, fun z => absurd rfl z⟩)
