/-! questions: both sides answer alike -/
theorem J_place {r : TR} {q b d m L T : Nat} {h : TH} {A : St} {Q : Int32 → Int32 → TH → Prop} (C : Cx r q b d m L T h A) (hQ : ∀ x h', Cx r q b d m L T h' A → Q x x h') : D_SR_place r q h (fun x h1 => D_Mo_place r m h1 (fun y h2 => Q x y h2)) := by
  unfold D_SR_place D_Mo_place
  rw [C.1.1.1, C.2.2.2.2.1.2.2.2.2.2.2.2.2]
  show Q (tP A) (h.1 m 17) h
  rw [C.2.2.2.2.2.2.2.2.2.2.2.1]
  exact hQ _ _ C
theorem J_wind {r : TR} {q b d m L T : Nat} {h : TH} {A : St} {a1 : Int32} {Q : Int32 → Int32 → TH → Prop} (C : Cx r q b d m L T h A) (hQ : ∀ x h', Cx r q b d m L T h' A → Q x x h') : D_SR_wind r q a1 h (fun x h1 => D_Mo_wind r m a1 h1 (fun y h2 => Q x y h2)) := by
  have hB := C.2.2.2.1.1
  unfold D_SR_wind
  refine P_within (fun z w => ⟨fun q => absurd q z01, fun _ => ?_⟩) (fun z => ⟨fun _ => ?_, fun q => absurd rfl q⟩)
  · obtain ⟨k, -, hk, rfl⟩ := wi_nI (x := 0) (y := 999) (by omega) z w (by omega)
    rw [C.1.1.2.1]
    refine P_windAt C.1.2.2.2.2.2.2.2.1 C.2.2.2.2.1.1 hB (fun h1 f1 s1 => ?_)
    have C1 := C.x (f1.mono (fun a ha => Or.inl ha)) s1
    unfold D_Mo_wind
    refine P_in1 z w ⟨fun q => absurd q z01, fun _ => ?_⟩
    exact P_windIn C.2.1 C1.2.2.2.2.2.bay (fun h2 f2 k2 => hQ _ _ (C1.m (Qm.mk k2)))
  · unfold D_Mo_wind
    exact P_in0 z ⟨fun _ => hQ _ _ C, fun q => absurd rfl q⟩
theorem J_boat {r : TR} {q b d m L T : Nat} {h : TH} {A : St} {a1 a2 : Int32} {Q : Int32 → Int32 → TH → Prop} (C : Cx r q b d m L T h A) (hQ : ∀ x h', Cx r q b d m L T h' A → Q x x h') : D_SR_boat r q a1 a2 h (fun x h1 => D_Mo_boat r m a1 a2 h1 (fun y h2 => Q x y h2)) := by
  have hB := C.2.2.2.1.1
  have hn := hB.2.2.1
  obtain ⟨hR, hM, hqm, hA, hx, hm⟩ := id C
  obtain ⟨⟨-, r1, r2, r3, -⟩, -, ⟨s1, s2, -⟩, -, -, -, -, rb, -, ap⟩ := id hR
  obtain ⟨SB, SP, SA, SH, SN, SW, SO⟩ := hA.2.1
  have r49 : r m 49 = m + 32 := hM 49 (by decide) (by decide)
  have e12 : ∀ k, (12 : Int32) + nI k = nI (12 + k) := fun k => nI_add 12 k
  have bm : ∀ k, k < bN (tB A) → ∀ (X : TH → Prop), (∀ h4, Qm m h h4 → MBay h4 m L (-1) (tB A) → RowOK (h4.1 (m + 32)) (bN (tB A)) (-1) (tS A) → h4.1 m 51 = -1 → h4.1 m 50 = nI (bSe (tB A)) → X h4) → ∀ (Y : Prop), D_Mo_isBoat r m (nI k) h (fun x2 h1 => ((¬ x2 = 0 → D_Mo_copies r m h1 X) ∧ (x2 = 0 → Y))) := fun k hk X hX Y =>
    P_MoisBoat hM hm.bay (rockB_B hB) (fun k' hk' e' => ⟨fun _ => P_cp hM hm hB hX, fun z => absurd z z01⟩) (fun z => absurd rfl (z k hk))
  unfold D_SR_boat
  rw [r1, r2]
  refine P_SRisBoat (B := tB A) r1 hx.1.2.2.1 hB (fun k hk e => ?_) (fun hnk => ?_)
  · subst e
    have hk6 : k < 6 := by omega
    have nk := nI_nm (k := k) (by omega)
    refine ⟨fun _ => ?_, fun z => absurd z z01⟩
    refine ⟨fun e => ?_, fun n0 => ⟨fun e => ?_, fun n1 => ⟨fun e => ?_, fun n2 => ⟨fun e => ?_, fun n3 => ⟨fun e => ?_, fun n4 => ⟨fun e => ?_, fun n5 => ⟨fun e => ?_, fun n6 => ⟨fun e => ?_, fun n7 => ?_⟩⟩⟩⟩⟩⟩⟩⟩
    · subst e
      refine P_eastOf s1 hx.2.2.2.1 SB hk6 ?_
      unfold D_Mo_boat
      refine bm k hk _ (fun h4 q4 O4 R4 w4 l4 => ?_) _
      refine ⟨fun _ => ?_, fun z => absurd rfl z⟩
      unfold eastI
      refine P_MoisLost hM R4 hn hk nk (fun z => ⟨fun q => absurd q z01, fun _ => ?_⟩) (fun z => ⟨fun _ i e => ?_, fun q => absurd rfl q⟩)
      · rw [if_pos z]; exact hQ _ _ (C.m q4)
      · have e' : i = nI k := by rw [e]; show (6 : Int32) * 0 + nI k = nI k; rw [show (6 : Int32) * 0 = 0 by decide, Int32.zero_add]
        rw [if_neg (by rw [z]; decide), e', r49, nI_clamp (n := k) (by omega), (R4.2.2.1 k hk).1]
        exact ⟨vp_in_nI (by omega) (by omega), hQ _ _ (C.m q4)⟩
    · subst e
      refine P_southOf s1 hx.2.2.2.1 SB hk6 ?_
      unfold D_Mo_boat
      refine bm k hk _ (fun h4 q4 O4 R4 w4 l4 => ?_) _
      refine ⟨fun z => absurd z z01, fun _ => ⟨fun _ => ?_, fun z => absurd rfl z⟩⟩
      unfold southI
      refine P_MoisLost hM R4 hn hk nk (fun z => ⟨fun q => absurd q z01, fun _ => ?_⟩) (fun z => ⟨fun _ i e => ?_, fun q => absurd rfl q⟩)
      · rw [if_pos z]; exact hQ _ _ (C.m q4)
      · have e' : i = nI (6 + k) := by rw [e]; exact nI_add 6 k
        rw [if_neg (by rw [z]; decide), e', r49, nI_clamp (n := 6 + k) (by omega), (R4.2.2.1 k hk).2.1]
        exact ⟨vp_in_nI (by omega) (by omega), hQ _ _ (C.m q4)⟩
    · subst e
      refine P_arrivalOf s1 hx.2.2.2.1 SB hk6 ?_
      unfold D_Mo_boat
      refine bm k hk _ (fun h4 q4 O4 R4 w4 l4 => ?_) _
      refine ⟨fun z => absurd z (by decide), fun _ => ⟨fun z => absurd z (by decide), fun _ => ⟨fun _ i e => ?_, fun z => absurd rfl z⟩⟩⟩
      rw [e12] at e
      subst e
      rw [r49, nI_clamp (n := 12 + k) (by omega), ((R4.2.2.1 k hk).2.2.2.2 nk).1]
      refine ⟨vp_in_nI (by omega) (by omega), fun z i e => ?_, fun z => ?_⟩
      · rw [e12] at e
        subst e
        rw [nI_clamp (n := 12 + k) (by omega), ((R4.2.2.1 k hk).2.2.2.2 nk).1]
        refine ⟨vp_in_nI (by omega) (by omega), ?_⟩
        unfold placeI
        cases ho : (sO (tS A)).testBit k with
        | true => simp only [if_true]; exact hQ _ _ (C.m q4)
        | false => rw [ho] at z; exact absurd rfl z
      · unfold placeI
        cases ho : (sO (tS A)).testBit k with
        | true => rw [ho] at z; simp only [if_true] at z; have := SP k hk ho; exact absurd z (nI_ne0 (by omega) (by omega))
        | false => simp only [Bool.false_eq_true, if_false]; exact hQ _ _ (C.m q4)
    · subst e
      rw [hx.2.2.2.1.2.2.1]
      unfold D_Mo_boat
      refine bm k hk _ (fun h4 q4 O4 R4 w4 l4 => ?_) _
      refine ⟨fun z => absurd z (by decide), fun _ => ⟨fun z => absurd z (by decide), fun _ => ⟨fun z => absurd z (by decide), fun _ => ⟨fun _ i e => ?_, fun z => absurd rfl z⟩⟩⟩⟩
      have e' : i = nI (18 + k) := by rw [e]; exact nI_add 18 k
      rw [e', r49, nI_clamp (n := 18 + k) (by omega), ((R4.2.2.1 k hk).2.2.2.2 nk).2]
      refine ⟨vp_in_nI (by omega) (by omega), ?_⟩
      cases ho : (sL (tS A)).testBit k with
      | true => rw [(bt_1 SB.2.2.1 hk6).mpr ho]; exact hQ _ _ (C.m q4)
      | false => rw [(bt_0 SB.2.2.1 hk6).mpr ho]; exact hQ _ _ (C.m q4)
    · subst e
      rw [hx.2.2.2.1.2.1]
      unfold D_Mo_boat
      refine bm k hk _ (fun h4 q4 O4 R4 w4 l4 => ?_) _
      refine ⟨fun z => absurd z (by decide), fun _ => ⟨fun z => absurd z (by decide), fun _ => ⟨fun z => absurd z (by decide), fun _ => ⟨fun z => absurd z (by decide), fun _ => ⟨fun _ i e => ?_, fun z => absurd rfl z⟩⟩⟩⟩⟩
      have e' : i = nI (24 + k) := by rw [e]; exact nI_add 24 k
      rw [e', r49, nI_clamp (n := 24 + k) (by omega), (R4.2.2.1 k hk).2.2.1]
      refine ⟨vp_in_nI (by omega) (by omega), ?_⟩
      cases ho : (sP (tS A)).testBit k with
      | true => rw [(bt_1 SB.2.1 hk6).mpr ho]; exact hQ _ _ (C.m q4)
      | false => rw [(bt_0 SB.2.1 hk6).mpr ho]; exact hQ _ _ (C.m q4)
    · subst e
      refine P_dishesSmelledBy (seed := h.1 b 4) rb s1 hx.1 hB hx.2.2.2.1 SB hk ?_
      rw [hx.1.2.2.2.2.1]
      unfold D_Mo_boat
      refine bm k hk _ (fun h4 q4 O4 R4 w4 l4 => ?_) _
      refine ⟨fun z => absurd z (by decide), fun _ => ⟨fun z => absurd z (by decide), fun _ => ⟨fun z => absurd z (by decide), fun _ => ⟨fun z => absurd z (by decide), fun _ => ⟨fun z => absurd z (by decide), fun _ => ⟨fun _ => ?_, fun z => absurd rfl z⟩⟩⟩⟩⟩⟩
      exact P_Mo_smellsOf hM O4 hB rfl R4 w4 l4 SB SP hk (hQ _ _ (C.m q4))
    · subst e
      rw [hx.2.2.2.1.1, hx.1.2.2.2.2.1]
      have mo : ∀ x : Int32, (coldB (bCo (tB A)) (nI (bSe (tB A))) (16 * nI (sH (tS A)) + nI k) = true → x = 1) → (coldB (bCo (tB A)) (nI (bSe (tB A))) (16 * nI (sH (tS A)) + nI k) = false → x = 0) → D_Mo_boat r m (nI k) 6 h (fun y h2 => Q x y h2) := by
        intro x x1 x0
        unfold D_Mo_boat
        refine bm k hk _ (fun h4 q4 O4 R4 w4 l4 => ?_) _
        refine ⟨fun z => absurd z (by decide), fun _ => ⟨fun z => absurd z (by decide), fun _ => ⟨fun z => absurd z (by decide), fun _ => ⟨fun z => absurd z (by decide), fun _ => ⟨fun z => absurd z (by decide), fun _ => ⟨fun z => absurd z (by decide), fun _ => ⟨fun _ => ?_, fun z => absurd rfl z⟩⟩⟩⟩⟩⟩⟩
        refine P_Mo_hasCold hM O4 hB l4 R4.1 (fun z => ⟨fun q => absurd q z01, fun _ => ?_⟩) (fun z => ⟨fun _ => ?_, fun q => absurd rfl q⟩)
        · rw [x1 z]; exact hQ _ _ (C.m q4)
        · rw [x0 z]; exact hQ _ _ (C.m q4)
      refine P_hasCold (c := bCo (tB A)) hx.1.2.2.2.1 (fun z => ⟨fun q => absurd q z01, fun _ => mo 1 (fun _ => rfl) (fun w => absurd (z.symm.trans w) (by decide))⟩) (fun z => ⟨fun _ => mo 0 (fun w => absurd (z.symm.trans w) (by decide)) (fun _ => rfl), fun q => absurd rfl q⟩)
    · subst e
      rw [hx.1.2.2.1]
      refine P_rankOf s1 hx.2.2.2.1 SB SA hk6 hn ?_
      unfold D_Mo_boat
      refine bm k hk _ (fun h4 q4 O4 R4 w4 l4 => ?_) _
      refine ⟨fun z => absurd z (by decide), fun _ => ⟨fun z => absurd z (by decide), fun _ => ⟨fun z => absurd z (by decide), fun _ => ⟨fun z => absurd z (by decide), fun _ => ⟨fun z => absurd z (by decide), fun _ => ⟨fun z => absurd z (by decide), fun _ => ⟨fun z => absurd z (by decide), fun _ => ⟨fun _ => ?_, fun z => absurd rfl z⟩⟩⟩⟩⟩⟩⟩⟩
      exact P_Mo_rankOf hM O4 hB R4 SP hk (hQ _ _ (C.m q4))
    · unfold D_Mo_boat
      refine bm k hk _ (fun h4 q4 O4 R4 w4 l4 => ?_) _
      exact ⟨fun z => absurd z n0, fun _ => ⟨fun z => absurd z n1, fun _ => ⟨fun z => absurd z n2, fun _ => ⟨fun z => absurd z n3, fun _ => ⟨fun z => absurd z n4, fun _ => ⟨fun z => absurd z n5, fun _ => ⟨fun z => absurd z n6, fun _ => ⟨fun z => absurd z n7, fun _ => hQ _ _ (C.m q4)⟩⟩⟩⟩⟩⟩⟩⟩
  · refine ⟨fun z => absurd rfl z, fun _ => ?_⟩
    unfold D_Mo_boat
    exact P_MoisBoat hM hm.bay (rockB_B hB) (fun k hk e => absurd e (hnk k hk)) (fun _ => ⟨fun z => absurd rfl z, fun _ => hQ _ _ C⟩)
