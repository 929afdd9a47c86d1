theorem P_isInside {r : TR} {h : TH} {b : Nat} {B : By} {x y : Int32} {Q : Int32 → TH → Prop} (hO : BayOK h b B) (hB : ByB B) (h1 : ∀ c, c < 40 → c % 8 < bW B → c / 8 < bH B → x = nI (c % 8) → y = nI (c / 8) → Q 1 h) (h0 : (∀ i, i < bW B → ¬ x = nI i) ∨ ((∃ i, i < bW B ∧ x = nI i) ∧ ∀ i, i < bH B → ¬ y = nI i) → Q 0 h) : D_Bay_isInside r b x y h Q := by
  have hW := hB.1
  have hH := hB.2.1
  unfold D_Bay_isInside
  rw [hO.1, hO.2.1]
  refine ⟨fun z => h0 (Or.inl (fun i hi e => ?_)), fun z => ⟨fun w => h0 (Or.inl (fun i hi e => ?_)), fun w => ?_⟩⟩
  · rw [e] at z; exact nI_pos (by omega) z
  · rw [e] at w; exact nI_ge hi (by omega) w
  obtain ⟨i, hi, rfl⟩ := nI_of z
  have hi2 : i < bW B := by
    rcases Nat.lt_or_ge i (bW B) with q | q
    · exact q
    · exact absurd (nI_le q hi) w
  refine ⟨fun z => h0 (Or.inr ⟨⟨i, hi2, rfl⟩, fun j hj e => ?_⟩), fun z => ⟨fun w => h0 (Or.inr ⟨⟨i, hi2, rfl⟩, fun j hj e => ?_⟩), fun w => ?_⟩⟩
  · rw [e] at z; exact nI_pos (by omega) z
  · rw [e] at w; exact nI_ge hj (by omega) w
  obtain ⟨j, hj, rfl⟩ := nI_of z
  have hj2 : j < bH B := by
    rcases Nat.lt_or_ge j (bH B) with q | q
    · exact q
    · exact absurd (nI_le q hj) w
  have e1 : (8 * j + i) % 8 = i := by omega
  have e2 : (8 * j + i) / 8 = j := by omega
  exact h1 (8 * j + i) (by omega) (by omega) (by omega) (by rw [e1]) (by rw [e2])
/-- the reference's isCell, by any two ints -/
theorem P_isCellN {r : TR} {h : TH} {m L : Nat} {rk x y : Int32} {B : By} {Q : Int32 → TH → Prop} (hr : RMo r m) (hO : MBay h m L rk B) (hB : ByB B) (z : (∀ i, i < bW B → ¬ x = nI i) ∨ ((∃ i, i < bW B ∧ x = nI i) ∧ ∀ i, i < bH B → ¬ y = nI i)) (h0 : Q 0 h) : D_Mo_isCell r m x y h Q := by
  have r23 : r m 23 = m + 10 := hr 23 (by decide) (by decide)
  have r22 : r m 22 = m + 9 := hr 22 (by decide) (by decide)
  have hL := hO.2.1
  have hW := hB.1
  have hH := hB.2.1
  unfold D_Mo_isCell
  intro i2 e2
  rw [hO.1] at e2
  subst e2
  rw [r23, r22, nI_clamp (by omega), hO.2.2.2.1]
  refine ⟨vp_in_nI hL (by omega), P_inG (by omega) (fun k hk e => ⟨fun z => absurd z z01, fun _ => ?_⟩) (fun _ => ⟨fun _ => h0, fun z => absurd rfl z⟩)⟩
  intro i7 e7
  rw [hO.1] at e7
  subst e7
  rw [nI_clamp (by omega), hO.2.2.2.2.1]
  refine ⟨vp_in_nI hL (by omega), P_inG (by omega) (fun k2 hk2 e2 => ?_) (fun _ => ⟨fun _ => h0, fun z => absurd rfl z⟩)⟩
  rcases z with z | z
  · exact absurd e (z k hk)
  · exact absurd e2 (z.2 k2 hk2)
theorem P_boatsIn {r : TR} {h : TH} {q b d c T : Nat} {A : St} {Q : Int32 → TH → Prop} (hR : RX r q b d) (hA : AI T A) (hx : AX h q b d A) (hc : c < 40) (hQ : Q (nI (setF (fun k => sail (tS A) k && decide (sC (tS A) k = c)) (bN (tB A)))) h) : D_SR_boatsIn r q (nI c) h Q := by
  obtain ⟨⟨-, r1, r2, r3, -⟩, -, ⟨s1, s2, -⟩, -, -, -, -, rb, -, ap⟩ := id hR
  have hn := hA.1.2.2.1
  have SB := hA.2.1.1
  have hS := hx.2.2.2.1
  unfold D_SR_boatsIn
  refine lp_set (fun k => sail (tS A) k && decide (sC (tS A) k = c)) hn ?_ ?_
  · intro j x K hj hx' ht hf
    unfold DB_SR_boatsIn_4
    rw [r1, r2, hx.1.2.2.1]
    refine ⟨fun q => absurd ((nI_leI (by omega) (by omega)).mp q) (by omega), fun _ => ?_⟩
    refine P_isSailing hS SB (by omega) (fun z => ⟨fun q => absurd q z01, fun _ => ?_⟩) (fun z => ⟨fun _ w ew => ?_, fun q => absurd rfl q⟩)
    · rw [s1.1, nI_clamp (n := j) (by omega), hS.2.2.2.2.1 j (by omega)]
      have hcj := SB.2.2.2.2.1 j (by omega)
      refine ⟨vp_in_nI (by omega) (by omega), fun y w ew => ?_, fun y v ev w ew => ?_⟩
      · rw [nI_1] at ew; subst ew
        refine hf ?_
        rw [z, decide_eq_false (fun e => y (by rw [e]))]; rfl
      · rw [nI_1] at ew; subst ew
        refine ht ?_ v ev
        rw [z, decide_eq_true ((nI_eq (by omega) (by omega)).mp y)]; rfl
    · rw [nI_1] at ew; subst ew
      refine hf ?_
      rw [z]; rfl
  · intro K
    unfold DB_SR_boatsIn_4
    rw [r1, r2, hx.1.2.2.1]
    exact ⟨fun _ => hQ, fun q => absurd (Int32.le_refl _) q⟩
theorem J_cell {r : TR} {q b d m L T : Nat} {h : TH} {A : St} {a1 a2 a3 : Int32} {Q : Int32 → Int32 → TH → Prop} (C : Cx r q b d m L T h A) (hQ : ∀ x h', Cx r q b d m L T h' A → Q x x h') : D_SR_cell r q a1 a2 a3 h (fun x h1 => D_Mo_cell r m a1 a2 a3 h1 (fun y h2 => Q x y h2)) := by
  have hB := C.2.2.2.1.1
  have hn := hB.2.2.1
  obtain ⟨hR, hM, hqm, hA, hx, hm⟩ := id C
  obtain ⟨⟨-, r1, r2, r3, -⟩, -, ⟨s1, s2, -⟩, -, -, -, -, rb, -, ap⟩ := id hR
  obtain ⟨SB, SP, SA, SH, SN, SW, SO⟩ := hA.2.1
  have r49 : r m 49 = m + 32 := hM 49 (by decide) (by decide)
  have r25 : r m 25 = m + 12 := hM 25 (by decide) (by decide)
  have hS := hx.2.2.2.1
  have hL := hm.bay.2.1
  unfold D_SR_cell
  rw [r1, r2]
  refine P_isInside hx.1 hB (fun c hc hcw hch ex ey => ⟨fun _ => ?_, fun z => absurd z z01⟩) (fun z => ⟨fun q => absurd rfl q, fun _ => ?_⟩)
  · subst ex; subst ey
    intro x5 e5
    have e5' : x5 = nI c := by
      rw [e5, show (8 : Int32) * nI (c / 8) = nI (8 * (c / 8)) from pk_mul 8 _, nI_add]
      congr 1; omega
    have e5 := e5'
    subst e5
    have bm : ∀ (X : TH → Prop), (∀ h4, Qm m h h4 → MBay h4 m L (-1) (tB A) → RowOK (h4.1 (m + 32)) (bN (tB A)) (-1) (tS A) → h4.1 m 51 = -1 → h4.1 m 50 = nI (bSe (tB A)) → X h4) → ∀ (Y : Prop), D_Mo_isCell r m (nI (c % 8)) (nI (c / 8)) h (fun x2 h1 => ((¬ x2 = 0 → D_Mo_copies r m h1 X) ∧ (x2 = 0 → Y))) := fun X hX Y =>
      P_isCell hM hm.bay (rockB_B hB) (by omega) (by omega) (fun _ _ => ⟨fun _ => P_cp hM hm hB hX, fun z => absurd z z01⟩) (fun z => absurd ⟨hcw, hch⟩ z)
    refine ⟨fun e => ?_, fun n0 => ⟨fun e => ?_, fun n1 => ⟨fun e => ?_, fun n2 => ?_⟩⟩⟩
    · subst e
      rw [rb.1.1, nI_clamp (n := c) (by omega), hx.1.2.2.2.2.2.1 c hc]
      refine ⟨vp_in_nI hc (by omega), ?_⟩
      unfold D_Mo_cell
      refine bm _ (fun h4 q4 O4 R4 w4 l4 => ?_) _
      refine ⟨fun _ => ?_, fun z => absurd rfl z⟩
      exact P_sortAt hM O4 hc hcw hch (hQ _ _ (C.m q4))
    · subst e
      rw [hx.1.2.2.1]
      refine P_dishesIn s1 hS SB hc hn ?_
      unfold D_Mo_cell
      refine bm _ (fun h4 q4 O4 R4 w4 l4 => ?_) _
      refine ⟨fun z => absurd z z01, fun _ => ⟨fun _ => ?_, fun z => absurd rfl z⟩⟩
      exact P_smeltAt hM O4 hB R4 SB hc (hQ _ _ (C.m q4))
    · subst e
      refine P_boatsIn hR hA hx hc ?_
      unfold D_Mo_cell
      refine bm _ (fun h4 q4 O4 R4 w4 l4 => ?_) _
      refine ⟨fun z => absurd z (by decide), fun _ => ⟨fun z => absurd z (by decide), fun _ => ⟨fun _ => ?_, fun z => absurd rfl z⟩⟩⟩
      refine lp_set (fun k => sail (tS A) k && decide (sC (tS A) k = c)) hn ?_ ?_
      · intro j x K hj hx' ht hf
        have hcj := SB.2.2.2.2.1 j (by omega)
        have e6 : (6 : Int32) + nI j = nI (6 + j) := nI_add 6 j
        unfold DB_Mo_cell_64
        intro i e
        rw [O4.1] at e
        subst e
        rw [r25, nI_clamp (n := L) (by omega), O4.2.2.2.2.2.1]
        refine ⟨vp_in_nI hL (by omega), fun q => absurd ((nI_leI (by omega) (by omega)).mp q) (by omega), fun _ => ?_⟩
        refine P_Mo_isSailing hM R4 w4 SP hn hj (fun z => ⟨fun q => absurd q z01, fun _ => ?_⟩) (fun z => ⟨fun _ w ew => ?_, fun q => absurd rfl q⟩)
        · rw [r49, nI_clamp (n := j) (by omega), (R4.2.2.1 j hj).1]
          refine ⟨vp_in_nI (by omega) (by omega), fun y w ew => ?_, fun y i26 e26 => ?_⟩
          · rw [nI_1] at ew; subst ew
            refine hf ?_
            rw [z, decide_eq_false (fun e => y (by rw [e]))]; rfl
          · rw [e6] at e26
            subst e26
            rw [nI_clamp (n := 6 + j) (by omega), (R4.2.2.1 j hj).2.1]
            refine ⟨vp_in_nI (by omega) (by omega), fun y2 w ew => ?_, fun y2 v ev w ew => ?_⟩
            · rw [nI_1] at ew; subst ew
              refine hf ?_
              rw [z, decide_eq_false (fun e => y2 (by rw [e]))]; rfl
            · rw [nI_1] at ew; subst ew
              refine ht ?_ v ev
              have q1 := (nI_eq (by omega) (by omega)).mp y
              have q2 := (nI_eq (by omega) (by omega)).mp y2
              rw [z, decide_eq_true (show sC (tS A) j = c by omega)]; rfl
        · rw [nI_1] at ew; subst ew
          refine hf ?_
          rw [z]; rfl
      · intro K
        unfold DB_Mo_cell_64
        intro i e
        rw [O4.1] at e
        subst e
        rw [r25, nI_clamp (n := L) (by omega), O4.2.2.2.2.2.1]
        exact ⟨vp_in_nI hL (by omega), fun _ => hQ _ _ (C.m q4), fun q => absurd (Int32.le_refl _) q⟩
    · unfold D_Mo_cell
      refine bm _ (fun h4 q4 O4 R4 w4 l4 => ?_) _
      exact ⟨fun z => absurd z n0, fun _ => ⟨fun z => absurd z n1, fun _ => ⟨fun z => absurd z n2, fun _ => hQ _ _ (C.m q4)⟩⟩⟩
  · unfold D_Mo_cell
    exact P_isCellN hM hm.bay (rockB_B hB) z ⟨fun q => absurd rfl q, fun _ => hQ _ _ C⟩
theorem J_laid {r : TR} {q b d m L T : Nat} {h : TH} {A : St} {a1 a2 a3 a4 : Int32} {Q : Int32 → Int32 → TH → Prop} (C : Cx r q b d m L T h A) (hQ : ∀ x h', Cx r q b d m L T h' A → Q x x h') : D_SR_laid r q a1 a2 a3 a4 h (fun x h1 => D_Mo_laid r m a1 a2 a3 a4 h1 (fun y h2 => Q x y h2)) := by
  have hB := C.2.2.2.1.1
  have hn := hB.2.2.1
  obtain ⟨hR, hM, hqm, hA, hx, hm⟩ := id C
  obtain ⟨⟨-, r1, r2, r3, -⟩, -, ⟨s1, s2, -⟩, -, -, -, -, rb, -, ap⟩ := id hR
  obtain ⟨SB, SP, SA, SH, SN, SW, SO⟩ := hA.2.1
  have r48 : r m 48 = m + 31 := hM 48 (by decide) (by decide)
  have hS := hx.2.2.2.1
  unfold D_SR_laid
  rw [r1, r2]
  refine P_isInside hx.1 hB (fun c hc hcw hch ex ey => ⟨fun z => absurd z z01, fun _ => ?_⟩) (fun z => ⟨fun _ => ?_, fun q => absurd rfl q⟩)
  · subst ex; subst ey
    refine P_SRisBoat (B := tB A) r1 hx.1.2.2.1 hB (fun k hk e => ?_) (fun hnk => ?_)
    · subst e
      refine ⟨fun _ => ?_, fun z => absurd z z01⟩
      intro x8 e8
      have e8' : x8 = nI (40 * k + c) := by
        rw [e8, show (8 : Int32) * nI (c / 8) = nI (8 * (c / 8)) from pk_mul 8 _, show (40 : Int32) * nI k = nI (40 * k) from pk_mul 40 _, nI_add, nI_add]
        congr 1; omega
      subst e8'
      have hi : 40 * k + c < 240 := by omega
      have yb := SB.2.2.2.2.2 _ hi
      have row := hm.2.1.2.2.2 c hc k hk
      have mo : ∀ (x : Int32) (v : Int32), (a4 = 0 → x = layH (sY (tS A) (40 * k + c))) → (¬ a4 = 0 → x = layT (sY (tS A) (40 * k + c))) → D_Mo_laid r m (nI (c % 8)) (nI (c / 8)) (nI k) a4 h (fun y h2 => Q x y h2) := by
        intro x _ x1 x2
        unfold D_Mo_laid
        refine P_isCell hM hm.bay (rockB_B hB) (by omega) (by omega) (fun _ _ => ⟨fun z => absurd z z01, fun _ => ?_⟩) (fun z => absurd ⟨hcw, hch⟩ z)
        refine P_MoisBoat hM hm.bay (rockB_B hB) (fun k' hk' e' => ⟨fun _ => ?_, fun z => absurd z z01⟩) (fun z => absurd rfl (z k hk))
        rw [r48]
        have e32 : ∀ a : Nat, (nI a + 6 * (8 * nI (c / 8) + nI (c % 8))) + nI k = nI (a + (6 * c + k)) := by
          intro a
          rw [show (8 : Int32) * nI (c / 8) = nI (8 * (c / 8)) from pk_mul 8 _, nI_add, show (6 : Int32) * nI (8 * (c / 8) + c % 8) = nI (6 * (8 * (c / 8) + c % 8)) from pk_mul 6 _, nI_add, nI_add]
          congr 1; omega
        refine ⟨fun z => ?_, fun z => ?_⟩
        · unfold DJ_Mo_laid_36
          intro i e
          have e' : i = nI (32 + (6 * c + k)) := by rw [e]; exact e32 32
          rw [e', nI_clamp (n := 32 + (6 * c + k)) (by omega), row.1, x1 z]
          exact ⟨vp_in_nI (by omega) (by omega), hQ _ _ C⟩
        · unfold DJ_Mo_laid_36
          intro i e
          have e' : i = nI (272 + (6 * c + k)) := by rw [e]; exact e32 272
          rw [e', nI_clamp (n := 272 + (6 * c + k)) (by omega), row.2, x2 z]
          exact ⟨vp_in_nI (by omega) (by omega), hQ _ _ C⟩
      refine P_wasLaid s1 hS SB hi (fun z => ⟨fun _ => ⟨fun w => ?_, fun w => ?_⟩, fun q => absurd q z01⟩) (fun z => ⟨fun q => absurd rfl q, fun _ => ?_⟩)
      · refine P_laidHour s1 hS SB hi (mo _ 0 (fun _ => ?_) (fun y => absurd w y))
        unfold layH
        rw [if_neg z, nI_s1 (by omega)]
      · refine P_liesTill s1 hS SB hi z (mo _ 0 (fun y => absurd y w) (fun _ => ?_))
        unfold layT
        rw [if_neg z]
      · refine mo (-2) 0 (fun _ => ?_) (fun _ => ?_)
        · unfold layH; rw [if_pos z]
        · unfold layT; rw [if_pos z]
    · refine ⟨fun z => absurd rfl z, fun _ => ?_⟩
      unfold D_Mo_laid
      refine P_isCell hM hm.bay (rockB_B hB) (by omega) (by omega) (fun _ _ => ⟨fun z => absurd z z01, fun _ => ?_⟩) (fun z => absurd ⟨hcw, hch⟩ z)
      exact P_MoisBoat hM hm.bay (rockB_B hB) (fun k hk e => absurd e (hnk k hk)) (fun _ => ⟨fun z => absurd rfl z, fun _ => hQ _ _ C⟩)
  · unfold D_Mo_laid
    exact P_isCellN hM hm.bay (rockB_B hB) z ⟨fun _ => hQ _ _ C, fun q => absurd rfl q⟩
theorem J_steers {r : TR} {q b d m L T : Nat} {h : TH} {A : St} {a1 : Int32} {Q : Int32 → Int32 → TH → Prop} (C : Cx r q b d m L T h A) (hQ : ∀ x h', Cx r q b d m L T h' A → Q x x h') : D_SR_steers r q a1 h (fun x h1 => D_Mo_steers r m a1 h1 (fun y h2 => Q x y h2)) := by
  have hB := C.2.2.2.1.1
  have hn := hB.2.2.1
  obtain ⟨hR, hM, hqm, hA, hx, hm⟩ := id C
  obtain ⟨⟨-, r1, r2, r3, -⟩, -, ⟨s1, s2, -⟩, -, -, -, -, rb, -, ap⟩ := id hR
  obtain ⟨SB, SP, SA, SH, SN, SW, SO⟩ := hA.2.1
  have hS := hx.2.2.2.1
  have hap : apart b (q + 52) := by unfold apart; rcases ap with x | x <;> omega
  unfold D_SR_steers
  rw [r1, r2]
  refine P_SRisBoat (B := tB A) r1 hx.1.2.2.1 hB (fun k hk e => ?_) (fun hnk => ?_)
  · subst e
    refine ⟨fun _ => ?_, fun z => absurd z z01⟩
    refine P_isSailing hS SB (by omega) (fun z => ⟨fun q => absurd q z01, fun _ => ?_⟩) (fun z => ⟨fun _ => ?_, fun q => absurd rfl q⟩)
    · rw [hS.1]
      refine P_windAt rb hx.1 hB (fun h1 f1 t1 => ?_)
      have O1 := hx.1.scr t1
      have S1 : ScOK h1 (q + 52) (tS A) := hS.fr (fun a x y => (f1 a (by unfold FBa; rcases ap with w | w <;> omega)).1)
      rw [O1.2.2.2.2.1]
      refine P_wayOf (seed := nI (bSe (tB A))) rb s1 O1 hB S1 SB hap hk (fun h2 f2 t2 => ?_)
      have C2 := C.x ((f1.tr f2).mono (fun a ha => Or.inl ha)) (t1.tr t2)
      unfold D_Mo_steers
      refine P_MoisBoat hM C2.2.2.2.2.2.bay (rockB_B hB) (fun k' hk' e' => ⟨fun _ => ?_, fun z => absurd z z01⟩) (fun z => absurd rfl (z k hk))
      refine P_cp hM C2.2.2.2.2.2 hB (fun h4 q4 O4 R4 w4 l4 => ?_)
      refine P_Mo_isSailing hM R4 w4 SP hn hk (fun z => ⟨fun q => absurd q z01, fun _ => ?_⟩) (fun w => absurd (z.symm.trans w) (by decide))
      exact P_Mo_wayOf hM O4 hB rfl R4 w4 l4 SB SP hk z (fun h5 f5 k5 => hQ _ _ ((C2.m q4).m (Qm.mk k5)))
    · unfold D_Mo_steers
      refine P_MoisBoat hM hm.bay (rockB_B hB) (fun k' hk' e' => ⟨fun _ => ?_, fun z => absurd z z01⟩) (fun z => absurd rfl (z k hk))
      refine P_cp hM hm hB (fun h4 q4 O4 R4 w4 l4 => ?_)
      exact P_Mo_isSailing hM R4 w4 SP hn hk (fun w => absurd (z.symm.trans w) (by decide)) (fun z => ⟨fun _ => hQ _ _ (C.m q4), fun q => absurd rfl q⟩)
  · refine ⟨fun z => absurd rfl z, fun _ => ?_⟩
    unfold D_Mo_steers
    exact P_MoisBoat hM hm.bay (rockB_B hB) (fun k hk e => absurd e (hnk k hk)) (fun _ => ⟨fun z => absurd rfl z, fun _ => hQ _ _ C⟩)
