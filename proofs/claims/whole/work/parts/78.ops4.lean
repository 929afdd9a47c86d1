/-! loops over hours to come -/
theorem P_arePair {r : TR} {h : TH} {q b : Nat} {B : By} {a o : Int32} {Q : Int32 → TH → Prop} (hr : r q 1 = b) (hO : h.1 b 2 = nI (bN B)) (hB : ByB B) (h1 : ∀ k j, k < bN B → j < bN B → a = nI k → o = nI j → ¬ k = j → Q 1 h) (h0 : ((∀ k, k < bN B → ¬ a = nI k) ∨ ((∃ k, k < bN B ∧ a = nI k) ∧ ((∀ k, k < bN B → ¬ o = nI k) ∨ ((∃ k, k < bN B ∧ o = nI k) ∧ a = o)))) → Q 0 h) : D_SR_arePair r q a o h Q := by
  unfold D_SR_arePair
  refine P_SRisBoat (B := B) hr hO hB (fun k hk e => ⟨fun z => absurd z z01, fun _ => ?_⟩) (fun hnk => ⟨fun _ => h0 (Or.inl hnk), fun z => absurd rfl z⟩)
  refine P_SRisBoat (B := B) hr hO hB (fun j hj e2 => ⟨fun z => absurd z z01, fun _ => ⟨fun w => h0 (Or.inr ⟨⟨k, hk, e⟩, Or.inr ⟨⟨j, hj, e2⟩, w⟩⟩), fun w => h1 k j hk hj e e2 (fun z => w (by rw [e, e2, z]))⟩⟩) (fun hnk => ⟨fun _ => h0 (Or.inr ⟨⟨k, hk, e⟩, Or.inl hnk⟩), fun z => absurd rfl z⟩)
theorem P_isWater {r : TR} {h : TH} {m L c : Nat} {rk : Int32} {B : By} {Q : Int32 → TH → Prop} (hr : RMo r m) (hO : MBay h m L rk B) (hB : ByB B) (hc : c < 40) (h1 : bK B c = 0 → Q 1 h) (h0 : ¬ bK B c = 0 → Q 0 h) : D_Mo_isWater r m (nI (c % 8)) (nI (c / 8)) h Q := by
  have kd := hB.2.2.2.2.2.1 c hc
  unfold D_Mo_isWater
  refine P_isCell hr hO hB (by omega) (by omega) (fun x y => ⟨fun z => absurd z z01, fun _ => ?_⟩) (fun z => ⟨fun _ => h0 ?_, fun z => absurd rfl z⟩)
  · rw [if_pos ⟨x, y⟩] at kd
    refine P_sortAt hr hO hc x y ⟨fun z => h0 (fun e => z (by rw [e]; rfl)), fun z => h1 ?_⟩
    exact (nI_eq (b := 0) (by omega) (by omega)).mp z
  · rw [if_neg z] at kd; omega
theorem jd8 {c : Nat} (hc : c < 40) : jrem (nI c) 8 = nI (c % 8) ∧ nI c / 8 = nI (c / 8) := ⟨jr8 (by omega), dv8 (by omega)⟩
theorem J_bare {r : TR} {q b d m L T : Nat} {h : TH} {A : St} {a1 : Int32} {Q : Int32 → Int32 → TH → Prop} (C : Cx r q b d m L T h A) (hQ : ∀ x h', Cx r q b d m L T h' A → Q x x h') : D_SR_bare r q a1 h (fun x h1 => D_Mo_bare r m a1 h1 (fun y h2 => Q x y h2)) := by
  have hB := C.2.2.2.1.1
  have hn := hB.2.2.1
  obtain ⟨hR, hM, hqm, hA, hx, hm⟩ := id C
  obtain ⟨⟨-, r1, r2, r3, -⟩, -, ⟨s1, s2, -⟩, -, -, -, -, rb, -, ap⟩ := id hR
  have hT := hA.2.2.2.2.2.2.2.2
  unfold D_SR_bare
  refine P_within (fun z2 w2 => ⟨fun _ => ?_, fun z => absurd z z01⟩) (fun z2 => ⟨fun z => absurd rfl z, fun _ => ?_⟩)
  · obtain ⟨n, -, hn100, rfl⟩ := wi_nI (x := 0) (y := 100) (by omega) z2 w2 (by omega)
    refine P_lookAhead hR hA hx hn100 (fun h1 f1 t1 S1 => ?_)
    have C1 := C.x f1 t1
    have I1 := hoursS_I (seed := nI (bSe (tB A))) hB hA.2.1 n (by omega)
    have O1 := C1.2.2.2.2.1.1
    refine lp_cnt (n := 40) (fun c => decide (bK (tB A) c = 0) && decide (diUp (hoursS (tB A) (nI (bSe (tB A))) n (tS A)) c (bN (tB A)) = 0)) ?_ ?_
    · intro c x K hc ht hf
      have kd := hB.2.2.2.2.2.1 c hc
      have kd3 : bK (tB A) c ≤ 3 := by split at kd <;> omega
      have dl := diUp_lt (hoursS (tB A) (nI (bSe (tB A))) n (tS A)) c (bN (tB A)) hn
      unfold DB_SR_bare_21
      rw [r1, r3, rb.1.1, nI_clamp (n := c) (by omega), O1.2.2.2.2.2.1 c hc, O1.2.2.1]
      refine ⟨fun q => absurd ((nI_leI (a := 40) (by omega) (by omega)).mp q) (by omega), fun _ => ⟨vp_in_nI hc (by omega), fun y x12 e12 => ?_, fun y => ?_⟩⟩
      · rw [nI_1] at e12; subst e12
        refine hf ?_
        rw [decide_eq_false (fun e => y (by rw [e]; rfl))]; rfl
      · have y' := (nI_eq (b := 0) (by omega) (by omega)).mp y
        refine P_dishesIn s2 S1 I1.1 hc hn ⟨fun w x18 e18 => ?_, fun w x19 e19 x20 e20 => ?_⟩
        · rw [nI_1] at e18; subst e18
          refine hf ?_
          rw [decide_eq_true y', decide_eq_false (fun e => w (by rw [e]; rfl))]; rfl
        · rw [nI_1] at e19 e20; subst e19; subst e20
          refine ht ?_
          rw [decide_eq_true y', decide_eq_true ((nI_eq (b := 0) (by omega) (by omega)).mp w)]; rfl
    · intro K
      unfold DB_SR_bare_21
      refine ⟨fun _ => ?_, fun q => absurd (show (40 : Int32) ≤ nI 40 from Int32.le_refl _) q⟩
      unfold D_Mo_bare
      refine P_isLong1 z2 w2 ⟨fun _ => ?_, fun z => absurd z z01⟩
      refine P_ah hM hA C1.2.2.2.2.2 hn100 (fun h5 q5 O5 R5 w5 l5 => ?_)
      refine lp_cnt (n := 40) (fun c => decide (bK (tB A) c = 0) && decide (diUp (hoursS (tB A) (nI (bSe (tB A))) n (tS A)) c (bN (tB A)) = 0)) ?_ ?_
      · intro c x K hc ht hf
        have dl := diUp_lt (hoursS (tB A) (nI (bSe (tB A))) n (tS A)) c (bN (tB A)) hn
        unfold DB_Mo_bare_22
        rw [(jd8 hc).1, (jd8 hc).2]
        refine ⟨fun q => absurd ((nI_leI (a := 40) (by omega) (by omega)).mp q) (by omega), fun _ => ?_⟩
        refine P_isWater hM O5 hB hc (fun y => ⟨fun z => absurd z z01, fun _ => ?_⟩) (fun y => ⟨fun _ x14 e14 => ?_, fun z => absurd rfl z⟩)
        · refine P_smeltAt hM O5 hB R5 I1.1 hc ⟨fun w x18 e18 => ?_, fun w x19 e19 x20 e20 => ?_⟩
          · rw [nI_1] at e18; subst e18
            refine hf ?_
            rw [decide_eq_true y, decide_eq_false (fun e => w (by rw [e]; rfl))]; rfl
          · rw [nI_1] at e19 e20; subst e19; subst e20
            refine ht ?_
            rw [decide_eq_true y, decide_eq_true ((nI_eq (b := 0) (by omega) (by omega)).mp w)]; rfl
        · rw [nI_1] at e14; subst e14
          refine hf ?_
          rw [decide_eq_false y]; rfl
      · intro K
        unfold DB_Mo_bare_22
        exact ⟨fun _ => hQ _ _ (C1.m q5), fun q => absurd (show (40 : Int32) ≤ nI 40 from Int32.le_refl _) q⟩
  · unfold D_Mo_bare
    exact P_isLong0 z2 ⟨fun z => absurd rfl z, fun _ => hQ _ _ C⟩
/-- an hour more, in the class's scene ahead -/
theorem P_hourX {r : TR} {q b d m L T : Nat} {h0 h : TH} {A : St} {S : Sc} {Q : TH → Prop} (C : Cx r q b d m L T h0 A) (f : Fr (FX q b) h0 h) (t : BScr b h0 h) (hS : ScOK h (q + 56) S) (SB : ScB S) (hh : sH S < 1000000) (hQ : ∀ h', Fr (FX q b) h0 h' → BScr b h0 h' → ScOK h' (q + 56) (hourS (tB A) (nI (bSe (tB A))) S) → Q h') : D_Bay_passHour r b (q + 56) (h.1 b 4) h Q := by
  obtain ⟨⟨-, r1, r2, r3, -⟩, -, ⟨s1, s2, -⟩, -, -, -, -, rb, -, ap⟩ := C.1
  have O := C.2.2.2.2.1.1.scr t
  have hap : apart b (q + 56) := by unfold apart; rcases ap with x | x <;> omega
  rw [O.2.2.2.2.1]
  refine P_passHour (seed := nI (bSe (tB A))) rb s2 O C.2.2.2.1.1 hS SB hap hh (fun h' f' t' S' => hQ h' (f.tr (f'.mono (fun a ha => ?_))) (t.tr t') S')
  rcases ha with x | x
  · exact Or.inl x
  · exact Or.inr (Or.inl ⟨by omega, by omega⟩)
theorem J_met {r : TR} {q b d m L T : Nat} {h : TH} {A : St} {a1 a2 a3 : Int32} {Q : Int32 → Int32 → TH → Prop} (C : Cx r q b d m L T h A) (hQ : ∀ x h', Cx r q b d m L T h' A → Q x x h') : D_SR_met r q a1 a2 a3 h (fun x h1 => D_Mo_met r m a1 a2 a3 h1 (fun y h2 => Q x y h2)) := by
  have hB := C.2.2.2.1.1
  have hn := hB.2.2.1
  obtain ⟨hR, hM, hqm, hA, hx, hm⟩ := id C
  obtain ⟨⟨-, r1, r2, r3, -⟩, -, ⟨s1, s2, -⟩, -, -, -, -, rb, -, ap⟩ := id hR
  have hT := hA.2.2.2.2.2.2.2.2
  have r49 : r m 49 = m + 32 := hM 49 (by decide) (by decide)
  have e6 : ∀ k, (6 : Int32) + nI k = nI (6 + k) := fun k => nI_add 6 k
  have SH := hA.2.1.2.2.2.1
  unfold D_SR_met
  refine P_arePair (B := tB A) r1 hx.1.2.2.1 hB (fun k j hk hj e1 e2 hkj => ⟨fun z => absurd z z01, fun _ => ?_⟩) (fun hno => ⟨fun _ => ?_, fun z => absurd rfl z⟩)
  · subst e1; subst e2
    refine P_within (fun z3 w3 => ⟨fun _ => ?_, fun z => absurd z z01⟩) (fun z3 => ⟨fun z => absurd rfl z, fun _ => ?_⟩)
    · obtain ⟨n, hn1, hn100, rfl⟩ := wi_nI (x := 1) (y := 100) (by omega) z3 w3 (by omega)
      have hI : ∀ t, t ≤ 101 → SI (tB A) (T + t) (hoursS (tB A) (nI (bSe (tB A))) t (tS A)) := fun t ht => hoursS_I (seed := nI (bSe (tB A))) hB hA.2.1 t (by omega)
      refine P_lookAhead (n := 0) hR hA hx (by omega) (fun h1 f1 t1 S1 => ?_)
      refine lp_for n (fun t s => ∃ h', s = (nI (cntF (fun t => together (hoursS (tB A) (nI (bSe (tB A))) (t + 1) (tS A)) k j) t), nI (1 + t), h') ∧ Fr (FX q b) h h' ∧ BScr b h h' ∧ ScOK h' (q + 56) (hoursS (tB A) (nI (bSe (tB A))) t (tS A))) ?_ ?_ _ ⟨h1, rfl, f1, t1, S1⟩
      · rintro t s K ht ⟨h', rfl, f', t', S'⟩ hK
        have It := hI t (by omega)
        have It1 := hI (t + 1) (by omega)
        have e1t : 1 + (t + 1) = 1 + t + 1 := by omega
        unfold DB_SR_met_32
        refine ⟨fun q => absurd ((nI_ltI (by omega) (by omega)).mp q) (by omega), fun _ => ?_⟩
        show D_Bay_passHour r (r q 1) (r q 3) (h'.1 (r q 1) 4) h' _
        rw [r1, r3]
        refine P_hourX C f' t' S' It.1 (by have := It.2.2.2.1; omega) (fun h8 f8 t8 S8 => ?_)
        replace S8 : ScOK h8 (q + 56) (hoursS (tB A) (nI (bSe (tB A))) (t + 1) (tS A)) := S8
        refine P_areTogether s2 S8 It1.1 (by omega) (by omega) (fun z => ⟨fun q => absurd q z01, fun _ x22 e22 x23 e23 => hK _ ⟨h8, ?_, f8, t8, S8⟩⟩) (fun z => ⟨fun _ x21 e21 => hK _ ⟨h8, ?_, f8, t8, S8⟩, fun q => absurd rfl q⟩)
        · rw [nI_1] at e22 e23; subst e22; subst e23
          conv => rhs; unfold cntF
          rw [if_pos z, e1t]
        · rw [nI_1] at e21; subst e21
          conv => rhs; unfold cntF
          rw [if_neg (by rw [z]; decide), e1t]
      · rintro s K ⟨h', rfl, f', t', S'⟩
        unfold DB_SR_met_32
        refine ⟨fun _ => ?_, fun q => absurd (nI_lt (by omega) (by omega)) q⟩
        have C1 := C.x f' t'
        show D_Mo_met r m (nI k) (nI j) (nI n) h' _
        unfold D_Mo_met
        refine P_MoisBoat hM C1.2.2.2.2.2.bay (rockB_B hB) (fun k' hk' e' => ⟨fun z => absurd z z01, fun _ => ?_⟩) (fun z => absurd rfl (z k hk))
        refine P_MoisBoat hM C1.2.2.2.2.2.bay (rockB_B hB) (fun k' hk' e' => ⟨fun z => absurd z z01, fun _ => ⟨fun z => absurd ((nI_eq (by omega) (by omega)).mp z) hkj, fun _ => ?_⟩⟩) (fun z => absurd rfl (z j hj))
        refine P_in1 z3 w3 ⟨fun _ => ?_, fun z => absurd z z01⟩
        refine P_cp hM C1.2.2.2.2.2 hB (fun h4 q4 O4 R4 w4 l4 => ?_)
        refine lp_for n (fun t s => ∃ h5, s = (nI (cntF (fun t => together (hoursS (tB A) (nI (bSe (tB A))) (t + 1) (tS A)) k j) t), nI t, h5) ∧ MK m h4 h5 ∧ RowOK (h5.1 (m + 32)) (bN (tB A)) (-1) (hoursS (tB A) (nI (bSe (tB A))) t (tS A))) ?_ ?_ _ ⟨h4, rfl, MK.rf, R4⟩
        · rintro t s K ht ⟨h5, rfl, k5, R5⟩ hK
          have It := hI t (by omega)
          have It1 := hI (t + 1) (by omega)
          unfold DB_Mo_met_43
          refine ⟨fun q => absurd ((nI_leI (by omega) (by omega)).mp q) (by omega), fun _ => ?_⟩
          refine P_hourGoes (seed := nI (bSe (tB A))) hM (O4.mk k5) hB rfl R5 (by rw [k5.2 51 (by omega)]; exact w4) (by rw [k5.2 50 (by omega)]; exact l4) It.1 It.2.1 (by have := It.2.2.2.1; omega) (fun h8 k8 R8 => ?_)
          replace R8 : RowOK (h8.1 (m + 32)) (bN (tB A)) (-1) (hoursS (tB A) (nI (bSe (tB A))) (t + 1) (tS A)) := R8
          have k58 := k5.tr k8
          have w8 : h8.1 m 51 = -1 := by rw [k58.2 51 (by omega)]; exact w4
          have no : together (hoursS (tB A) (nI (bSe (tB A))) (t + 1) (tS A)) k j = false → ∀ x : Int32, x = nI t + 1 → K (nI (cntF (fun t => together (hoursS (tB A) (nI (bSe (tB A))) (t + 1) (tS A)) k j) t), x, h8) := by
            intro z x e
            rw [nI_1] at e; subst e
            refine hK _ ⟨h8, ?_, k58, R8⟩
            conv => rhs; unfold cntF
            rw [if_neg (by rw [z]; decide)]
          have ck := It1.1.2.2.2.2.1 k (by omega)
          have cj := It1.1.2.2.2.2.1 j (by omega)
          refine P_Mo_isSailing hM R8 w8 It1.2.1 hn hk (fun zk => ⟨fun q => absurd q z01, fun _ => ?_⟩) (fun zk => ⟨fun _ => no ?_, fun q => absurd rfl q⟩)
          · refine P_Mo_isSailing hM R8 w8 It1.2.1 hn hj (fun zj => ⟨fun q => absurd q z01, fun _ => ?_⟩) (fun zj => ⟨fun _ => no ?_, fun q => absurd rfl q⟩)
            · rw [r49, nI_clamp (n := k) (by omega), nI_clamp (n := j) (by omega), (R8.2.2.1 k hk).1, (R8.2.2.1 j hj).1]
              refine ⟨vp_in_nI (by omega) (by omega), vp_in_nI (by omega) (by omega), fun y => no ?_, fun y i31 e31 => ?_⟩
              · unfold together
                rw [zk, zj, decide_eq_false (fun e => y (by rw [e]))]; rfl
              · rw [e6] at e31
                subst e31
                rw [nI_clamp (n := 6 + k) (by omega), (R8.2.2.1 k hk).2.1]
                refine ⟨vp_in_nI (by omega) (by omega), fun i33 e33 => ?_⟩
                rw [e6] at e33
                subst e33
                rw [nI_clamp (n := 6 + j) (by omega), (R8.2.2.1 j hj).2.1]
                refine ⟨vp_in_nI (by omega) (by omega), fun y2 => no ?_, fun y2 x36 e36 x37 e37 => ?_⟩
                · unfold together
                  rw [zk, zj, decide_eq_false (fun e => y2 (by rw [e]))]; rfl
                · rw [nI_1] at e36 e37; subst e36; subst e37
                  refine hK _ ⟨h8, ?_, k58, R8⟩
                  have q1 := (nI_eq (by omega) (by omega)).mp y
                  have q2 := (nI_eq (by omega) (by omega)).mp y2
                  have tg : together (hoursS (tB A) (nI (bSe (tB A))) (t + 1) (tS A)) k j = true := by
                    unfold together
                    rw [zk, zj, decide_eq_true (by omega)]; rfl
                  conv => rhs; unfold cntF
                  rw [if_pos tg]
            · unfold together; rw [zk, zj]; rfl
          · unfold together; rw [zk]; rfl
        · rintro s K ⟨h5, rfl, k5, R5⟩
          unfold DB_Mo_met_43
          exact ⟨fun _ => hQ _ _ ((C1.m q4).m (Qm.mk k5)), fun q => absurd (Int32.le_refl _) q⟩
    · unfold D_Mo_met
      refine P_MoisBoat hM hm.bay (rockB_B hB) (fun k' hk' e' => ⟨fun z => absurd z z01, fun _ => ?_⟩) (fun z => absurd rfl (z k hk))
      refine P_MoisBoat hM hm.bay (rockB_B hB) (fun k' hk' e' => ⟨fun z => absurd z z01, fun _ => ⟨fun z => absurd ((nI_eq (by omega) (by omega)).mp z) hkj, fun _ => ?_⟩⟩) (fun z => absurd rfl (z j hj))
      exact P_in0 z3 ⟨fun z => absurd rfl z, fun _ => hQ _ _ C⟩
  · unfold D_Mo_met
    rcases hno with hno | ⟨⟨k, hk, e⟩, hno⟩
    · exact P_MoisBoat hM hm.bay (rockB_B hB) (fun k hk e => absurd e (hno k hk)) (fun _ => ⟨fun _ => hQ _ _ C, fun z => absurd rfl z⟩)
    · refine P_MoisBoat hM hm.bay (rockB_B hB) (fun k' hk' e' => ⟨fun z => absurd z z01, fun _ => ?_⟩) (fun z => absurd e (z k hk))
      rcases hno with hno | ⟨⟨j, hj, e2⟩, hno⟩
      · exact P_MoisBoat hM hm.bay (rockB_B hB) (fun k hk e => absurd e (hno k hk)) (fun _ => ⟨fun _ => hQ _ _ C, fun z => absurd rfl z⟩)
      · exact P_MoisBoat hM hm.bay (rockB_B hB) (fun k' hk' e' => ⟨fun z => absurd z z01, fun _ => ⟨fun _ => hQ _ _ C, fun z => absurd hno z⟩⟩) (fun z => absurd e2 (z j hj))
