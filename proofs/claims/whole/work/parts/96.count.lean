/-! count: both sides -/
theorem heldM_pop : ∀ a b c : Bool, (((if a then 1 else 0) + (if b then 1 else 0)) + (if c then 1 else 0) : Int32) = nI (popc ((if a then 1 else 0) + (if b then 2 else 0) + (if c then 4 else 0))) := by decide
theorem held_go {X : Int32 → Prop} {x0 : Int32} (a b c : Bool) (e : x0 = (((if a then 1 else 0) + (if b then 1 else 0)) + (if c then 1 else 0) : Int32)) (fin : X x0) :
    (((if a then 1 else 0 : Int32) = 0 → (((if b then 1 else 0 : Int32) = 0 → (((if c then 1 else 0 : Int32) = 0 → X ((0 + 0) + 0)) ∧ (¬ (if c then 1 else 0 : Int32) = 0 → X ((0 + 0) + 1)))) ∧ (¬ (if b then 1 else 0 : Int32) = 0 → (((if c then 1 else 0 : Int32) = 0 → X ((0 + 1) + 0)) ∧ (¬ (if c then 1 else 0 : Int32) = 0 → X ((0 + 1) + 1)))))) ∧ (¬ (if a then 1 else 0 : Int32) = 0 → (((if b then 1 else 0 : Int32) = 0 → (((if c then 1 else 0 : Int32) = 0 → X ((1 + 0) + 0)) ∧ (¬ (if c then 1 else 0 : Int32) = 0 → X ((1 + 0) + 1)))) ∧ (¬ (if b then 1 else 0 : Int32) = 0 → (((if c then 1 else 0 : Int32) = 0 → X ((1 + 1) + 0)) ∧ (¬ (if c then 1 else 0 : Int32) = 0 → X ((1 + 1) + 1))))))) := by
  rw [e] at fin
  clear e
  revert fin
  cases a <;> cases b <;> cases c <;> intro fin <;> refine ⟨fun z => ⟨fun y => ⟨fun x => ?_, fun x => ?_⟩, fun y => ⟨fun x => ?_, fun x => ?_⟩⟩, fun z => ⟨fun y => ⟨fun x => ?_, fun x => ?_⟩, fun y => ⟨fun x => ?_, fun x => ?_⟩⟩⟩ <;> first | exact absurd z (by decide) | exact absurd y (by decide) | exact absurd x (by decide) | exact fin
theorem sailM_set {B : By} {S : Sc} (hB : ByB B) (hS : ScB S) : setF (fun k => sail S k) (bN B) = sailM B S := setF_eq hB.2.2.1 (sailM_lt hB hS) (fun k hk => sailM_bit hB hS hk)
theorem J_count {r : TR} {q b d m L T : Nat} {h : TH} {A : St} {a1 : Int32} {Q : Int32 → Int32 → TH → Prop} (C : Cx r q b d m L T h A) (hQ : ∀ x h', Cx r q b d m L T h' A → Q x x h') : D_SR_count r q a1 h (fun x h1 => D_Mo_count r m a1 h1 (fun y h2 => Q x y h2)) := by
  have hB := C.2.2.2.1.1
  have hn := hB.2.2.1
  obtain ⟨hR, hM, hqm, hA, hx, hm⟩ := id C
  obtain ⟨⟨r0, r1, r2, r3, r4, r5, r7, r8, r9⟩, -, ⟨s1, s2, -⟩, -, -, -, -, rb, -, ap⟩ := id hR
  obtain ⟨SB, SP, SA, SH, SN, SW, SO⟩ := id hA.2.1
  have SS := hx.2.2.2.1
  have r49 : r m 49 = m + 32 := hM 49 (by decide) (by decide)
  have r22 : r m 22 = m + 9 := hM 22 (by decide) (by decide)
  have r23 : r m 23 = m + 10 := hM 23 (by decide) (by decide)
  have r25 : r m 25 = m + 12 := hM 25 (by decide) (by decide)
  have r64 : r m 64 = m + 42 := hM 64 (by decide) (by decide)
  have z30 : (30 : Int32).toNatClampNeg = 30 := by decide
  have z0 : (0 : Int32).toNatClampNeg = 0 := by decide
  have z1 : (1 : Int32).toNatClampNeg = 1 := by decide
  have z2 : (2 : Int32).toNatClampNeg = 2 := by decide
  unfold D_SR_count
  rw [r0, r1, r2, r4, r7]
  refine ⟨fun e => ?_, fun n0 => ⟨fun e => ?_, fun n1 => ⟨fun e => ?_, fun n2 => ⟨fun e => ?_, fun n3 => ⟨fun e => ?_, fun n4 => ⟨fun e => ?_, fun n5 => ⟨fun e => ?_, fun n6 => ⟨fun e => ?_, fun n7 => ⟨fun e => ?_, fun n8 => ⟨fun e => ?_, fun n9 => ⟨fun e => ?_, fun n10 => ⟨fun e => ?_, fun n11 => ⟨fun e => ?_, fun n12 => ⟨fun e => ?_, fun n13 => ?_⟩⟩⟩⟩⟩⟩⟩⟩⟩⟩⟩⟩⟩⟩
  · subst e
    rw [hx.1.1]
    unfold D_Mo_count
    refine P_cp hM hm hB (fun h4 q4 O4 R4 w4 l4 => ?_)
    refine ⟨fun _ => ?_, fun z => absurd rfl z⟩
    intro i e
    rw [O4.1] at e
    subst e
    rw [r23, nI_clamp (n := L) (by have := O4.2.1; omega), O4.2.2.2.1]
    exact ⟨vp_in_nI O4.2.1 (by omega), hQ _ _ (C.m q4)⟩
  · subst e
    rw [hx.1.2.1]
    unfold D_Mo_count
    refine P_cp hM hm hB (fun h4 q4 O4 R4 w4 l4 => ?_)
    refine ⟨fun z => absurd z (by decide), fun _ => ⟨fun _ => ?_, fun z => absurd rfl z⟩⟩
    intro i e
    rw [O4.1] at e
    subst e
    rw [r22, nI_clamp (n := L) (by have := O4.2.1; omega), O4.2.2.2.2.1]
    exact ⟨vp_in_nI O4.2.1 (by omega), hQ _ _ (C.m q4)⟩
  · subst e
    rw [hx.1.2.2.1]
    unfold D_Mo_count
    refine P_cp hM hm hB (fun h4 q4 O4 R4 w4 l4 => ?_)
    refine ⟨fun z => absurd z (by decide), fun _ => ⟨fun z => absurd z (by decide), fun _ => ⟨fun _ => ?_, fun z => absurd rfl z⟩⟩⟩
    intro i e
    rw [O4.1] at e
    subst e
    rw [r25, nI_clamp (n := L) (by have := O4.2.1; omega), O4.2.2.2.2.2.1]
    exact ⟨vp_in_nI O4.2.1 (by omega), hQ _ _ (C.m q4)⟩
  · subst e
    rw [SS.1]
    unfold D_Mo_count
    refine P_cp hM hm hB (fun h4 q4 O4 R4 w4 l4 => ?_)
    refine ⟨fun z => absurd z (by decide), fun _ => ⟨fun z => absurd z (by decide), fun _ => ⟨fun z => absurd z (by decide), fun _ => ⟨fun _ => ?_, fun z => absurd rfl z⟩⟩⟩⟩
    rw [r49, z30, R4.1]
    exact hQ _ _ (C.m q4)
  · subst e
    rw [SS.2.2.2.1]
    unfold D_Mo_count
    refine P_cp hM hm hB (fun h4 q4 O4 R4 w4 l4 => ?_)
    refine ⟨fun z => absurd z (by decide), fun _ => ⟨fun z => absurd z (by decide), fun _ => ⟨fun z => absurd z (by decide), fun _ => ⟨fun z => absurd z (by decide), fun _ => ⟨fun _ => ?_, fun z => absurd rfl z⟩⟩⟩⟩⟩
    refine lp_set (fun k => (sO (tS A)).testBit k) hn ?_ ?_
    · intro j x K hj hx64 ht hf
      have nk := nI_nm (k := j) (by omega)
      unfold DB_Mo_count_118
      intro i18 e18
      rw [O4.1] at e18
      subst e18
      rw [r25, nI_clamp (n := L) (by have := O4.2.1; omega), O4.2.2.2.2.2.1]
      refine ⟨vp_in_nI O4.2.1 (by omega), fun z => absurd ((nI_leI (by omega) (by omega)).mp z) (by omega), fun _ i21 e21 => ?_⟩
      have e' : i21 = nI (12 + j) := by rw [e21]; exact nI_add 12 j
      subst e'
      rw [r49, nI_clamp (n := 12 + j) (by omega), ((R4.2.2.1 j hj).2.2.2.2 nk).1]
      refine ⟨vp_in_nI (by omega) (by omega), fun z x23 e23 => ?_, fun z x24 e24 x25 e25 => ?_⟩
      · rw [nI_1] at e23; subst e23
        refine hf ?_
        cases ho : (sO (tS A)).testBit j with
        | false => rfl
        | true => rw [ho] at z; have := SP j hj ho; exact absurd z (nI_nle (by omega) (by omega))
      · rw [nI_1] at e25; subst e25
        refine ht ?_ _ e24
        cases ho : (sO (tS A)).testBit j with
        | true => rfl
        | false => rw [ho] at z; exact absurd (Int32.le_refl _) z
    · intro K
      unfold DB_Mo_count_118
      intro i18 e18
      rw [O4.1] at e18
      subst e18
      rw [r25, nI_clamp (n := L) (by have := O4.2.1; omega), O4.2.2.2.2.2.1]
      refine ⟨vp_in_nI O4.2.1 (by omega), fun _ => ?_, fun z => absurd (Int32.le_refl _) z⟩
      rw [SI.home hB hA.2.1]
      exact hQ _ _ (C.m q4)
  · subst e
    rw [SS.2.2.1]
    unfold D_Mo_count
    refine P_cp hM hm hB (fun h4 q4 O4 R4 w4 l4 => ?_)
    refine ⟨fun z => absurd z (by decide), fun _ => ⟨fun z => absurd z (by decide), fun _ => ⟨fun z => absurd z (by decide), fun _ => ⟨fun z => absurd z (by decide), fun _ => ⟨fun z => absurd z (by decide), fun _ => ⟨fun _ => ?_, fun z => absurd rfl z⟩⟩⟩⟩⟩⟩
    refine P_lostNow hM O4 hB R4 ?_
    rw [SI.lost hB hA.2.1]
    exact hQ _ _ (C.m q4)
  · subst e
    rw [SS.2.1]
    unfold D_Mo_count
    refine P_cp hM hm hB (fun h4 q4 O4 R4 w4 l4 => ?_)
    refine ⟨fun z => absurd z (by decide), fun _ => ⟨fun z => absurd z (by decide), fun _ => ⟨fun z => absurd z (by decide), fun _ => ⟨fun z => absurd z (by decide), fun _ => ⟨fun z => absurd z (by decide), fun _ => ⟨fun z => absurd z (by decide), fun _ => ⟨fun _ => ?_, fun z => absurd rfl z⟩⟩⟩⟩⟩⟩⟩
    refine P_pansOn hM O4 hB (C.m q4).2.2.2.2.2.2.1 ?_
    rw [SI.pans hB hA.2.1]
    exact hQ _ _ (C.m q4)
  · subst e
    rw [SS.1]
    refine P_windAt rb hx.1 hB (fun h1 f1 t1 => ?_)
    have C1 := C.x (f1.mono (fun a ha => Or.inl ha)) t1
    unfold D_Mo_count
    refine P_cp hM C1.2.2.2.2.2 hB (fun h4 q4 O4 R4 w4 l4 => ?_)
    refine ⟨fun z => absurd z (by decide), fun _ => ⟨fun z => absurd z (by decide), fun _ => ⟨fun z => absurd z (by decide), fun _ => ⟨fun z => absurd z (by decide), fun _ => ⟨fun z => absurd z (by decide), fun _ => ⟨fun z => absurd z (by decide), fun _ => ⟨fun z => absurd z (by decide), fun _ => ⟨fun _ => ?_, fun z => absurd rfl z⟩⟩⟩⟩⟩⟩⟩⟩
    rw [r49, z30, R4.1]
    exact P_windIn hM O4 (fun h5 f5 k5 => hQ _ _ ((C1.m q4).m (Qm.mk k5)))
  · subst e
    rw [hx.2.2.2.2.2.2.2.1.1]
    unfold D_Mo_count
    refine P_cp hM hm hB (fun h4 q4 O4 R4 w4 l4 => ?_)
    refine ⟨fun z => absurd z (by decide), fun _ => ⟨fun z => absurd z (by decide), fun _ => ⟨fun z => absurd z (by decide), fun _ => ⟨fun z => absurd z (by decide), fun _ => ⟨fun z => absurd z (by decide), fun _ => ⟨fun z => absurd z (by decide), fun _ => ⟨fun z => absurd z (by decide), fun _ => ⟨fun z => absurd z (by decide), fun _ => ⟨fun _ => ?_, fun z => absurd rfl z⟩⟩⟩⟩⟩⟩⟩⟩⟩
    rw [(C.m q4).2.2.2.2.2.2.2.2.2.2.1.1]
    exact hQ _ _ (C.m q4)
  · subst e
    obtain ⟨nx, -, -, hu, -⟩ := hx.2.2.2.2.1
    rw [hu]
    unfold D_Mo_count
    refine P_cp hM hm hB (fun h4 q4 O4 R4 w4 l4 => ?_)
    refine ⟨fun z => absurd z (by decide), fun _ => ⟨fun z => absurd z (by decide), fun _ => ⟨fun z => absurd z (by decide), fun _ => ⟨fun z => absurd z (by decide), fun _ => ⟨fun z => absurd z (by decide), fun _ => ⟨fun z => absurd z (by decide), fun _ => ⟨fun z => absurd z (by decide), fun _ => ⟨fun z => absurd z (by decide), fun _ => ⟨fun z => absurd z (by decide), fun _ => ⟨fun _ => ?_, fun z => absurd rfl z⟩⟩⟩⟩⟩⟩⟩⟩⟩⟩
    rw [(C.m q4).2.2.2.2.2.2.2.1.1]
    exact hQ _ _ (C.m q4)
  · subst e
    rw [hx.2.2.2.2.2.2.1.1]
    unfold D_Mo_count
    refine P_cp hM hm hB (fun h4 q4 O4 R4 w4 l4 => ?_)
    refine ⟨fun z => absurd z (by decide), fun _ => ⟨fun z => absurd z (by decide), fun _ => ⟨fun z => absurd z (by decide), fun _ => ⟨fun z => absurd z (by decide), fun _ => ⟨fun z => absurd z (by decide), fun _ => ⟨fun z => absurd z (by decide), fun _ => ⟨fun z => absurd z (by decide), fun _ => ⟨fun z => absurd z (by decide), fun _ => ⟨fun z => absurd z (by decide), fun _ => ⟨fun z => absurd z (by decide), fun _ => ⟨fun _ => ?_, fun z => absurd rfl z⟩⟩⟩⟩⟩⟩⟩⟩⟩⟩⟩
    rw [(C.m q4).2.2.2.2.2.2.2.2.2.1.1]
    exact hQ _ _ (C.m q4)
  · subst e
    rw [hx.2.2.2.2.2.1.1]
    refine P_bitCount (by have := heldM_lt (tE A); omega) ?_
    unfold D_Mo_count
    refine P_cp hM hm hB (fun h4 q4 O4 R4 w4 l4 => ?_)
    refine ⟨fun z => absurd z (by decide), fun _ => ⟨fun z => absurd z (by decide), fun _ => ⟨fun z => absurd z (by decide), fun _ => ⟨fun z => absurd z (by decide), fun _ => ⟨fun z => absurd z (by decide), fun _ => ⟨fun z => absurd z (by decide), fun _ => ⟨fun z => absurd z (by decide), fun _ => ⟨fun z => absurd z (by decide), fun _ => ⟨fun z => absurd z (by decide), fun _ => ⟨fun z => absurd z (by decide), fun _ => ⟨fun z => absurd z (by decide), fun _ => ⟨fun _ => ?_, fun z => absurd rfl z⟩⟩⟩⟩⟩⟩⟩⟩⟩⟩⟩⟩
    have k0 := ((C.m q4).2.2.2.2.2.2.2.2.1 0 (by omega)).1
    have k1 := ((C.m q4).2.2.2.2.2.2.2.2.1 1 (by omega)).1
    have k2 := ((C.m q4).2.2.2.2.2.2.2.2.1 2 (by omega)).1
    unfold DJ_Mo_count_208 DJ_Mo_count_222
    rw [r64, z0, z1, z2, k0, k1, k2]
    exact held_go (X := fun y => Q (nI (popc (heldM (tE A)))) y h4) (tE A 0).isSome (tE A 1).isSome (tE A 2).isSome (heldM_pop _ _ _).symm (hQ _ h4 (C.m q4))
  · subst e
    refine P_cellsOf (x := 0) rb hx.1 hB (by omega) ?_
    refine P_JLbitCount (setF_ltG _ 40) ?_
    have ek : cntF (fun c => (kindM (tB A) 0).testBit c) 40 = cntF (fun c => decide (bK (tB A) c = 0)) 40 := cntF_cg 40 (fun c hc => by unfold kindM; rw [setF_bitG, decide_eq_true hc, Bool.true_and])
    rw [ek]
    unfold D_Mo_count
    refine P_cp hM hm hB (fun h4 q4 O4 R4 w4 l4 => ?_)
    refine ⟨fun z => absurd z (by decide), fun _ => ⟨fun z => absurd z (by decide), fun _ => ⟨fun z => absurd z (by decide), fun _ => ⟨fun z => absurd z (by decide), fun _ => ⟨fun z => absurd z (by decide), fun _ => ⟨fun z => absurd z (by decide), fun _ => ⟨fun z => absurd z (by decide), fun _ => ⟨fun z => absurd z (by decide), fun _ => ⟨fun z => absurd z (by decide), fun _ => ⟨fun z => absurd z (by decide), fun _ => ⟨fun z => absurd z (by decide), fun _ => ⟨fun z => absurd z (by decide), fun _ => ⟨fun _ => ?_, fun z => absurd rfl z⟩⟩⟩⟩⟩⟩⟩⟩⟩⟩⟩⟩⟩
    refine lp_cnt (fun c => decide (bK (tB A) c = 0)) (n := 40) ?_ ?_
    · intro c x K hc ht hf
      unfold DB_Mo_count_243
      rw [(jd8 hc).1, (jd8 hc).2]
      refine ⟨fun z => absurd ((nI_leI (a := 40) (by omega) (by omega)).mp z) (by omega), fun _ => ?_⟩
      refine P_isWater hM O4 hB hc (fun z => ⟨fun y => absurd y z01, fun _ x59 e59 x60 e60 => ?_⟩) (fun z => ⟨fun _ x58 e58 => ?_, fun y => absurd rfl y⟩)
      · rw [nI_1] at e59 e60; subst e59; subst e60
        exact ht (decide_eq_true z)
      · rw [nI_1] at e58; subst e58
        exact hf (decide_eq_false z)
    · intro K
      unfold DB_Mo_count_243
      exact ⟨fun _ => hQ _ _ (C.m q4), fun z => absurd (show (40 : Int32) ≤ nI 40 from Int32.le_refl _) z⟩
  · subst e
    refine P_sailing hx.1 hB SS SB ?_
    unfold D_Mo_count
    refine P_cp hM hm hB (fun h4 q4 O4 R4 w4 l4 => ?_)
    refine ⟨fun z => absurd z (by decide), fun _ => ⟨fun z => absurd z (by decide), fun _ => ⟨fun z => absurd z (by decide), fun _ => ⟨fun z => absurd z (by decide), fun _ => ⟨fun z => absurd z (by decide), fun _ => ⟨fun z => absurd z (by decide), fun _ => ⟨fun z => absurd z (by decide), fun _ => ⟨fun z => absurd z (by decide), fun _ => ⟨fun z => absurd z (by decide), fun _ => ⟨fun z => absurd z (by decide), fun _ => ⟨fun z => absurd z (by decide), fun _ => ⟨fun z => absurd z (by decide), fun _ => ⟨fun z => absurd z (by decide), fun _ => ⟨fun _ => ?_, fun z => absurd rfl z⟩⟩⟩⟩⟩⟩⟩⟩⟩⟩⟩⟩⟩⟩
    refine lp_set (fun k => sail (tS A) k) hn ?_ ?_
    · intro j x K hj hx64 ht hf
      unfold DB_Mo_count_279
      intro i18 e18
      rw [O4.1] at e18
      subst e18
      rw [r25, nI_clamp (n := L) (by have := O4.2.1; omega), O4.2.2.2.2.2.1]
      refine ⟨vp_in_nI O4.2.1 (by omega), fun z => absurd ((nI_leI (by omega) (by omega)).mp z) (by omega), fun _ => ?_⟩
      refine P_Mo_isSailing hM R4 w4 SP hn hj (fun z => ⟨fun y => absurd y z01, fun _ x76 e76 x77 e77 => ?_⟩) (fun z => ⟨fun _ x75 e75 => ?_, fun y => absurd rfl y⟩)
      · rw [nI_1] at e77; subst e77
        exact ht z _ e76
      · rw [nI_1] at e75; subst e75
        exact hf z
    · intro K
      unfold DB_Mo_count_279
      intro i18 e18
      rw [O4.1] at e18
      subst e18
      rw [r25, nI_clamp (n := L) (by have := O4.2.1; omega), O4.2.2.2.2.2.1]
      refine ⟨vp_in_nI O4.2.1 (by omega), fun _ => ?_, fun z => absurd (Int32.le_refl _) z⟩
      rw [sailM_set hB SB]
      exact hQ _ _ (C.m q4)
  · unfold D_Mo_count
    refine P_cp hM hm hB (fun h4 q4 O4 R4 w4 l4 => ?_)
    exact ⟨fun z => absurd z n0, fun _ => ⟨fun z => absurd z n1, fun _ => ⟨fun z => absurd z n2, fun _ => ⟨fun z => absurd z n3, fun _ => ⟨fun z => absurd z n4, fun _ => ⟨fun z => absurd z n5, fun _ => ⟨fun z => absurd z n6, fun _ => ⟨fun z => absurd z n7, fun _ => ⟨fun z => absurd z n8, fun _ => ⟨fun z => absurd z n9, fun _ => ⟨fun z => absurd z n10, fun _ => ⟨fun z => absurd z n11, fun _ => ⟨fun z => absurd z n12, fun _ => ⟨fun z => absurd z n13, fun _ => hQ _ _ (C.m q4)⟩⟩⟩⟩⟩⟩⟩⟩⟩⟩⟩⟩⟩⟩
