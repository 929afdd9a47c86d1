theorem J_cover {r : TR} {q b d m L T : Nat} {h : TH} {A : St} {a1 : Int32} {Q : Int32 → Int32 → TH → Prop} (C : Cx r q b d m L T h A) (hQ : ∀ x h', Cx r q b d m L T h' A → Q x x h') : D_SR_cover r q a1 h (fun x h1 => D_Mo_cover r m a1 h1 (fun y h2 => Q x y h2)) := by
  have hB := C.2.2.2.1.1
  have hn := hB.2.2.1
  obtain ⟨hR, hM, hqm, hA, hx, hm⟩ := id C
  obtain ⟨⟨r0, r1, r2, r3, r4, r5, r7, r8, r9⟩, -, ⟨s1, s2, -⟩, -, -, -, -, rb, -, ap⟩ := id hR
  have hb : q + 3 ≤ b ∧ b + 23 ≤ q + 52 := by rcases ap with x | x <;> omega
  obtain ⟨SB, SP, SA, SH, SN, SW, SO⟩ := id hA.2.1
  have SS := hx.2.2.2.1
  have r49 : r m 49 = m + 32 := hM 49 (by decide) (by decide)
  have r25 : r m 25 = m + 12 := hM 25 (by decide) (by decide)
  unfold D_SR_cover
  refine P_within (fun z w => ⟨fun _ => ?_, fun q => absurd q z01⟩) (fun z => ⟨fun q => absurd rfl q, fun _ => ?_⟩)
  · rw [r1, r2]
    refine P_sailing hx.1 hB SS SB (fun x9 e9 => ?_)
    rw [SS.2.1, band (sailM_lt hB SB) SB.2.1] at e9
    have hall : sailM (tB A) (tS A) &&& sP (tS A) < 64 := and_lt64 (sailM_lt hB SB)
    have eset : setF (fun k => sail (tS A) k && (sP (tS A)).testBit k) (bN (tB A)) = sailM (tB A) (tS A) &&& sP (tS A) := by
      refine setF_eq hn hall (fun k hk => ?_)
      rw [Nat.testBit_and, sailM_bit hB SB hk, Bool.and_assoc]
    revert e9 hall eset
    generalize sailM (tB A) (tS A) &&& sP (tS A) = all
    intro e9 hall eset
    subst e9
    have cb64 : ∀ s, s ≤ all → cbF (tB A) (tS A) all s < 64 := fun s hs => by rcases cbF_or (B := tB A) (S := tS A) (all := all) s with z | z <;> omega
    have ans : ∀ x : Int32, x = (if a1 = 0 then nI (popc (cbF (tB A) (tS A) all all)) else if a1 = 1 then nI (cbF (tB A) (tS A) all all) else nI (cntF (cvP (tB A) (tS A) all) 40)) → ∀ h1, Cx r q b d m L T h1 A → D_Mo_cover r m a1 h1 (fun y h2 => Q x y h2) := by
      intro x ex h1 C1
      unfold D_Mo_cover
      refine P_in1 z w ⟨fun _ => ?_, fun q => absurd q z01⟩
      refine P_cp hM C1.2.2.2.2.2 hB (fun h4 q4 O4 R4 w4 l4 => ?_)
      have hL := O4.2.1
      refine lp_set (fun k => sail (tS A) k && (sP (tS A)).testBit k) hn ?_ ?_
      · intro j x K hj hx64 ht hf
        unfold DB_Mo_cover_19
        intro i9 e9
        rw [O4.1] at e9
        subst e9
        rw [r25, nI_clamp (n := L) (by omega), O4.2.2.2.2.2.1]
        refine ⟨vp_in_nI hL (by omega), fun z => absurd ((nI_leI (by omega) (by omega)).mp z) (by omega), fun _ => ?_⟩
        refine P_Mo_isSailing hM R4 w4 SP hn hj (fun z => ⟨fun y => absurd y z01, fun _ i16 e16 => ?_⟩) (fun z => ⟨fun _ x14 e14 => ?_, fun y => absurd rfl y⟩)
        · have e' : i16 = nI (24 + j) := by rw [e16]; exact nI_add 24 j
          subst e'
          rw [r49, nI_clamp (n := 24 + j) (by omega), (R4.2.2.1 j hj).2.2.1]
          refine ⟨vp_in_nI (by omega) (by omega), fun y x18 e18 => ?_, fun y x19 e19 x20 e20 => ?_⟩
          · rw [nI_1] at e18; subst e18
            refine hf ?_
            cases q : (sP (tS A)).testBit j with
            | true => rw [q] at y; exact absurd rfl y
            | false => rw [Bool.and_false]
          · rw [nI_1] at e20; subst e20
            refine ht ?_ _ e19
            cases q : (sP (tS A)).testBit j with
            | true => rw [z]; rfl
            | false => rw [q] at y; exact absurd y (by decide)
        · rw [nI_1] at e14; subst e14
          exact hf (by rw [z]; rfl)
      · intro K
        unfold DB_Mo_cover_19
        intro i9 e9
        rw [O4.1] at e9
        subst e9
        rw [r25, nI_clamp (n := L) (by omega), O4.2.2.2.2.2.1]
        refine ⟨vp_in_nI hL (by omega), fun _ => ?_, fun z => absurd (Int32.le_refl _) z⟩
        rw [eset]
        refine lp_for all (fun s t => t = (nI (cbF (tB A) (tS A) all s), nI s, h4)) ?_ ?_ _ rfl
        · rintro s t K hs rfl hK
          have hb64 := cb64 s (by omega)
          have hs64 : s < 64 := by omega
          have d1 := df1 ⟨s, hs64⟩ ⟨all, hall⟩
          simp only [] at d1
          have ps := pc_le ⟨s, hs64⟩
          have pb := pc_le ⟨_, hb64⟩
          simp only [] at ps pb
          have keep : ¬ (dfM s all = 0 ∧ popc s < popc (cbF (tB A) (tS A) all s) ∧ cvM (tB A) (tS A) s (bN (tB A)) = cvM (tB A) (tS A) all (bN (tB A))) → ∀ y : Int32, y = nI s + 1 → K (nI (cbF (tB A) (tS A) all s), y, h4) := by
            intro z y ey
            rw [nI_1] at ey; subst ey
            refine hK _ ?_
            conv => rhs; unfold cbF
            rw [if_neg z]
          have take : (dfM s all = 0 ∧ popc s < popc (cbF (tB A) (tS A) all s) ∧ cvM (tB A) (tS A) s (bN (tB A)) = cvM (tB A) (tS A) all (bN (tB A))) → ∀ y : Int32, y = nI s + 1 → K (nI s, y, h4) := by
            intro z y ey
            rw [nI_1] at ey; subst ey
            refine hK _ ?_
            conv => rhs; unfold cbF
            rw [if_pos z]
          unfold DB_Mo_cover_70
          rw [d1.1]
          refine ⟨fun z => absurd ((nI_leI (by omega) (by omega)).mp z) (by omega), fun _ => ⟨fun z => keep (fun w => z (by rw [w.1]; rfl)), fun z => ?_⟩⟩
          have dz : dfM s all = 0 := (nI_eq (b := 0) (by omega) (by omega)).mp z
          refine P_bits hs64 (P_bits hb64 ⟨fun y => keep (fun w => absurd ((nI_ltI (by omega) (by omega)).mp y) (by omega)), fun y => ?_⟩)
          have y' : ¬ popc (cbF (tB A) (tS A) all s) < popc s := fun z => y (nI_lt z (by omega))
          refine P_Mo_coveredBy hM O4 hB R4 SB hs64 (P_Mo_coveredBy hM O4 hB R4 SB hall ?_)
          have c1 := cntF_le (cvP (tB A) (tS A) s) 40
          have c2 := cntF_le (cvP (tB A) (tS A) all) 40
          refine ⟨fun y2 => keep (fun w => y2 (by rw [(cv_eq hB hs64 hall dz).mpr w.2.2])), fun y2 => ?_⟩
          have ce := (cv_eq hB hs64 hall dz).mp ((nI_eq (by omega) (by omega)).mp y2)
          refine P_bits hs64 (P_bits hb64 ⟨fun y3 => take ⟨dz, (nI_ltI (by omega) (by omega)).mp y3, ce⟩, fun y3 => ?_⟩)
          have y3' : ¬ popc s < popc (cbF (tB A) (tS A) all s) := fun z => y3 (nI_lt z (by omega))
          refine ⟨fun y4 => keep (fun w => y3' w.2.1), fun y4 => ?_⟩
          have y4' : ¬ cbF (tB A) (tS A) all s ≤ s := fun z => y4 (nI_le z (by omega))
          rcases cbF_or (B := tB A) (S := tS A) (all := all) s with o | o
          · have := sub_pc ⟨s, hs64⟩ ⟨all, hall⟩ dz hs
            simp only [] at this
            rw [o] at y3'
            exact absurd this y3'
          · omega
        · rintro t K rfl
          unfold DB_Mo_cover_70
          refine ⟨fun _ => ?_, fun z => absurd (Int32.le_refl _) z⟩
          have fin := hQ x h4 (C1.m q4)
          refine ⟨fun y0 => ⟨fun y1 => ?_, fun y1 => ?_⟩, fun y0 => ?_⟩
          · refine P_Mo_coveredBy hM O4 hB R4 SB hall ?_
            rw [if_neg y0, if_neg y1] at ex
            rw [← ex]; exact fin
          · rw [if_neg y0, if_pos y1] at ex
            show Q x (nI (cbF (tB A) (tS A) all all)) h4
            rw [← ex]; exact fin
          · refine P_bits (cb64 all (Nat.le_refl _)) ?_
            rw [if_pos y0] at ex
            rw [← ex]; exact fin
    refine lp_for (bN (tB A)) (fun j t => ∃ h', t = (nI j, h') ∧ Fr (fun a => a = q + 194) h h' ∧ ∀ i, i < j → h'.2 (q + 194) i = lN (wsM (tB A) (tS A) i)) ?_ ?_ _ ⟨h, rfl, Fr.rf, fun i hi => by omega⟩
    · rintro j t K hj ⟨h', rfl, f', g'⟩ hK
      have O' := hx.1.scr (BScr.out (h' := h') (fun a x y => (f' a (by omega)).1))
      have S' : ScOK h' (q + 52) (tS A) := SS.fr (fun a x y => (f' a (by omega)).1)
      unfold DB_SR_cover_33
      rw [r1, r2, O'.2.2.1]
      refine ⟨fun z => absurd ((nI_leI (by omega) (by omega)).mp z) (by omega), fun _ => ?_⟩
      refine P_waterSmelling rb s1 O' hB S' SB (by omega) ⟨vp_in_nI (by omega) (by omega), fun h18 e18 x19 e19 => ?_⟩
      rw [nI_1] at e19; subst e19
      rw [r9, nI_clamp (n := j) (by omega)] at e18
      refine hK _ ⟨h18, rfl, f'.tr (by rw [e18]; exact Fr.pL rfl), fun i hi => ?_⟩
      rw [e18]
      by_cases e : i = j
      · subst e; rw [pL_s]
      · rw [pL_n _ _ _ _ (by omega)]; exact g' i (by omega)
    · rintro t K ⟨h', rfl, f', g'⟩
      have fx : Fr (FX q b) h h' := f'.mono (fun a ha => by unfold FX; omega)
      have tx : BScr b h h' := BScr.out (fun a x y => (f' a (by omega)).1)
      have O' := hx.1.scr tx
      have C' := C.x fx tx
      unfold DB_SR_cover_33
      rw [r1, O'.2.2.1]
      refine ⟨fun _ => ?_, fun z => absurd (Int32.le_refl _) z⟩
      refine P_coveredBy (S := tS A) r1 r9 O'.2.2.1 hB g' hall ⟨fun n2 => ?_, fun e2 => ?_⟩
      · refine lp_for all (fun s t => t = (nI (cbF (tB A) (tS A) all s), nI s, h')) ?_ ?_ _ rfl
        · rintro s t K hs rfl hK
          have hb64 := cb64 s (by omega)
          have hs64 : s < 64 := by omega
          have d1 := df1 ⟨s, hs64⟩ ⟨all, hall⟩
          simp only [] at d1
          have ps := pc_le ⟨s, hs64⟩
          have pb := pc_le ⟨_, hb64⟩
          simp only [] at ps pb
          have keep : ¬ (dfM s all = 0 ∧ popc s < popc (cbF (tB A) (tS A) all s) ∧ cvM (tB A) (tS A) s (bN (tB A)) = cvM (tB A) (tS A) all (bN (tB A))) → ∀ y : Int32, y = nI s + 1 → K (nI (cbF (tB A) (tS A) all s), y, h') := by
            intro z y ey
            rw [nI_1] at ey; subst ey
            refine hK _ ?_
            conv => rhs; unfold cbF
            rw [if_neg z]
          unfold DB_SR_cover_90
          refine ⟨fun z => absurd ((nI_leI (by omega) (by omega)).mp z) (by omega), fun _ => ?_⟩
          refine P_bitCount hs64 (P_bitCount hb64 ⟨fun y => ?_, fun y => ?_⟩)
          · have y' := (nI_leI (by omega) (by omega)).mp y
            unfold DJ_SR_cover_114
            rw [d1.1]
            exact ⟨fun z => keep (fun w => z (by rw [w.1]; rfl)), fun z => ⟨fun _ => keep (fun w => by omega), fun z => absurd rfl z⟩⟩
          · have y' : ¬ popc (cbF (tB A) (tS A) all s) ≤ popc s := fun z => y (nI_le z (by omega))
            unfold DJ_SR_cover_114
            rw [d1.1]
            refine ⟨fun z => keep (fun w => z (by rw [w.1]; rfl)), fun z => ⟨fun w => absurd w z01, fun _ => ?_⟩⟩
            have dz : dfM s all = 0 := (nI_eq (b := 0) (by omega) (by omega)).mp z
            refine P_coveredBy (S := tS A) r1 r9 O'.2.2.1 hB g' hs64 ⟨fun y2 => keep (fun w => y2 (by rw [w.2.2, cmp0])), fun y2 x45 e45 => ?_⟩
            have ce := (pk_lEQ (Nat.lt_trans (cvM_lt _) (by decide)) (Nat.lt_trans (cvM_lt _) (by decide))).mp (cmp0.mp y2)
            rw [nI_1] at e45; subst e45
            refine hK _ ?_
            conv => rhs; unfold cbF
            rw [if_pos ⟨dz, by omega, ce⟩]
        · rintro t K rfl
          unfold DB_SR_cover_90
          refine ⟨fun _ => ⟨fun n0 => ans _ ?_ h' C', fun e0 => P_bitCount (cb64 all (Nat.le_refl _)) (ans _ (by rw [if_pos e0]) h' C')⟩, fun z => absurd (Int32.le_refl _) z⟩
          have e1 : a1 = 1 := by
            obtain ⟨k, -, hk, ek⟩ := wi_nI (x := 0) (y := 2) (by omega) z w (by omega)
            have : k = 0 ∨ k = 1 ∨ k = 2 := by omega
            rcases this with e | e | e
            · exact absurd (show a1 = 0 by rw [ek, e]; rfl) n0
            · rw [ek, e]; rfl
            · exact absurd (show a1 = 2 by rw [ek, e]; rfl) n2
          rw [if_neg n0, if_pos e1]
      · refine P_JLbitCount (cvM_lt _) ?_
        rw [cvM_cnt]
        exact ans _ (by rw [e2]; rfl) h' C'
  · unfold D_Mo_cover
    exact P_in0 z ⟨fun q => absurd rfl q, fun _ => hQ _ _ C⟩
