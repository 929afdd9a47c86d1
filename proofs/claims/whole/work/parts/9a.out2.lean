/-! out: the reference's side, both sides -/
theorem nthF_z {p : Nat → Bool} {i : Int32} {s f : Nat} : nthF p i 0 s f = if i = -1 then nI f else -1 := rfl
theorem RowOK.pan {f g : Nat → Int32} {n st : Nat} {S : Sc} (hn : n ≤ 6) (hP : sP S < 64) (hst : st < 64) (e : ∀ x, x < 512 → g x = if 24 ≤ x ∧ x < 24 + n ∧ st.testBit (x - 24) = true then 0 else f x) (h : RowOK f n (-1) S) : RowOK g n (-1) (pnoS st S) := by
  obtain ⟨h1, h2, h3, h4⟩ := h
  have o : ∀ x, x < 512 → (x < 24 ∨ 24 + n ≤ x) → g x = f x := fun x a b => by rw [e x a, if_neg (by omega)]
  refine ⟨?_, ?_, fun k hk => ?_, fun c hc d hd => ?_⟩
  · rw [o 30 (by omega) (by omega)]; exact h1
  · rw [o 31 (by omega) (by omega)]; exact h2
  · obtain ⟨a1, a2, a3, a4, a5⟩ := h3 k hk
    refine ⟨?_, ?_, ?_, a4, fun z => ?_⟩
    · rw [o k (by omega) (by omega)]; exact a1
    · rw [o (6 + k) (by omega) (by omega)]; exact a2
    · rw [e (24 + k) (by omega), show 24 + k - 24 = k by omega]
      show _ = if (dfM (sP S) st).testBit k = true then 1 else 0
      rw [df_bit hP hst (by omega)]
      cases hs : st.testBit k with
      | true => rw [if_pos ⟨by omega, by omega, rfl⟩, Bool.not_true, Bool.and_false]; rfl
      | false => rw [if_neg (by simp), Bool.not_false, Bool.and_true]; exact a3
    · rw [o (12 + k) (by omega) (by omega), o (18 + k) (by omega) (by omega)]; exact a5 z
  · rw [o _ (by omega) (by omega), o _ (by omega) (by omega)]; exact h4 c hc d hd
theorem P_fillsEast {r : TR} {m L T n st : Nat} {h : TH} {A : St} {Q : TH → Prop} (hM : RMo r m) (hA : AI T A) (hm : AM h m L A) (hn : n ≤ 24) (hst : st < 64) (hQ : ∀ h', Qm m h h' → MBay h' m L (-1) (tB A) → (∀ k, k < bN (tB A) → h'.1 (m + 38) (6 * st + k) = farI (outS (tB A) (tS A) n st) k) → (∀ j, (j < 6 * st ∨ 6 * st + 6 ≤ j) → h'.1 (m + 38) j = h.1 (m + 38) j) → Q h') : D_Mo_fillsEast r m (nI st) (nI n) h Q := by
  have hB := hA.1
  have hn6 := hB.2.2.1
  have hT := hA.2.2.2.2.2.2.2.2
  have r49 : r m 49 = m + 32 := hM 49 (by decide) (by decide)
  have r25 : r m 25 = m + 12 := hM 25 (by decide) (by decide)
  have r59 : r m 59 = m + 38 := hM 59 (by decide) (by decide)
  have SI0 := pnoS_I hB hst hA.2.1
  have In := outS_I (n := n) hB hst (by omega) hA.2.1
  unfold D_Mo_fillsEast
  have o := hm.bay
  refine P_copies hM o.1 o.2.1 o.2.2.2.2.2.2.2.1 (fun h4 f4 k4 e50 e51 e52 ro => ?_)
  have q4 : Qm m h h4 := ⟨f4.mono (fun a ha => by unfold FCp at ha; unfold FQ; omega), fun j _ x y z => k4 j x y z⟩
  have n4 : h4.1 (m + 38) = h.1 (m + 38) := (f4 _ (by unfold FCp; omega)).1
  have O4 : MBay h4 m L (-1) (tB A) := by
    refine hm.1.mv (fun x p q => ?_) ?_ e52
    · rw [pI_o _ _ _ _ (by omega)]; exact (f4 x (by unfold FCp; omega)).1
    · rw [pI_n _ _ _ _ (by omega)]; exact k4 18 (by omega) (by omega) (by omega)
  have R4 : RowOK (h4.1 (m + 32)) (bN (tB A)) (-1) (tS A) := RowOK.cg hn6 ro hm.2.1
  have hL := O4.2.1
  refine lp_for (bN (tB A)) (fun j t => ∃ h', t = (nI j, h') ∧ Fr (fun a => a = m + 32) h4 h' ∧ ∀ x, x < 512 → h'.1 (m + 32) x = if 24 ≤ x ∧ x < 24 + j ∧ st.testBit (x - 24) = true then 0 else h4.1 (m + 32) x) ?_ ?_ _ ⟨h4, rfl, Fr.rf, fun x _ => by rw [if_neg (by omega)]⟩
  · rintro j t K hj ⟨h', rfl, f', g'⟩ hK
    unfold DB_Mo_fillsEast_6
    intro i5 e5
    rw [(f' m (by omega)).1, O4.1] at e5
    subst e5
    rw [r25, r49, (f' (m + 12) (by omega)).1, nI_clamp (n := L) (by omega), O4.2.2.2.2.2.1]
    refine ⟨vp_in_nI hL (by omega), fun z => absurd ((nI_leI (by omega) (by omega)).mp z) (by omega), fun _ => ⟨fun y x8 e8 => ?_, fun y => ?_⟩⟩
    · rw [nI_1] at e8; subst e8
      have hb : st.testBit j = false := bf_of (fun z => y ((bt_1 hst (by omega)).mpr z))
      refine hK _ ⟨h', rfl, f', fun x hx => ?_⟩
      rw [g' x hx]
      by_cases c : 24 ≤ x ∧ x < 24 + j ∧ st.testBit (x - 24) = true
      · rw [if_pos c, if_pos ⟨c.1, by omega, c.2.2⟩]
      · rw [if_neg c, if_neg]
        intro w
        rcases Nat.lt_or_ge x (24 + j) with u | u
        · exact c ⟨w.1, u, w.2.2⟩
        · have : x - 24 = j := by omega
          rw [this, hb] at w
          exact absurd w.2.2 (by decide)
    · have hb := (bt_1 hst (by omega)).mp y
      have e24 : (24 : Int32) + nI j = nI (24 + j) := nI_add 24 j
      rw [e24, nI_clamp (n := 24 + j) (by omega)]
      refine ⟨vp_in_nI (by omega) (by omega), fun h10 e10 x11 e11 => ?_⟩
      rw [nI_1] at e11; subst e11
      refine hK _ ⟨h10, rfl, f'.tr (by rw [e10]; exact Fr.pI rfl), fun x hx => ?_⟩
      rw [e10]
      by_cases ex : x = 24 + j
      · subst ex
        rw [pI_s, if_pos ⟨by omega, by omega, by rw [show 24 + j - 24 = j by omega]; exact hb⟩]
      · rw [pI_n _ _ _ _ (by omega), g' x hx]
        by_cases c : 24 ≤ x ∧ x < 24 + j ∧ st.testBit (x - 24) = true
        · rw [if_pos c, if_pos ⟨c.1, by omega, c.2.2⟩]
        · rw [if_neg c, if_neg]
          intro w
          exact c ⟨w.1, by omega, w.2.2⟩
  · rintro t K ⟨h5, rfl, f5, g5⟩
    have O5 : MBay h5 m L (-1) (tB A) := O4.mv (fun x a b => (f5 x (by omega)).1) (by rw [(f5 m (by omega)).1]) (by rw [(f5 m (by omega)).1]; exact e52)
    have R5 : RowOK (h5.1 (m + 32)) (bN (tB A)) (-1) (pnoS st (tS A)) := R4.pan hn6 hA.2.1.1.2.1 hst g5
    have q5 : Qm m h4 h5 := Qm.fr f5 (fun a ha => ⟨by unfold FQ; omega, by omega⟩)
    have n5 : h5.1 (m + 38) = h.1 (m + 38) := by rw [(f5 _ (by omega)).1]; exact n4
    unfold DB_Mo_fillsEast_6
    intro i5 e5
    rw [O5.1] at e5
    subst e5
    rw [r25, nI_clamp (n := L) (by omega), O5.2.2.2.2.2.1]
    refine ⟨vp_in_nI hL (by omega), fun _ => ?_, fun z => absurd (Int32.le_refl _) z⟩
    refine P_goes (seed := nI (bSe (tB A))) hM O5 hB rfl R5 (by rw [(f5 m (by omega)).1]; exact e51) (by rw [(f5 m (by omega)).1, e50]; rfl) SI0.1 SI0.2.1 (by have := SI0.2.2.2.1; omega) (by omega) (fun h6 k6 R6 => ?_)
    have O6 := O5.mk k6
    have n6 : h6.1 (m + 38) = h.1 (m + 38) := by rw [k6.at (by unfold FMs; omega)]; exact n5
    replace R6 : RowOK (h6.1 (m + 32)) (bN (tB A)) (-1) (outS (tB A) (tS A) n st) := R6
    refine lp_for (bN (tB A)) (fun j t => ∃ h2, t = (nI j, h2) ∧ Fr (fun a => a = m + 38) h6 h2 ∧ (∀ k, k < j → h2.1 (m + 38) (6 * st + k) = farI (outS (tB A) (tS A) n st) k) ∧ ∀ i, (i < 6 * st ∨ 6 * st + 6 ≤ i) → h2.1 (m + 38) i = h.1 (m + 38) i) ?_ ?_ _ ⟨h6, rfl, Fr.rf, fun k hk => by omega, fun i _ => by rw [n6]⟩
    · rintro j t K hj ⟨h2, rfl, f2, g2, k2⟩ hK
      have nk := nI_nm (k := j) (by omega)
      have R2 : RowOK (h2.1 (m + 32)) (bN (tB A)) (-1) (outS (tB A) (tS A) n st) := by rw [(f2 _ (by omega)).1]; exact R6
      have ei : (6 : Int32) * nI st + nI j = nI (6 * st + j) := by show nI 6 * nI st + nI j = _; rw [pk_mul, nI_add]
      have fin : ∀ (v : Int32), v = farI (outS (tB A) (tS A) n st) j → ∀ (h3 : TH), h3 = pI h2 (m + 38) (6 * st + j) v → ∀ y : Int32, y = nI j + 1 → K (y, h3) := by
        intro v ev h3 e3 y ey
        rw [nI_1] at ey; subst ey
        refine hK _ ⟨h3, rfl, f2.tr (by rw [e3]; exact Fr.pI rfl), fun k hk => ?_, fun i hi => ?_⟩
        · rw [e3]
          by_cases e : k = j
          · subst e; rw [pI_s, ev]
          · rw [pI_n _ _ _ _ (by omega)]; exact g2 k (by omega)
        · rw [e3, pI_n _ _ _ _ (by omega)]; exact k2 i hi
      unfold farI at fin
      unfold DB_Mo_fillsEast_51
      intro i19 e19
      rw [(f2 m (by omega)).1, O6.1] at e19
      subst e19
      rw [r25, r49, r59, (f2 (m + 12) (by omega)).1, nI_clamp (n := L) (by omega), O6.2.2.2.2.2.1, ei, nI_clamp (n := 6 * st + j) (by omega)]
      refine ⟨vp_in_nI hL (by omega), fun z => absurd ((nI_leI (by omega) (by omega)).mp z) (by omega), fun _ => ?_⟩
      refine P_MoisLost hM R2 hn6 hj nk (fun z => ⟨fun y => absurd y z01, fun _ => ⟨vp_in_nI (by omega) (by omega), fin (-1) ?_⟩⟩) (fun z => ⟨fun _ i26 e26 => ?_, fun y => absurd rfl y⟩)
      · cases ho : (sO (outS (tB A) (tS A) n st)).testBit j with
        | true => rw [(In.2.1 j hj ho).2.2] at z; exact absurd z (by decide)
        | false => rw [if_neg (by decide), if_pos z]
      · have e' : i26 = nI (12 + j) := by rw [e26]; exact nI_add 12 j
        subst e'
        rw [nI_clamp (n := 12 + j) (by omega), nI_clamp (n := j) (by omega), ((R2.2.2.1 j hj).2.2.2.2 nk).1, (R2.2.2.1 j hj).1]
        refine ⟨vp_in_nI (by omega) (by omega), fun y => ⟨vp_in_nI (by omega) (by omega), vp_in_nI (by omega) (by omega), fin _ ?_⟩, fun y => ⟨vp_in_nI (by omega) (by omega), fin _ ?_⟩⟩
        · cases ho : (sO (outS (tB A) (tS A) n st)).testBit j with
          | true => rw [ho] at y; have := In.2.1 j hj ho; exact absurd y (nI_nle (by omega) (by omega))
          | false => rw [if_neg (by decide), if_neg (by rw [z]; decide)]
        · cases ho : (sO (outS (tB A) (tS A) n st)).testBit j with
          | true => rw [if_pos rfl]
          | false => rw [ho] at y; exact absurd (Int32.le_refl _) y
    · rintro t K ⟨h2, rfl, f2, g2, k2⟩
      have O2 : MBay h2 m L (-1) (tB A) := O6.mv (fun x a b => (f2 x (by omega)).1) (by rw [(f2 m (by omega)).1]) (by rw [(f2 m (by omega)).1]; exact O6.2.2.1)
      unfold DB_Mo_fillsEast_51
      intro i19 e19
      rw [O2.1] at e19
      subst e19
      rw [r25, nI_clamp (n := L) (by omega), O2.2.2.2.2.2.1]
      refine ⟨vp_in_nI hL (by omega), fun _ => hQ h2 (((q4.tr q5).tr (Qm.mk k6)).tr (Qm.fr f2 (fun a ha => ⟨by unfold FQ; omega, by omega⟩))) O2 g2 k2, fun z => absurd (Int32.le_refl _) z⟩
theorem P_isResting {r : TR} {m L T n st : Nat} {rk : Int32} {h : TH} {A : St} {Q : Int32 → TH → Prop} (hM : RMo r m) (hA : AI T A) (hO : MBay h m L rk (tB A)) (hst : st < 64) (hd : dfM st (sP (tS A)) = 0) (hg : ∀ i, i < 64 → dfM i (sP (tS A)) = 0 → ∀ k, k < bN (tB A) → h.1 (m + 38) (6 * i + k) = farI (outS (tB A) (tS A) n i) k) (h1 : restP (tB A) (tS A) n st = true → Q 1 h) (h0 : restP (tB A) (tS A) n st = false → Q 0 h) : D_Mo_isResting r m (nI st) (nI (sP (tS A))) h Q := by
  have hB := hA.1
  have hn6 := hB.2.2.1
  have hP := hA.2.1.1.2.1
  have hL := hO.2.1
  have r25 : r m 25 = m + 12 := hM 25 (by decide) (by decide)
  have r59 : r m 59 = m + 38 := hM 59 (by decide) (by decide)
  unfold D_Mo_isResting
  refine lp_for (bN (tB A)) (fun j t => t = (nI j, h) ∧ exF (unrest (tB A) (tS A) n st) j = false) ?_ ?_ _ ⟨rfl, rfl⟩
  · rintro j t K hj ⟨rfl, ex⟩ hK
    have nx : unrest (tB A) (tS A) n st j = false → ∀ y : Int32, y = nI j + 1 → K (y, h) := by
      intro z y ey
      rw [nI_1] at ey; subst ey
      refine hK _ ⟨rfl, ?_⟩
      show (exF (unrest (tB A) (tS A) n st) j || unrest (tB A) (tS A) n st j) = false
      rw [ex, z]; rfl
    unfold DB_Mo_isResting_2
    intro i3 e3
    rw [hO.1] at e3
    subst e3
    rw [r25, r59, nI_clamp (n := L) (by omega), hO.2.2.2.2.2.1]
    refine ⟨vp_in_nI hL (by omega), fun z => absurd ((nI_leI (by omega) (by omega)).mp z) (by omega), fun _ => ⟨fun y => nx ?_, fun y => ?_⟩⟩
    · unfold unrest
      have : (sP (tS A)).testBit j = false := bf_of (fun z => y ((bt_1 hP (by omega)).mpr z))
      rw [this]; rfl
    · have hb := (bt_1 hP (by omega)).mp y
      have x1 := xr1 ⟨st, hst⟩ ⟨j, by omega⟩
      simp only [] at x1
      have x2 := xr2 ⟨st, hst⟩ ⟨_, hP⟩ ⟨j, by omega⟩ hd hb
      simp only [] at x2
      rw [x1.1]
      intro i8 e8
      have e8' : i8 = nI (6 * xrS st j + j) := by rw [e8]; show nI 6 * nI (xrS st j) + nI j = _; rw [pk_mul, nI_add]
      subst e8'
      refine ⟨vp_in_nI (by omega) (by omega), fun i10 e10 => ?_⟩
      have e10' : i10 = nI (6 * st + j) := by rw [e10]; show nI 6 * nI st + nI j = _; rw [pk_mul, nI_add]
      subst e10'
      rw [nI_clamp (n := 6 * xrS st j + j) (by omega), nI_clamp (n := 6 * st + j) (by omega), hg _ x1.2 x2 j hj, hg st hst hd j hj]
      refine ⟨vp_in_nI (by omega) (by omega), fun z => nx ?_, fun z => h0 ?_⟩
      · unfold unrest; rw [decide_eq_false (fun w => w z), Bool.and_false]
      · unfold restP
        have : unrest (tB A) (tS A) n st j = true := by unfold unrest; rw [hb, decide_eq_true z]; rfl
        rw [exF_t this _ hj, Bool.not_true, Bool.and_false]
  · rintro t K ⟨rfl, ex⟩
    unfold DB_Mo_isResting_2
    intro i3 e3
    rw [hO.1] at e3
    subst e3
    rw [r25, nI_clamp (n := L) (by omega), hO.2.2.2.2.2.1]
    refine ⟨vp_in_nI hL (by omega), fun _ => h1 ?_, fun z => absurd (Int32.le_refl _) z⟩
    unfold restP
    rw [decide_eq_true hd, ex]; rfl
theorem J_out {r : TR} {q b d m L T : Nat} {h : TH} {A : St} {a1 a2 : Int32} {Q : Int32 → Int32 → TH → Prop} (C : Cx r q b d m L T h A) (hQ : ∀ x h', Cx r q b d m L T h' A → Q x x h') : D_SR_out r q a1 a2 h (fun x h1 => D_Mo_out r m a1 a2 h1 (fun y h2 => Q x y h2)) := by
  have hB := C.2.2.2.1.1
  have hn := hB.2.2.1
  obtain ⟨hR, hM, hqm, hA, hx, hm⟩ := id C
  obtain ⟨⟨r0, r1, r2, r3, r4, r5, r7, r8, r9⟩, -, ⟨s1, s2, s3⟩, -, -, -, ⟨o0, o1⟩, rb, -, ap⟩ := id hR
  have hb : q + 3 ≤ b ∧ b + 23 ≤ q + 52 := by rcases ap with x | x <;> omega
  have hP := hA.2.1.1.2.1
  unfold D_SR_out
  refine P_within (fun z w => ⟨fun y => absurd y z01, fun _ => ?_⟩) (fun z => ⟨fun _ => ?_, fun y => absurd rfl y⟩)
  · obtain ⟨n, hn1, hn24, rfl⟩ := wi_nI (x := 1) (y := 24) (by omega) z w (by omega)
    refine ⟨fun g => ?_, fun g => ?_⟩
    · rw [r1, r2, r8]
      have mo : ∀ h1, Cx r q b d m L T h1 A → D_Mo_out r m (nI n) a2 h1 (fun y h2 => Q (nthF (restP (tB A) (tS A) n) a2 64 0 0) y h2) := by
        intro h1 C1
        unfold D_Mo_out
        refine P_in1 z w ⟨fun y => absurd y z01, fun _ => ⟨fun _ => ?_, fun y => absurd g y⟩⟩
        refine P_pansOn hM C1.2.2.2.2.2.bay (rockB_B hB) C1.2.2.2.2.2.2.1 ?_
        rw [show setF (fun k => (sP (tS A)).testBit k) (bN (rockB (h1.1 m 52) (tB A))) = sP (tS A) from SI.pans (B := tB A) hB hA.2.1]
        refine lp_for 64 (fun s t => ∃ h', t = (nI s, h') ∧ Qm m h1 h' ∧ (1 ≤ s → MBay h' m L (-1) (tB A)) ∧ ∀ i, i < s → dfM i (sP (tS A)) = 0 → ∀ k, k < bN (tB A) → h'.1 (m + 38) (6 * i + k) = farI (outS (tB A) (tS A) n i) k) ?_ ?_ _ ⟨h1, rfl, Qm.rf, fun z => by omega, fun i hi => by omega⟩
        · rintro s t K hs ⟨h', rfl, q', O', g'⟩ hK
          unfold DB_Mo_out_25
          rw [df_i hs hP]
          have dl := df_lt (b := sP (tS A)) hs
          refine ⟨fun z => absurd ((nI_leI (a := 64) (by omega) (by omega)).mp z) (by omega), fun _ => ⟨fun y x11 e11 => ?_, fun y => ?_⟩⟩
          · rw [nI_1] at e11; subst e11
            have s0 : ¬ s = 0 := fun e => y (by rw [e]; unfold dfM; rw [Nat.zero_and]; rfl)
            refine hK _ ⟨h', rfl, q', fun _ => O' (by omega), fun i hi hd => ?_⟩
            rcases Nat.lt_or_ge i s with u | u
            · exact g' i u hd
            · have : i = s := by omega
              subst this
              exact absurd (by rw [hd]; rfl) y
          · refine P_fillsEast hM hA (C1.m q').2.2.2.2.2 (by omega) hs (fun h8 q8 O8 g8 k8 x14 e14 => ?_)
            rw [nI_1] at e14; subst e14
            refine hK _ ⟨h8, rfl, q'.tr q8, fun _ => O8, fun i hi hd k hk => ?_⟩
            rcases Nat.lt_or_ge i s with u | u
            · rw [k8 _ (by omega)]; exact g' i u hd k hk
            · have : i = s := by omega
              subst this
              exact g8 k hk
        · rintro t K ⟨h', rfl, q', O', g'⟩
          have O5 := O' (by omega)
          unfold DB_Mo_out_25
          refine ⟨fun _ => ?_, fun z => absurd (show (64 : Int32) ≤ nI 64 from Int32.le_refl _) z⟩
          refine lp_for 64 (fun s t => ∃ f, t = (nI f, nI s, h') ∧ nthF (restP (tB A) (tS A) n) a2 64 0 0 = nthF (restP (tB A) (tS A) n) a2 (64 - s) s f) ?_ ?_ _ ⟨0, rfl, rfl⟩
          · rintro s t K hs ⟨f, rfl, es⟩ hK
            rw [show 64 - s = (64 - (s + 1)) + 1 by omega] at es
            unfold DB_Mo_out_60
            rw [df_i hs hP]
            have dl := df_lt (b := sP (tS A)) hs
            refine ⟨fun z => absurd ((nI_leI (a := 64) (by omega) (by omega)).mp z) (by omega), fun _ => ⟨fun y x22 e22 => ?_, fun y => ?_⟩⟩
            · rw [nI_1] at e22; subst e22
              refine hK _ ⟨f, rfl, ?_⟩
              rw [es, nthF_no]
              unfold restP
              rw [decide_eq_false (fun e => y (by rw [e]; rfl))]; rfl
            · have dz : dfM s (sP (tS A)) = 0 := (nI_eq (b := 0) (by omega) (by omega)).mp y
              refine P_isResting hM hA O5 hs dz g' (fun z => ⟨fun _ => ⟨fun y2 x27 e27 x28 e28 => ?_, fun y2 => ?_⟩, fun u => absurd u z01⟩) (fun z => ⟨fun u => absurd rfl u, fun _ x29 e29 => ?_⟩)
              · rw [nI_1] at e27 e28; subst e27; subst e28
                exact hK _ ⟨f + 1, rfl, by rw [es, nthF_on z y2]⟩
              · rw [es, nthF_hit z y2]
                exact hQ _ _ (C1.m q')
              · rw [nI_1] at e29; subst e29
                exact hK _ ⟨f, rfl, by rw [es, nthF_no z]⟩
          · rintro t K ⟨f, rfl, es⟩
            rw [Nat.sub_self] at es
            rw [nthF_z] at es
            unfold DB_Mo_out_60
            refine ⟨fun _ => ⟨fun y => ?_, fun y => ?_⟩, fun z => absurd (show (64 : Int32) ≤ nI 64 from Int32.le_refl _) z⟩
            · rw [if_neg y] at es; rw [es]; exact hQ _ _ (C1.m q')
            · rw [if_pos y] at es; rw [es]; exact hQ _ _ (C1.m q')
      have eN : nthF (restP (tB A) (tS A) n) a2 64 0 0 = nthF (restP (tB A) (tS A) n) a2 (sP (tS A) + 1) 0 0 := by
        rw [show 64 = (sP (tS A) + 1) + (63 - sP (tS A)) by omega]
        refine nthF_tail _ _ _ (fun j a b => ?_)
        unfold restP
        rw [decide_eq_false]
        · rfl
        · intro e
          have := sub_le ⟨j, by omega⟩ ⟨_, hP⟩ e
          simp only [] at this
          omega
      unfold D_Outs_nthRest
      refine lp_for (sP (tS A) + 1) (fun s t => ∃ h', t = (nI s, h') ∧ Fr (fun a => FBa b a ∨ (q + 189 ≤ a ∧ a < q + 194)) h h' ∧ BScr b h h' ∧ ∀ i, i < s → dfM i (sP (tS A)) = 0 → ∀ k, k < bN (tB A) → h'.1 (q + 189) (6 * i + k) = farI (outS (tB A) (tS A) n i) k) ?_ ?_ _ ⟨h, rfl, Fr.rf, BScr.rf, fun i hi => by omega⟩
      · rintro s t K hs ⟨h', rfl, f', t', g'⟩ hK
        have fx : Fr (FX q b) h h' := f'.mono (fun a ha => by unfold FX; rcases ha with z | z; exact Or.inl z; exact Or.inr (by omega))
        have C' := C.x fx t'
        unfold DB_Outs_nthRest_3
        rw [C'.2.2.2.2.1.2.2.2.1.2.1, df_i (by omega) hP]
        have dl := df_lt (a := s) (b := sP (tS A)) (by omega)
        refine ⟨fun z => absurd ((nI_ltI (by omega) (by omega)).mp z) (by omega), fun _ => ⟨fun y x4 e4 => ?_, fun y => ?_⟩⟩
        · rw [nI_1] at e4; subst e4
          refine hK _ ⟨h', rfl, f', t', fun i hi hd => ?_⟩
          rcases Nat.lt_or_ge i s with u | u
          · exact g' i u hd
          · have : i = s := by omega
            subst this
            exact absurd (by rw [hd]; rfl) y
        · refine P_sail hR hA C'.2.2.2.2.1 (by omega) (by omega) (fun h8 f8 t8 g8 k8 x7 e7 => ?_)
          rw [nI_1] at e7; subst e7
          refine hK _ ⟨h8, rfl, f'.tr f8, t'.tr t8, fun i hi hd k hk => ?_⟩
          rcases Nat.lt_or_ge i s with u | u
          · rw [k8 _ (by omega)]; exact g' i u hd k hk
          · have : i = s := by omega
            subst this
            exact g8 k hk
      · rintro t K ⟨h', rfl, f', t', g'⟩
        have fx : Fr (FX q b) h h' := f'.mono (fun a ha => by unfold FX; rcases ha with z | z; exact Or.inl z; exact Or.inr (by omega))
        have C' := C.x fx t'
        have g6 : ∀ i, i < 64 → dfM i (sP (tS A)) = 0 → ∀ k, k < bN (tB A) → h'.1 (q + 189) (6 * i + k) = farI (outS (tB A) (tS A) n i) k := by
          intro i hi hd
          have := sub_le ⟨i, hi⟩ ⟨_, hP⟩ hd
          simp only [] at this
          exact g' i (by omega) hd
        have mo' := mo h' C'
        rw [eN] at mo'
        unfold DB_Outs_nthRest_3
        rw [C'.2.2.2.2.1.2.2.2.1.2.1]
        refine ⟨fun _ => ?_, fun z => absurd (nI_lt (a := sP (tS A)) (by omega) (by omega)) z⟩
        refine lp_for (sP (tS A) + 1) (fun s t => ∃ f, t = (nI f, nI s, h') ∧ nthF (restP (tB A) (tS A) n) a2 (sP (tS A) + 1) 0 0 = nthF (restP (tB A) (tS A) n) a2 (sP (tS A) + 1 - s) s f) ?_ ?_ _ ⟨0, rfl, rfl⟩
        · rintro s t K hs ⟨f, rfl, es⟩ hK
          rw [show sP (tS A) + 1 - s = (sP (tS A) + 1 - (s + 1)) + 1 by omega] at es
          unfold DB_Outs_nthRest_45
          rw [C'.2.2.2.2.1.2.2.2.1.2.1, df_i (by omega) hP]
          have dl := df_lt (a := s) (b := sP (tS A)) (by omega)
          refine ⟨fun z => absurd ((nI_ltI (by omega) (by omega)).mp z) (by omega), fun _ => ⟨fun y x22 e22 => ?_, fun y => ?_⟩⟩
          · rw [nI_1] at e22; subst e22
            refine hK _ ⟨f, rfl, ?_⟩
            rw [es, nthF_no]
            unfold restP
            rw [decide_eq_false (fun e => y (by rw [e]; rfl))]; rfl
          · have dz : dfM s (sP (tS A)) = 0 := (nI_eq (b := 0) (by omega) (by omega)).mp y
            refine P_isRest o0 hA (by omega) dz g6 (fun z => ⟨fun u => absurd u z01, fun _ => ⟨fun y2 x27 e27 x28 e28 => ?_, fun y2 => ?_⟩⟩) (fun z => ⟨fun _ x29 e29 => ?_, fun u => absurd rfl u⟩)
            · rw [nI_1] at e27 e28; subst e27; subst e28
              exact hK _ ⟨f + 1, rfl, by rw [es, nthF_on z y2]⟩
            · rw [es, nthF_hit z y2] at mo'
              exact mo'
            · rw [nI_1] at e29; subst e29
              exact hK _ ⟨f, rfl, by rw [es, nthF_no z]⟩
        · rintro t K ⟨f, rfl, es⟩
          rw [Nat.sub_self] at es
          rw [nthF_z] at es
          unfold DB_Outs_nthRest_45
          rw [C'.2.2.2.2.1.2.2.2.1.2.1]
          refine ⟨fun _ => ⟨fun y => ?_, fun y => ?_⟩, fun z => absurd (nI_lt (a := sP (tS A)) (by omega) (by omega)) z⟩
          · rw [if_neg y] at es
            rw [es] at mo'
            exact mo'
          · rw [if_pos y] at es
            rw [es] at mo'
            exact mo'
    · unfold D_Mo_out
      exact P_in1 z w ⟨fun y => absurd y z01, fun _ => ⟨fun y => absurd y g, fun _ => hQ _ _ C⟩⟩
  · unfold D_Mo_out
    exact P_in0 z ⟨fun _ => hQ _ _ C, fun y => absurd rfl y⟩
