/-! how far it is to a mark: the reference's side, and both -/
theorem P_farAt {r : TR} {h : TH} {m L c w : Nat} {rk : Int32} {B : By} {Q : Int32 → TH → Prop} (hr : RMo r m) (hO : MBay h m L rk B) (hB : ByB B) (hc : c < 40) (h1 : ∀ d, besF (bW B) (bH B) c w = some d → Q (h.1 (m + 35) d) h) (h0 : besF (bW B) (bH B) c w = none → Q (-1) h) : D_Mo_farAt r m (nI (c % 8) + eI w) (nI (c / 8) + soI w) h Q := by
  have r56 : r m 56 = m + 35 := hr 56 (by decide) (by decide)
  unfold D_Mo_farAt
  refine P_stepM hr hO hB hc (fun d hb ex ey => ⟨fun z => absurd z z01, fun _ i e => ?_⟩) (fun hb => ⟨fun _ => h0 hb, fun z => absurd rfl z⟩)
  have hd := besF_lt hB.1 hB.2.1 hb
  have e' : i = nI d := by
    rw [e, ex, ey, show (8 : Int32) * nI (d / 8) = nI (8 * (d / 8)) from pk_mul 8 _, nI_add]
    congr 1; omega
  rw [e', r56, nI_clamp (n := d) (by omega)]
  exact ⟨vp_in_nI hd.1 (by omega), h1 d hb⟩
/-- farAt a cell of the bay itself -/
theorem P_farAt0 {r : TR} {h : TH} {m L c : Nat} {rk : Int32} {B : By} {Q : Int32 → TH → Prop} (hr : RMo r m) (hO : MBay h m L rk B) (hB : ByB B) (hc : c < 40) (hw : c % 8 < bW B) (hh : c / 8 < bH B) (h1 : Q (h.1 (m + 35) c) h) : D_Mo_farAt r m (nI (c % 8)) (nI (c / 8)) h Q := by
  have r56 : r m 56 = m + 35 := hr 56 (by decide) (by decide)
  unfold D_Mo_farAt
  refine P_isCell hr hO hB (by omega) (by omega) (fun _ _ => ⟨fun z => absurd z z01, fun _ i e => ?_⟩) (fun z => absurd ⟨hw, hh⟩ z)
  have e' : i = nI c := by
    rw [e, show (8 : Int32) * nI (c / 8) = nI (8 * (c / 8)) from pk_mul 8 _, nI_add]
    congr 1; omega
  rw [e', r56, nI_clamp (n := c) (by omega)]
  exact ⟨vp_in_nI hc (by omega), h1⟩
theorem P_isNextTo {r : TR} {h : TH} {m L c : Nat} {rk x : Int32} {B : By} {Q : Int32 → TH → Prop} (hr : RMo r m) (hO : MBay h m L rk B) (hB : ByB B) (hc : c < 40) (hx : ¬ x < 0) (h1 : ¬ firstW (toV B (h.1 (m + 35)) x c) = -1 → Q 1 h) (h0 : firstW (toV B (h.1 (m + 35)) x c) = -1 → Q 0 h) : D_Mo_isNextTo r m (nI (c % 8)) (nI (c / 8)) x h Q := by
  unfold D_Mo_isNextTo
  refine lp_for 4 (fun j t => t = (nI (1 + j), h) ∧ ∀ i, 1 ≤ i → i < 1 + j → toV B (h.1 (m + 35)) x c i = false) ?_ ?_ _ ⟨rfl, fun i _ _ => by omega⟩
  · rintro j t K hj ⟨rfl, hz⟩ hK
    have st : toV B (h.1 (m + 35)) x c (1 + j) = false → ∀ y : Int32, y = nI (1 + j) + 1 → K (y, h) := by
      intro z y e
      rw [nI_1] at e; subst e
      refine hK _ ⟨rfl, fun i h1 h2 => ?_⟩
      by_cases e : i = 1 + j
      · rw [e]; exact z
      · exact hz i h1 (by omega)
    unfold DB_Mo_isNextTo_3
    refine ⟨fun q => absurd ((nI_ltI (a := 4) (by omega) (by omega)).mp q) (by omega), fun _ => ?_⟩
    refine P_eastBy (by omega) (P_southBy (by omega) ?_)
    refine P_farAt hr hO hB hc (fun d hb => ⟨fun z => st ?_, fun z => h1 ?_⟩) (fun hb => ⟨fun z => st ?_, fun z => absurd (show x < 0 by rw [← z]; decide) hx⟩)
    · unfold toV; rw [hb]; exact decide_eq_false z
    · rw [firstW_at (j := 1 + j) (by omega) (by omega) (by unfold toV; rw [hb]; exact decide_eq_true z) hz]
      exact nI_nm1 (by omega)
    · unfold toV; rw [hb]
  · rintro t K ⟨rfl, hz⟩
    unfold DB_Mo_isNextTo_3
    exact ⟨fun _ => h0 (firstW_no (fun i a b => hz i a (by omega))), fun q => absurd (nI_lt (a := 4) (by omega) (by omega)) q⟩
theorem P_fillsFar {r : TR} {h : TH} {m L : Nat} {rk : Int32} {B : By} {Q : TH → Prop} (hr : RMo r m) (hO : MBay h m L rk B) (hB : ByB B) (hQ : ∀ h', Fr (fun a => a = m + 35) h h' → (∀ c, c < 40 → h'.1 (m + 35) c = optI (farF B c)) → Q h') : D_Mo_fillsFar r m h Q := by
  have r56 : r m 56 = m + 35 := hr 56 (by decide) (by decide)
  have kk : ∀ {h' : TH}, Fr (fun a => a = m + 35) h h' → MBay h' m L rk B := fun f => hO.mv (fun x a b => (f x (by omega)).1) (congrFun (f m (by omega)).1 18) (by rw [(f m (by omega)).1]; exact hO.2.2.1)
  have k3 : ∀ c, c < 40 → bK B c ≤ 3 := fun c hc => by have := hB.2.2.2.2.2.1 c hc; split at this <;> omega
  have kin : ∀ c, c < 40 → ¬ (c % 8 < bW B ∧ c / 8 < bH B) → bK B c = 3 := fun c hc z => by have := hB.2.2.2.2.2.1 c hc; rw [if_neg z] at this; exact this
  unfold D_Mo_fillsFar
  refine lp_for 40 (fun c t => ∃ h', t = (nI c, h') ∧ Fr (fun a => a = m + 35) h h' ∧ ∀ i, i < c → h'.1 (m + 35) i = optI (farUp B 0 i)) ?_ ?_ _ ⟨h, rfl, Fr.rf, fun i hi => absurd hi (Nat.not_lt_zero _)⟩
  · rintro c t K hc ⟨h', rfl, f', v'⟩ hK
    have st : ∀ x : Int32, x = optI (farUp B 0 c) → ∀ h6, h6 = pI h' (m + 35) c x → ∀ y : Int32, y = nI c + 1 → K (y, h6) := by
      intro x ex h6 e6 y ey
      rw [nI_1] at ey; subst ey
      refine hK _ ⟨h6, rfl, f'.tr (by rw [e6]; exact Fr.pI rfl), fun i hi => ?_⟩
      by_cases e : i = c
      · rw [e6, e, pI_s, ex]
      · rw [e6, pI_n _ _ _ _ (by omega)]; exact v' i (by omega)
    unfold DB_Mo_fillsFar_2
    rw [(jd8 hc).1, (jd8 hc).2, r56, nI_clamp (n := c) (by omega)]
    refine ⟨fun q => absurd ((nI_leI (a := 40) (by omega) (by omega)).mp q) (by omega), fun _ => ?_⟩
    refine P_isCell hr (kk f') hB (by omega) (by omega) (fun a1 a2 => ⟨fun z => absurd z z01, fun _ => ?_⟩) (fun z => ⟨fun _ => ⟨vp_in_nI hc (by omega), st (-1) ?_⟩, fun z => absurd rfl z⟩)
    · refine P_sortAt hr (kk f') hc a1 a2 ⟨fun z => ⟨vp_in_nI hc (by omega), st (-1) ?_⟩, fun z => ⟨vp_in_nI hc (by omega), st 0 ?_⟩⟩
      · unfold farUp
        rw [if_neg (fun e => z (by rw [e]; rfl))]; rfl
      · unfold farUp
        have := k3 c hc
        rw [if_pos ((nI_eq (b := 2) (by omega) (by omega)).mp z)]; rfl
    · unfold farUp
      rw [if_neg (by rw [kin c hc z]; decide)]; rfl
  · rintro t K ⟨h', rfl, f', v'⟩
    unfold DB_Mo_fillsFar_2
    refine ⟨fun _ => ?_, fun q => absurd (show (40 : Int32) ≤ nI 40 from Int32.le_refl _) q⟩
    refine lp_for 40 (fun n t => ∃ h', t = (nI (1 + n), h') ∧ Fr (fun a => a = m + 35) h h' ∧ (∀ i, i < 40 → h'.1 (m + 35) i = optI (farUp B n i))) ?_ ?_ _ ⟨h', rfl, f', v'⟩
    · rintro n t K hn ⟨h1, rfl, f1, v1⟩ hK
      unfold DB_Mo_fillsFar_58
      refine ⟨fun q => absurd ((nI_ltI (a := 40) (by omega) (by omega)).mp q) (by omega), fun _ => ?_⟩
      have e1n : nI (1 + n) - 1 = nI n := by rw [nI_s1 (by omega)]; congr 1; omega
      refine lp_for 40 (fun c t => ∃ h2, t = (nI c, h2) ∧ Fr (fun a => a = m + 35) h h2 ∧ (∀ i, i < 40 → h2.1 (m + 35) i = optI (lvF B n c i))) ?_ ?_ _ ⟨h1, rfl, f1, fun i hi => ?_⟩
      · rintro c t K2 hc ⟨h2, rfl, f2, v2⟩ hK2
        have O2 := kk f2
        have stay : farUp B (n + 1) c = farUp B n c → ∀ y : Int32, y = nI c + 1 → K2 (y, h2) := by
          intro e y ey
          rw [nI_1] at ey; subst ey
          refine hK2 _ ⟨h2, rfl, f2, fun i hi => ?_⟩
          rw [v2 i hi]
          unfold lvF
          by_cases ei : i = c
          · subst ei
            rw [if_neg (by omega), if_pos (by omega), e]
          · by_cases q : i < c
            · rw [if_pos q, if_pos (by omega)]
            · rw [if_neg q, if_neg (by omega)]
        have lc : lvF B n c c = farUp B n c := by unfold lvF; rw [if_neg (by omega)]
        unfold DB_Mo_fillsFar_66
        show ((40 ≤ nI c → _) ∧ _)
        rw [(jd8 hc).1, (jd8 hc).2, r56, nI_clamp (n := c) (by omega), v2 c hc, lc]
        refine ⟨fun q => absurd ((nI_leI (a := 40) (by omega) (by omega)).mp q) (by omega), fun _ => ⟨vp_in_nI hc (by omega), fun y => stay ?_, fun y => ?_⟩⟩
        · cases hq : farUp B n c with
          | some x => exact farUp_s hq
          | none => rw [hq] at y; exact absurd y (show ¬ (0 : Int32) ≤ -1 by decide)
        have hq : farUp B n c = none := by
          cases hq : farUp B n c with
          | some x =>
            rw [hq] at y
            have := farUp_le _ hq
            exact absurd (nI_pos' (show x < 2 ^ 31 by omega)) y
          | none => rfl
        refine P_isCell hr O2 hB (by omega) (by omega) (fun a1 a2 => ⟨fun z => absurd z z01, fun _ => ?_⟩) (fun z => ⟨fun _ => stay ?_, fun z => absurd rfl z⟩)
        · refine P_sortAt hr O2 hc a1 a2 ⟨fun z => stay ?_, fun z => ?_⟩
          · rw [farUp_n hq, if_neg (fun w => z (by rw [w.1]; rfl)), hq]
          · have k0 := (nI_eq (b := 0) (by have := k3 c hc; omega) (by omega)).mp z
            have na := nextTo_any hB (n := n) (c := c) (v := h2.1 (m + 35)) (by omega) v2
            rw [e1n]
            refine P_isNextTo hr O2 hB hc (nI_pos (by omega)) (fun w => ⟨fun z => absurd z z01, fun _ => ⟨vp_in_nI hc (by omega), fun h31 e31 x33 e33 => ?_⟩⟩) (fun w => ⟨fun _ => stay ?_, fun z => absurd rfl z⟩)
            · have nt : nextTo B (farUp B n) c n = true := by
                cases hx : nextTo B (farUp B n) c n with
                | true => rfl
                | false => exact absurd (na.mpr hx) w
              have nx : farUp B (n + 1) c = some (n + 1) := by rw [farUp_n hq, if_pos ⟨k0, nt⟩]
              rw [nI_1] at e33; subst e33
              refine hK2 _ ⟨h31, rfl, f2.tr (by rw [e31]; exact Fr.pI rfl), fun i hi => ?_⟩
              unfold lvF
              by_cases ei : i = c
              · subst ei
                rw [e31, pI_s, if_pos (by omega), nx]
                show nI (1 + n) = nI (n + 1)
                congr 1; omega
              · rw [e31, pI_n _ _ _ _ (by omega), v2 i hi]
                unfold lvF
                by_cases q : i < c
                · rw [if_pos q, if_pos (by omega)]
                · rw [if_neg q, if_neg (by omega)]
            · rw [farUp_n hq, if_neg (fun q => by rw [na.mp w] at q; exact absurd q.2 (by decide)), hq]
        · rw [farUp_n hq, if_neg (fun w => by rw [kin c hc z] at w; exact absurd w.1 (by decide)), hq]
      · rintro t K2 ⟨h2, rfl, f2, v2⟩
        unfold DB_Mo_fillsFar_66
        refine ⟨fun _ x e => ?_, fun q => absurd (show (40 : Int32) ≤ nI 40 from Int32.le_refl _) q⟩
        rw [nI_1] at e; subst e
        refine hK _ ⟨h2, by rw [show 1 + n + 1 = 1 + (n + 1) by omega], f2, fun i hi => ?_⟩
        rw [v2 i hi]; unfold lvF; rw [if_pos hi]
      · rw [v1 i hi]; unfold lvF; rw [if_neg (by omega)]
    · rintro t K ⟨h1, rfl, f1, v1⟩
      unfold DB_Mo_fillsFar_58
      exact ⟨fun _ => hQ h1 f1 v1, fun q => absurd (nI_lt (a := 40) (by omega) (by omega)) q⟩
/-- steps to the mark: -2 if there are none -/
def stepI (B : By) (S : Sc) (k : Nat) : Int32 := if (sL S).testBit k = true then -2 else if (sO S).testBit k = true then 0 else match farF B (sC S k) with
  | none => -2
  | some x => nI x
theorem farF_le {B : By} {c x : Nat} (h : farF B c = some x) : x ≤ 40 := farUp_le _ h
theorem farF_mark {B : By} {c : Nat} (h : bK B c = 2) : farF B c = some 0 := by
  have : farUp B 0 c = some 0 := by unfold farUp; rw [if_pos h]
  exact farUp_mono this 40
theorem P_stepsToMark {r : TR} {q b d T k : Nat} {h : TH} {A : St} {Q : Int32 → TH → Prop} (hR : RX r q b d) (hA : AI T A) (hx : AX h q b d A) (hk : k < bN (tB A)) (hQ : Q (stepI (tB A) (tS A) k) h) : D_SR_stepsToMark r q (nI k) h Q := by
  obtain ⟨⟨-, r1, r2, r3, -⟩, -, ⟨s1, s2, -⟩, -, -, -, -, rb, -, ap⟩ := id hR
  obtain ⟨SB, SP, SA, SH, SN, SW, SO⟩ := hA.2.1
  have hn := hA.1.2.2.1
  have hS := hx.2.2.2.1
  have st : ∀ c, c < 40 → h.1 (b + 2) c = optI (farF (tB A) c) := hx.2.1.resolve_left (by omega)
  have hc := SB.2.2.2.2.1 k (by omega)
  unfold stepI at hQ
  unfold D_SR_stepsToMark
  rw [r1, r2]
  refine P_isSailing hS SB (by omega) (fun z => ⟨fun _ => ?_, fun q => absurd q z01⟩) (fun z => ⟨fun q => absurd rfl q, fun _ => ?_⟩)
  · obtain ⟨z1, z2⟩ := sail_iff.mp z
    rw [z1, z2] at hQ
    simp only [Bool.false_eq_true, if_false] at hQ
    rw [s1.1, nI_clamp (n := k) (by omega)]
    refine ⟨vp_in_nI (by omega) (by omega), fun i9 e9 => ?_⟩
    rw [hS.2.2.2.2.1 k (by omega)] at e9
    subst e9
    rw [rb.1.2.1, nI_clamp (n := sC (tS A) k) (by omega), st _ hc]
    refine ⟨vp_in_nI hc (by omega), fun x ex => ?_⟩
    subst ex
    cases hf : farF (tB A) (sC (tS A) k) with
    | none => rw [hf] at hQ; exact ⟨fun w => absurd rfl w, fun _ => hQ⟩
    | some x =>
      rw [hf] at hQ
      have := farF_le hf
      exact ⟨fun _ => hQ, fun w => absurd w (nI_nm1 (show x < 2 ^ 31 by omega))⟩
  · rw [hS.2.2.2.1]
    refine ⟨fun w => ?_, fun w => ?_⟩
    · have ho : (sO (tS A)).testBit k = false := by
        cases hq : (sO (tS A)).testBit k with
        | true => exact absurd ((bt_1 SB.2.2.2.1 (by omega)).mpr hq) w
        | false => rfl
      have hl : (sL (tS A)).testBit k = true := by
        cases hq : (sL (tS A)).testBit k with
        | true => rfl
        | false => rw [sail_iff.mpr ⟨hq, ho⟩] at z; exact absurd z (by decide)
      rw [hl] at hQ
      simp only [if_true] at hQ
      exact hQ
    · have ho := (bt_1 SB.2.2.2.1 (show k < 6 by omega)).mp w
      rw [(SP k hk ho).2.2, ho] at hQ
      simp only [Bool.false_eq_true, if_false, if_true] at hQ
      exact hQ
theorem P_soonestOf {r : TR} {m L T k : Nat} {h : TH} {A : St} {Q : Int32 → TH → Prop} (hM : RMo r m) (hA : AI T A) (hm : AM h m L A) (hk : k < bN (tB A)) (hQ : ∀ h', Qm m h h' → MBay h' m L (-1) (tB A) → RowOK (h'.1 (m + 32)) (bN (tB A)) (-1) (tS A) → h'.1 m 51 = -1 → h'.1 m 50 = nI (bSe (tB A)) → ((sL (tS A)).testBit k = false → ∀ c, c < 40 → h'.1 (m + 35) c = optI (farF (tB A) c)) → Q (stepI (tB A) (tS A) k) h') : D_Mo_soonestOf r m (nI k) h Q := by
  have hB := hA.1
  have hn := hB.2.2.1
  obtain ⟨SB, SP, SA, SH, SN, SW, SO⟩ := hA.2.1
  have r49 : r m 49 = m + 32 := hM 49 (by decide) (by decide)
  have e6 : (6 : Int32) + nI k = nI (6 + k) := nI_add 6 k
  have hc := SB.2.2.2.2.1 k (by omega)
  have nk := nI_nm (k := k) (by omega)
  unfold D_Mo_soonestOf
  refine P_cp hM hm hB (fun h4 q4 O4 R4 w4 l4 => ?_)
  refine P_MoisLost hM R4 hn hk nk (fun z => ⟨fun q => absurd q z01, fun _ => ?_⟩) (fun z => ⟨fun _ => ?_, fun q => absurd rfl q⟩)
  · have := hQ h4 q4 O4 R4 w4 l4 (fun y => absurd (z.symm.trans y) (by decide))
    unfold stepI at this
    rw [if_pos z] at this
    exact this
  · refine P_fillsFar hM O4 hB (fun h6 f6 v6 => ?_)
    have q6 : Qm m h4 h6 := Qm.fr f6 (fun a ha => ⟨by unfold FQ; omega, by omega⟩)
    have O6 : MBay h6 m L (-1) (tB A) := O4.mv (fun x a b => (f6 x (by omega)).1) (congrFun (f6 m (by omega)).1 18) (by rw [(f6 m (by omega)).1]; exact O4.2.2.1)
    have R6 : RowOK (h6.1 (m + 32)) (bN (tB A)) (-1) (tS A) := by rw [(f6 (m + 32) (by omega)).1]; exact R4
    have em : h6.1 m = h4.1 m := (f6 m (by omega)).1
    have res := hQ h6 (q4.tr q6) O6 R6 (by rw [em]; exact w4) (by rw [em]; exact l4) (fun _ => v6)
    have g := R6.2.2.1 k hk
    rw [r49, nI_clamp (n := k) (by omega), g.1]
    refine ⟨vp_in_nI (by omega) (by omega), fun i10 e10 => ?_⟩
    rw [e6] at e10
    subst e10
    rw [nI_clamp (n := 6 + k) (by omega), g.2.1]
    have kd := hB.2.2.2.2.2.1 _ hc
    have kz : bK (tB A) (sC (tS A) k) = 0 ∨ bK (tB A) (sC (tS A) k) = 2 := by
      cases ho : (sO (tS A)).testBit k with
      | true => exact Or.inr (SO k hk ho).1
      | false => exact Or.inl (SW k hk (sail_iff.mpr ⟨z, ho⟩))
    have hin : sC (tS A) k % 8 < bW (tB A) ∧ sC (tS A) k / 8 < bH (tB A) := by
      by_cases w : sC (tS A) k % 8 < bW (tB A) ∧ sC (tS A) k / 8 < bH (tB A)
      · exact w
      · rw [if_neg w] at kd; omega
    refine ⟨vp_in_nI (by omega) (by omega), P_farAt0 hM O6 hB hc hin.1 hin.2 ?_⟩
    rw [v6 _ hc]
    unfold stepI at res
    rw [if_neg (by rw [z]; decide)] at res
    cases ho : (sO (tS A)).testBit k with
    | true =>
      rw [farF_mark (SO k hk ho).1]
      rw [ho] at res
      exact ⟨fun _ => res, fun w => absurd (show (0 : Int32) ≤ optI (some 0) by decide) w⟩
    | false =>
      rw [ho] at res
      simp only [Bool.false_eq_true, if_false] at res
      cases hf : farF (tB A) (sC (tS A) k) with
      | none => rw [hf] at res; exact ⟨fun w => absurd w (show ¬ (0 : Int32) ≤ -1 by decide), fun _ => res⟩
      | some x =>
        rw [hf] at res
        have := farF_le hf
        exact ⟨fun _ => res, fun w => absurd (nI_pos' (show x < 2 ^ 31 by omega)) w⟩
theorem J_soonest {r : TR} {q b d m L T : Nat} {h : TH} {A : St} {a1 : Int32} {Q : Int32 → Int32 → TH → Prop} (C : Cx r q b d m L T h A) (hQ : ∀ x h', Cx r q b d m L T h' A → Q x x h') : D_SR_soonest r q a1 h (fun x h1 => D_Mo_soonest r m a1 h1 (fun y h2 => Q x y h2)) := by
  have hB := C.2.2.2.1.1
  obtain ⟨hR, hM, hqm, hA, hx, hm⟩ := id C
  have r1 := hR.1.2.1
  unfold D_SR_soonest
  refine P_SRisBoat (B := tB A) r1 hx.1.2.2.1 hB (fun k hk e => ⟨fun _ => ?_, fun z => absurd z z01⟩) (fun hnk => ⟨fun z => absurd rfl z, fun _ => ?_⟩)
  · subst e
    refine P_stepsToMark hR hA hx hk ?_
    unfold D_Mo_soonest
    refine P_MoisBoat hM hm.bay (rockB_B hB) (fun k' hk' e' => ⟨fun z => absurd z z01, fun _ => ?_⟩) (fun z => absurd rfl (z k hk))
    exact P_soonestOf hM hA hm hk (fun h5 q5 _ _ _ _ _ => hQ _ _ (C.m q5))
  · unfold D_Mo_soonest
    exact P_MoisBoat hM hm.bay (rockB_B hB) (fun k hk e => absurd e (hnk k hk)) (fun _ => ⟨fun _ => hQ _ _ C, fun z => absurd rfl z⟩)
