/-! a whole text: the reference's side -/
theorem P_plain {r : TR} {h : TH} {m sd : Nat} {Q : TH → Prop} (hr : RMo r m) (hs : sd < 2) (hQ : ∀ h', PF m sd h h' → h'.1 m = h.1 m → h'.2 = h.2 → (h'.1 (m + 9) sd = 0 ∧ h'.1 (m + 10) sd = 0 ∧ h'.1 (m + 12) sd = 0 ∧ h'.1 (m + 17) sd = 0 ∧ h'.1 (m + 18) sd = 0) → (∀ k, k < 3 → h'.1 (m + 19) (3 * sd + k) = 0 ∧ h'.1 (m + 20) (3 * sd + k) = 0) → Q h') : D_Mo_plain r m (nI sd) h Q := by
  have r22 : r m 22 = m + 9 := hr 22 (by decide) (by decide)
  have r23 : r m 23 = m + 10 := hr 23 (by decide) (by decide)
  have r25 : r m 25 = m + 12 := hr 25 (by decide) (by decide)
  have r30 : r m 30 = m + 17 := hr 30 (by decide) (by decide)
  have r31 : r m 31 = m + 18 := hr 31 (by decide) (by decide)
  have r32 : r m 32 = m + 19 := hr 32 (by decide) (by decide)
  have r33 : r m 33 = m + 20 := hr 33 (by decide) (by decide)
  unfold D_Mo_plain
  rw [r22, r23, r25, r30, r31, nI_clamp (n := sd) (by omega)]
  have vp : vp_in (nI sd) 2 := vp_in_nI hs (by omega)
  refine ⟨vp, fun h2 e2 => ⟨vp, fun h4 e4 => ⟨vp, fun h6 e6 => ⟨vp, fun h8 e8 => ⟨vp, fun h10 e10 => ?_⟩⟩⟩⟩⟩
  have P10 : PF m sd h h10 := by
    rw [e10, e8, e6, e4, e2]
    exact ((((PF.wr (by unfold own; omega)).tr (PF.wr (by unfold own; omega))).tr (PF.wr (by unfold own; omega))).tr (PF.wr (by unfold own; omega))).tr (PF.wr (by unfold own; omega))
  have m10 : h10.1 m = h.1 m := by rw [e10, pI_o _ _ _ _ (by omega), e8, pI_o _ _ _ _ (by omega), e6, pI_o _ _ _ _ (by omega), e4, pI_o _ _ _ _ (by omega), e2, pI_o _ _ _ _ (by omega)]
  have l10 : h10.2 = h.2 := by rw [e10, pI_l, e8, pI_l, e6, pI_l, e4, pI_l, e2, pI_l]
  have z10 : h10.1 (m + 9) sd = 0 ∧ h10.1 (m + 10) sd = 0 ∧ h10.1 (m + 12) sd = 0 ∧ h10.1 (m + 17) sd = 0 ∧ h10.1 (m + 18) sd = 0 := by
    refine ⟨?_, ?_, ?_, ?_, ?_⟩
    · rw [e10, pI_o _ _ _ _ (by omega), e8, pI_o _ _ _ _ (by omega), e6, pI_o _ _ _ _ (by omega), e4, pI_o _ _ _ _ (by omega), e2, pI_s]
    · rw [e10, pI_o _ _ _ _ (by omega), e8, pI_o _ _ _ _ (by omega), e6, pI_o _ _ _ _ (by omega), e4, pI_s]
    · rw [e10, pI_o _ _ _ _ (by omega), e8, pI_o _ _ _ _ (by omega), e6, pI_s]
    · rw [e10, pI_o _ _ _ _ (by omega), e8, pI_s]
    · rw [e10, pI_s]
  refine lp_for 3 (fun k x => ∃ h', x = (nI k, h') ∧ PF m sd h h' ∧ h'.1 m = h.1 m ∧ h'.2 = h.2 ∧ (∀ a, ¬ a = m + 19 → ¬ a = m + 20 → h'.1 a = h10.1 a) ∧ ∀ j, j < k → h'.1 (m + 19) (3 * sd + j) = 0 ∧ h'.1 (m + 20) (3 * sd + j) = 0) ?_ ?_ _ ⟨h10, rfl, P10, m10, l10, fun _ _ _ => rfl, fun j hj => absurd hj (Nat.not_lt_zero _)⟩
  · rintro k x KK hk ⟨h', rfl, p', m', l', o', g'⟩ hK
    unfold DB_Mo_plain_37
    have ei : (3 : Int32) * nI sd + nI k = nI (3 * sd + k) := by show nI 3 * nI sd + nI k = _; rw [pk_mul, nI_add]
    show (3 ≤ nI k → _) ∧ (¬ 3 ≤ nI k → vp_in ((3 * nI sd) + nI k) 6 ∧ ∀ h14, h14 = pI h' (r m 32) (((3 * nI sd) + nI k).toNatClampNeg) 0 → vp_in ((3 * nI sd) + nI k) 6 ∧ ∀ h16, h16 = pI h14 (r m 33) (((3 * nI sd) + nI k).toNatClampNeg) 0 → ∀ x17 : Int32, x17 = nI k + 1 → KK (x17, h16))
    rw [ei, r32, r33, nI_clamp (n := 3 * sd + k) (by omega)]
    refine ⟨fun z => absurd ((nI_leI (a := 3) (by omega) (by omega)).mp z) (by omega), fun _ => ⟨vp_in_nI (by omega) (by omega), fun h14 e14 => ⟨vp_in_nI (by omega) (by omega), fun h16 e16 x17 e17 => ?_⟩⟩⟩
    rw [nI_1] at e17; subst e17
    refine hK _ ⟨h16, rfl, p'.tr (by rw [e16, e14]; exact (PF.wr (by unfold own; omega)).tr (PF.wr (by unfold own; omega))), by rw [e16, pI_o _ _ _ _ (by omega), e14, pI_o _ _ _ _ (by omega)]; exact m', by rw [e16, pI_l, e14, pI_l]; exact l', fun a x y => by rw [e16, pI_o _ _ _ _ y, e14, pI_o _ _ _ _ x]; exact o' a x y, fun j hj => ?_⟩
    rw [e16, pI_o _ _ _ _ (by omega), e14]
    by_cases w : j = k
    · subst w
      exact ⟨by rw [pI_s], by rw [pI_s]⟩
    · rw [pI_n _ _ _ _ (by omega), pI_n _ _ _ _ (by omega), pI_o _ _ _ _ (by omega)]
      exact g' j (by omega)
  · rintro x KK ⟨h', rfl, p', m', l', o', g'⟩
    unfold DB_Mo_plain_37
    refine ⟨fun _ => hQ h' p' m' l' ?_ g', fun z => absurd (show (3 : Int32) ≤ nI 3 from Int32.le_refl _) z⟩
    rw [o' _ (by omega) (by omega), o' _ (by omega) (by omega), o' _ (by omega) (by omega), o' _ (by omega) (by omega), o' _ (by omega) (by omega)]
    exact z10
theorem P_isAfl {r : TR} {h0 h : TH} {m sd n J t b K k : Nat} {c : Nat → Nat} {P : PSt} {Q : Int32 → TH → Prop} (hs : sd < 2) (s : MD r h0 h m sd c n J t b K P) (pv : PV P) (hk : k < bN (dB P)) (h1 : (dF P = none → (decide (bX (dB P) k < bW (dB P)) && (decide (bY (dB P) k < bH (dB P)) && !decide (bK (dB P) (8 * bY (dB P) k + bX (dB P) k) = 1))) = true) → Q 1 h) (h0' : (dF P = none → (decide (bX (dB P) k < bW (dB P)) && (decide (bY (dB P) k < bH (dB P)) && !decide (bK (dB P) (8 * bY (dB P) k + bX (dB P) k) = 1))) = false) → Q 0 h) : D_Mo_isAfloat r m (nI k) h Q := by
  have hr := s.1.1.1.1
  have r22 : r m 22 = m + 9 := hr 22 (by decide) (by decide)
  have r23 : r m 23 = m + 10 := hr 23 (by decide) (by decide)
  have r24 : r m 24 = m + 11 := hr 24 (by decide) (by decide)
  have r26 : r m 26 = m + 13 := hr 26 (by decide) (by decide)
  have r27 : r m 27 = m + 14 := hr 27 (by decide) (by decide)
  obtain ⟨⟨pW, pH, pN, -, -, -, -, pK⟩, -⟩ := pv
  obtain ⟨⟨q1, q2, q3, q4, q5, q6⟩, q7, q8⟩ := s.2.2.1
  obtain ⟨x1, x2, -, -, -, x6, x7, -, -⟩ := q7 k hk
  have e19 := s.1.2.2.2.2
  have ei : (6 : Int32) * nI sd + nI k = nI (6 * sd + k) := by show nI 6 * nI sd + nI k = _; rw [pk_mul, nI_add]
  unfold D_Mo_isAfloat
  rw [e19, ei, r22, r23, r24, r26, r27]
  intro i2 e2
  subst e2
  rw [nI_clamp (n := 6 * sd + k) (by omega), x1]
  refine ⟨vp_in_nI (by omega) (by omega), fun x3 e3 i5 e5 => ?_⟩
  subst e3; subst e5
  rw [nI_clamp (n := 6 * sd + k) (by omega), x2]
  refine ⟨vp_in_nI (by omega) (by omega), fun y6 e6 i8 e8 => ?_⟩
  subst e6; subst e8
  rw [nI_clamp (n := sd) (by omega), q1]
  refine ⟨vp_in_nI hs (by omega), fun z => h0' (fun _ => ?_), fun z i11 e11 => ?_⟩
  · have := (nI_leI (by omega) (by omega)).mp z
    rw [decide_eq_false (by omega)]; rfl
  subst e11
  have zx : bX (dB P) k < bW (dB P) := by
    rcases Nat.lt_or_ge (bX (dB P) k) (bW (dB P)) with w | w
    · exact w
    · exact absurd (nI_le w (by omega)) z
  rw [nI_clamp (n := sd) (by omega), q2]
  refine ⟨vp_in_nI hs (by omega), fun z => h0' (fun _ => ?_), fun z i14 e14 => ?_⟩
  · have := (nI_leI (by omega) (by omega)).mp z
    rw [decide_eq_false (p := bY (dB P) k < bH (dB P)) (by omega), Bool.false_and, Bool.and_false]
  have zy : bY (dB P) k < bH (dB P) := by
    rcases Nat.lt_or_ge (bY (dB P) k) (bH (dB P)) with w | w
    · exact w
    · exact absurd (nI_le w (by omega)) z
  have e14' : i14 = nI (40 * sd + (8 * bY (dB P) k + bX (dB P) k)) := by
    rw [e14]
    show (nI 40 * nI sd + nI 8 * nI (bY (dB P) k)) + nI (bX (dB P) k) = _
    rw [pk_mul, pk_mul, nI_add, nI_add, Nat.add_assoc]
  subst e14'
  rw [nI_clamp (n := 40 * sd + (8 * bY (dB P) k + bX (dB P) k)) (by omega)]
  have pk := pK (8 * bY (dB P) k + bX (dB P) k)
  have q8' : dF P = none → h.1 (m + 11) (40 * sd + (8 * bY (dB P) k + bX (dB P) k)) = nI (bK (dB P) (8 * bY (dB P) k + bX (dB P) k)) := fun w => q8 w _ (by omega) (by omega)
  refine ⟨vp_in_nI (by omega) (by omega), fun z => h0' (fun w => ?_), fun z => h1 (fun w => ?_)⟩
  · rw [q8' w] at z
    rw [decide_eq_true (p := bK (dB P) (8 * bY (dB P) k + bX (dB P) k) = 1) ((nI_eq (b := 1) (by omega) (by omega)).mp z), Bool.not_true, Bool.and_false, Bool.and_false]
  · rw [q8' w] at z
    rw [decide_eq_true zx, decide_eq_true zy, decide_eq_false (fun y => z (by rw [y]; rfl))]; rfl
def badP (B : By) (k : Nat) : Bool := !(decide (bX B k < bW B) && (decide (bY B k < bH B) && !decide (bK B (8 * bY B k + bX B k) = 1)))
theorem P_Mbody {r : TR} {h0 h : TH} {m sd n J : Nat} {c : Nat → Nat} {Q : Int32 → TH → Prop} (hs : sd < 2) (hJ : Jok (kdT c n) J) (hn : n ≤ 2000) (s0 : MD r h0 h m sd c n J 0 (130 * sd) (420 * sd) draft0)
    (hok : ∀ P t b K h', rdP c n = .ok P → MD r h0 h' m sd c n J t b K P → PV P → dF P = none → aflB (dB P) = true → DJ_Mo_read_210 r m (-1) m h' Q)
    (her : ∀ e h', rdP c n = .error e → PF m sd h0 h' → Q (nI e.1) (pI h' m 17 (nI e.2))) :
    ∃ i, lp (fun (K : TH → Prop) (s : TH) => DB_Mo_read_112 r m s (fun h30 => K h30) (fun h31 => ∃ n, lp (fun (K : Int32 × TH → Prop) (s : Int32 × TH) => DB_Mo_read_136 r m s.1 s.2 (fun y44 h45 => K (y44, h45)) (fun h46 => DJ_Mo_read_180 r m h46 Q) Q) n (0, h31)) Q) i h := by
  have hr := s0.1.1.1.1
  have j4 := hJ.1
  have r25 : r m 25 = m + 12 := hr 25 (by decide) (by decide)
  have hv : ∀ t, kdT c n t = 3 → vaT c n t ≤ 9999 := fun t _ => va_ok hn t
  have hnm : ∀ t, kdT c n t = 2 → (nmT c n t).length ≤ 8 := fun t ht => by
    have w := nm_ok ht
    rw [w.2.2.2.2.2, nmL_len]; exact w.2.1
  generalize hR : psL (kdT c n) (plT c n) (vaT c n) (nmT c n) 400 0 draft0 = R
  have hrd : rdP c n = bnd R (fun p => match endF n p.2 with | none => .ok p.2 | some e => .error e) := by unfold rdP; rw [hR]; rfl
  have bad : ∀ e h', R = .error e → erM m sd e h0 h' → ∃ n, lp (fun (K : Int32 × TH → Prop) (s : Int32 × TH) => DB_Mo_read_136 r m s.1 s.2 (fun y44 h45 => K (y44, h45)) (fun h46 => DJ_Mo_read_180 r m h46 Q) Q) n (0, h') := by
    intro e h' he g
    have fin : DJ_Mo_read_180 r m h' Q := by
      unfold DJ_Mo_read_180
      refine ⟨fun z => absurd z g.2.1.pos, fun _ => ?_⟩
      unfold DJ_Mo_read_210
      intro h49 e49
      have k13 : h49.1 m 13 = h'.1 m 13 := by rw [e49, pI_n _ _ _ _ (by omega)]
      rw [k13]
      refine ⟨fun z => absurd z g.2.1.pos, fun _ => ?_⟩
      rw [g.2.1.2.1, e49, g.2.1.2.2]
      exact her e h' (by rw [hrd, he]; rfl) g.1
    refine ⟨0 + 1, lp_s ?_⟩
    unfold DB_Mo_read_136
    intro i34 e34
    have e34' : i34 = nI sd := by rw [e34]; exact g.2.2
    subst e34'
    exact ⟨vp_in_nI hs (by omega), fun _ => fin, fun _ => ⟨fun _ => fin, fun z => absurd z g.2.1.ne⟩⟩
  have good : ∀ t P b K h', R = .ok (t, P) → kdT c n t = 0 → PV P → Fb c n t (dF P) → MD r h0 h' m sd c n J t b K P → ∃ n, lp (fun (K : Int32 × TH → Prop) (s : Int32 × TH) => DB_Mo_read_136 r m s.1 s.2 (fun y44 h45 => K (y44, h45)) (fun h46 => DJ_Mo_read_180 r m h46 Q) Q) n (0, h') := by
    intro t P b K h' he hk0 pv hf s
    have pn := kd_0 hk0
    have tJ := s.1.1.2.1
    have N6 := pv.1.2.2.1
    have eF : endF n P = addF (exF (badP (dB P)) (bN (dB P))) 6 (plT c n t) (dF P) := by
      unfold endF aflB
      rw [Bool.not_not, pn]; rfl
    refine lp_for (bN (dB P)) (fun j x => ∃ h2, x = (nI j, h2) ∧ MD r h0 h2 m sd c n J t b K (dB P, dM P, addF (exF (badP (dB P)) j) 6 (plT c n t) (dF P))) ?_ ?_ _ ⟨h', rfl, ?_⟩
    · rintro j x KK hj ⟨h2, rfl, q⟩ hK
      unfold DB_Mo_read_136
      intro i34 e34
      have e34' : i34 = nI sd := by rw [e34]; exact q.1.2.2.2.2
      subst e34'
      have eN : h2.1 (m + 12) sd = nI (bN (dB P)) := q.2.2.1.1.2.2.1
      show vp_in (nI sd) 2 ∧ (h2.1 (r m 25) (nI sd).toNatClampNeg ≤ nI j → _) ∧ (¬ h2.1 (r m 25) (nI sd).toNatClampNeg ≤ nI j → _)
      rw [r25, nI_clamp (n := sd) (by omega), eN]
      refine ⟨vp_in_nI hs (by omega), fun z => absurd ((nI_leI (by omega) (by omega)).mp z) (by omega), fun _ => ⟨fun z => absurd q.1.1.2.2.1 z, fun _ => ?_⟩⟩
      have ee : exF (badP (dB P)) (j + 1) = (exF (badP (dB P)) j || badP (dB P) j) := rfl
      have pv2 : PV (dB P, dM P, addF (exF (badP (dB P)) j) 6 (plT c n t) (dF P)) := ⟨pv.1, fun w => pv.2 (addF_none w)⟩
      refine P_isAfl hs q pv2 hj (fun w => ⟨fun _ x40 e40 => ?_, fun z => absurd z z01⟩) (fun w => ⟨fun z => absurd rfl z, fun _ => ?_⟩)
      · rw [nI_1] at e40; subst e40
        refine hK _ ⟨h2, rfl, ?_⟩
        rw [ee, ← addF_or]
        cases hc : addF (exF (badP (dB P)) j) 6 (plT c n t) (dF P) with
        | some x => rw [hc] at q; exact q
        | none =>
          have : badP (dB P) j = false := by
            unfold badP
            rw [w hc]; rfl
          rw [this, addF_f]
          rw [hc] at q; exact q
      · show D_Mo_wrong r m 6 (h2.1 m 11) h2 _
        rw [q.1.1.2.2.2]
        refine P_wrong (k := 6) q.1.1.1 q.1.1.2.2.1 tJ ⟨by omega, by omega⟩ q.2.2.2.2.1 ((hf.W).add) (fun h3 v3 F3 x43 e43 => ?_)
        rw [nI_1] at e43; subst e43
        obtain ⟨s3, -, -, -⟩ := q.fl v3 F3 addF_none
        refine hK _ ⟨h3, rfl, ?_⟩
        rw [ee, ← addF_or]
        cases hc : addF (exF (badP (dB P)) j) 6 (plT c n t) (dF P) with
        | some x => rw [show dF (dB P, dM P, addF (exF (badP (dB P)) j) 6 (plT c n t) (dF P)) = addF (exF (badP (dB P)) j) 6 (plT c n t) (dF P) from rfl, hc] at s3; exact s3
        | none =>
          have : badP (dB P) j = true := by
            unfold badP
            rw [w hc]; rfl
          rw [this]
          rw [show dF (dB P, dM P, addF (exF (badP (dB P)) j) 6 (plT c n t) (dF P)) = addF (exF (badP (dB P)) j) 6 (plT c n t) (dF P) from rfl, hc] at s3; exact s3
    · rintro x KK ⟨h2, rfl, q⟩
      unfold DB_Mo_read_136
      intro i34 e34
      have e34' : i34 = nI sd := by rw [e34]; exact q.1.2.2.2.2
      subst e34'
      have eN : h2.1 (m + 12) sd = nI (bN (dB P)) := q.2.2.1.1.2.2.1
      show vp_in (nI sd) 2 ∧ (h2.1 (r m 25) (nI sd).toNatClampNeg ≤ nI (bN (dB P)) → _) ∧ (¬ h2.1 (r m 25) (nI sd).toNatClampNeg ≤ nI (bN (dB P)) → _)
      rw [r25, nI_clamp (n := sd) (by omega), eN]
      refine ⟨vp_in_nI hs (by omega), fun _ => ?_, fun z => absurd (Int32.le_refl _) z⟩
      rw [← eF] at q
      show DJ_Mo_read_180 r m h2 Q
      unfold DJ_Mo_read_180
      have z13 := q.1.1.2.2.1
      have FF := q.2.2.2.2.1
      rw [z13]
      refine ⟨fun _ => ?_, fun z => absurd (Int32.le_refl _) z⟩
      cases hF : endF n P with
      | none =>
        rw [show dF (dB P, dM P, endF n P) = endF n P from rfl, hF] at FF
        rw [FF.1 rfl]
        refine ⟨fun _ => ?_, fun z => absurd (Int32.le_refl _) z⟩
        obtain ⟨n1, n2⟩ := addF_n (show addF (!aflB (dB P)) 6 n (dF P) = none from hF)
        rw [hF, ← n1] at q
        exact hok P t b K h2 (by rw [hrd, he]; show (match endF n P with | none => Except.ok P | some e => Except.error e) = _; rw [hF]) q pv n1 (by rw [Bool.not_eq_false'] at n2; exact n2)
      | some e =>
        rw [show dF (dB P, dM P, endF n P) = endF n P from rfl, hF] at FF
        obtain ⟨k0, k2, k15, k16⟩ := FF.2 e.1 e.2 rfl
        have pos : ¬ h2.1 m 15 ≤ 0 := by
          rw [k15]
          intro z
          have := (nI_leI (b := 0) (by omega) (by omega)).mp z
          omega
        refine ⟨fun z => absurd z pos, fun _ => ?_⟩
        unfold DJ_Mo_read_210
        intro h49 e49
        have k13' : h49.1 m 13 = 0 := by rw [e49, pI_n _ _ _ _ (by omega)]; exact z13
        have k15' : h49.1 m 15 = h2.1 m 15 := by rw [e49, pI_n _ _ _ _ (by omega)]
        rw [k13', k15']
        refine ⟨fun _ => ⟨fun z => absurd z pos, fun _ => ?_⟩, fun z => absurd (Int32.le_refl _) z⟩
        rw [k15, e49, k16]
        exact her e h2 (by rw [hrd, he]; show (match endF n P with | none => Except.ok P | some e => Except.error e) = _; rw [hF]) q.2.1
    · show MD r h0 h' m sd c n J t b K (dB P, dM P, addF false 6 (plT c n t) (dF P))
      rw [addF_f]; exact s
  refine lp_for 400 (fun i h' => (∃ t b K P, MD r h0 h' m sd c n J t b K P ∧ PV P ∧ Fb c n t (dF P) ∧ 3 * i ≤ t ∧ R = psL (kdT c n) (plT c n) (vaT c n) (nmT c n) (400 - i) t P) ∨ ∃ e, erM m sd e h0 h' ∧ R = .error e) ?_ ?_ _ (Or.inl ⟨0, 130 * sd, 420 * sd, draft0, s0, PV0, fun k p w => (by cases w), Nat.le_refl _, hR.symm⟩)
  · rintro i h' KK hi st hK
    unfold DB_Mo_read_112
    rcases st with ⟨t, b, K, P, s, pv, hf, l3, eR⟩ | ⟨e, g, eR⟩
    · refine ⟨fun z => absurd s.1.1.2.2.1 z, fun _ => ?_⟩
      rw [show 400 - i = (400 - (i + 1)) + 1 by omega] at eR
      unfold psL at eR
      refine P_is (k := 0) s.1.1 (by omega) (fun y => ⟨fun _ => ?_, fun z => absurd z z01⟩) (fun y => ⟨fun z => absurd rfl z, fun _ => ?_⟩)
      · rw [if_pos y] at eR
        exact good t P b K h' eR y pv hf s
      · rw [if_neg y] at eR
        refine P_MtellOne hs hJ hv s hf pv (fun p hp h2 b' K' s2 F2 => ?_) (fun e he h2 g2 => ?_)
        · rw [hp] at eR
          obtain ⟨k1, k2, -⟩ := PV_tell hJ s.1.1.2.1 hv hnm pv hp
          exact hK _ (Or.inl ⟨p.1, b', K', p.2, s2, k1, F2, by omega, eR⟩)
        · rw [he] at eR
          exact hK _ (Or.inr ⟨e, g2, eR⟩)
    · exact ⟨fun _ => bad e h' eR g, fun z => absurd z g.2.1.ne⟩
  · rintro h' KK st
    unfold DB_Mo_read_112
    rcases st with ⟨t, b, K, P, s, pv, hf, l3, eR⟩ | ⟨e, g, eR⟩
    · have := s.1.1.2.1; omega
    · exact ⟨fun _ => bad e h' eR g, fun z => absurd z g.2.1.ne⟩
