/-! any thing told: the reference's side -/
theorem mk_oth : ∀ k : Fin 32, ¬ k.1 = 6 → ¬ k.1 = 7 → ¬ k.1 = 8 → ¬ nI (mkK k.1) - 22 < 0 → ¬ nI (mkK k.1) ≤ 24 := by decide +kernel
theorem P_setM {r : TR} {h0 h h' : TH} {m sd n J t b K a : Nat} {c : Nat → Nat} {P P' : PSt} {v : Int32} (s : MD r h0 h m sd c n J t b K P) (e : h' = pI h a sd v) (ha : a = m + 17 ∨ a = m + 18) (hf : dF P' = dF P) (hl : ∀ h, DMl h m sd P b K → DMl h m sd P' b K) (hB : (bW (dB P') = bW (dB P) ∧ bH (dB P') = bH (dB P) ∧ bN (dB P') = bN (dB P)) ∧ (bX (dB P') = bX (dB P) ∧ bY (dB P') = bY (dB P) ∧ bS (dB P') = bS (dB P) ∧ bNo (dB P') = bNo (dB P) ∧ dM P' = dM P ∧ bK (dB P') = bK (dB P)) ∧ h'.1 (m + 17) sd = nI (bCo (dB P')) ∧ h'.1 (m + 18) sd = nI (bSe (dB P'))) : MD r h0 h' m sd c n J t b K P' := by
  obtain ⟨⟨u1, u2, u3⟩, ⟨v1, v2, v3, v4, v5, v6⟩, w1, w2⟩ := hB
  subst e
  refine s.ow (by omega) (by unfold own; omega) hl hf ?_
  obtain ⟨⟨q1, q2, q3, q4, q5, q6⟩, q7, q8⟩ := s.2.2.1
  have o : ∀ x, ¬ x = m + 17 → ¬ x = m + 18 → (pI h a sd v).1 x = h.1 x := fun x y z => pI_o _ _ _ _ (by omega)
  refine ⟨⟨?_, ?_, ?_, ?_, w1, w2⟩, ?_, ?_⟩
  · rw [o _ (by omega) (by omega), u1]; exact q1
  · rw [o _ (by omega) (by omega), u2]; exact q2
  · rw [o _ (by omega) (by omega), u3]; exact q3
  · rw [o _ (by omega) (by omega), u3]; exact q4
  · rw [u3, v1, v2, v3, v4, v5, o _ (by omega) (by omega), o _ (by omega) (by omega), o _ (by omega) (by omega), o _ (by omega) (by omega), pI_l]; exact q7
  · rw [u1, u2, v6, hf, o _ (by omega) (by omega)]; exact q8
theorem P_MtellOne {r : TR} {h0 h : TH} {m sd n J t b K : Nat} {c : Nat → Nat} {P : PSt} {Q : TH → Prop} (hs : sd < 2) (hJ : Jok (kdT c n) J) (hv : ∀ t, kdT c n t = 3 → vaT c n t ≤ 9999) (s : MD r h0 h m sd c n J t b K P) (hf : Fb c n t (dF P)) (pv : PV P)
    (hok : ∀ p, tellP (kdT c n) (plT c n) (vaT c n) (nmT c n) t P = .ok p → ∀ h' b' K', MD r h0 h' m sd c n J p.1 b' K' p.2 → Fb c n p.1 (dF p.2) → Q h')
    (her : ∀ e, tellP (kdT c n) (plT c n) (vaT c n) (nmT c n) t P = .error e → ∀ h', erM m sd e h0 h' → Q h') : D_Mo_tellOne r m h Q := by
  have hr := s.1.1.1.1
  have tJ := s.1.1.2.1
  have j4 := hJ.1
  have kl := kdT_lt c n t
  have r5 : r m 5 = m + 3 := hr 5 (by decide) (by decide)
  have r22 : r m 22 = m + 9 := hr 22 (by decide) (by decide)
  have r25 : r m 25 = m + 12 := hr 25 (by decide) (by decide)
  have r30 : r m 30 = m + 17 := hr 30 (by decide) (by decide)
  have r31 : r m 31 = m + 18 := hr 31 (by decide) (by decide)
  have tk := (s.1.1.1.2.1 t tJ).1
  obtain ⟨⟨pW, pH, pN, -⟩, -⟩ := pv
  have eH : h.1 (m + 9) sd = nI (bH (dB P)) := s.2.2.1.1.2.1
  have eN : h.1 (m + 12) sd = nI (bN (dB P)) := s.2.2.1.1.2.2.1
  have mk : ∀ j, j ≤ 31 → (nI (mkK (kdT c n t)) = nI (mkK j) ↔ kdT c n t = j) := fun j hj => mk_eq kl hj
  unfold D_Mo_tellOne
  intro i2 e2
  rw [s.1.1.2.2.2] at e2
  subst e2
  rw [r5, nI_clamp (n := t) (by omega), tk, s.1.2.2.2.2, r22, r25, r30, r31, s.1.1.2.2.2, s.1.1.2.2.1]
  have law : ∀ k x, k < 3 → kdT c n t = k + 6 → x = nI (mkK (kdT c n t)) - 22 → x = nI k ∧ nI (mkK (kdT c n t)) ≤ 24 := by
    intro k x hk3 hkd ex
    have : k = 0 ∨ k = 1 ∨ k = 2 := by omega
    rw [ex, hkd]
    rcases this with rfl | rfl | rfl <;> exact ⟨by decide, by decide⟩
  have lawG : ∀ k, k < 3 → kdT c n t = k + 6 → ∀ i29 : Int32, i29 = nI t → vp_in i29 403 ∧ ∀ x30 : Int32, x30 = (h.1 (m + 3) i29.toNatClampNeg) - 22 → ((x30 < 0 → DJ_Mo_tellOne_205 r m x30 h Q) ∧ (¬ x30 < 0 → ∀ i40 : Int32, i40 = nI t → vp_in i40 403 ∧ (((h.1 (m + 3) i40.toNatClampNeg) ≤ 24 → DJ_Mo_tellOne_210 r m x30 h Q) ∧ (¬ (h.1 (m + 3) i40.toNatClampNeg) ≤ 24 → DJ_Mo_tellOne_205 r m x30 h Q)))) := by
    intro k hk3 hkd i29 e29
    subst e29
    rw [nI_clamp (n := t) (by omega), tk]
    refine ⟨vp_in_nI (by omega) (by omega), fun x30 e30 => ?_⟩
    obtain ⟨l1, l2⟩ := law k x30 hk3 hkd e30
    subst l1
    refine ⟨fun z => absurd z (nI_pos (by omega)), fun _ i40 e40 => ?_⟩
    subst e40
    rw [nI_clamp (n := t) (by omega), tk]
    exact ⟨vp_in_nI (by omega) (by omega), fun _ => P_lawM hs hJ hv s hf hkd hk3 hok her, fun z => absurd l2 z⟩
  have fail1 : ∀ l1, ¬ kdT c n t = 4 → ¬ kdT c n t = 5 → ¬ kdT c n t = 6 → ¬ kdT c n t = 7 → ¬ kdT c n t = 8 → ¬ kdT c n t = 9 → ¬ kdT c n t = 10 → DJ_Mo_tellOne_205 r m l1 h Q := by
    intro l1 a4 a5 a6 a7 a8 a9 a10
    unfold DJ_Mo_tellOne_205
    refine P_Mfail (k := 1) s.1.1 (fun h' f => ?_)
    have g := FaultM.er (e := (1, plT c n t)) f ⟨(by decide : ¬ (1 : Nat) = 0), (by decide : (1 : Nat) ≤ 9)⟩ s
    unfold DJ_Mo_tellOne_210
    refine ⟨fun z => absurd z g.2.1.pos, fun _ => her (1, plT c n t) ?_ h' g⟩
    unfold tellP tellB
    rw [if_neg a4, if_neg a5, if_neg (by omega), if_neg a9, if_neg a10]; rfl
  have num : ∀ (k mx a : Nat) (P' : Option (Nat × Nat) → PSt), (a = m + 17 ∨ a = m + 18) → kdT c n t = k → 2 ≤ k → mx ≤ 9999 → tellB (kdT c n) (plT c n) (vaT c n) (nmT c n) t P = bnd (needP (kdT c n) (plT c n) k t) (fun t1 => bnd (needP (kdT c n) (plT c n) 3 t1) (fun t2 => .ok (t2, P' (addF (decide (mx < vaT c n t1)) 5 (plT c n t1) (dF P))))) → (∀ h2 h3 t2 fl, MD r h0 h2 m sd c n J t2 b K (dB P, dM P, fl) → h3 = pI h2 a sd (nI (vaT c n (t + 1))) → MD r h0 h3 m sd c n J t2 b K (P' fl) ∧ dF (P' fl) = fl) → D_Mo_goesOn r m h (fun h59 => D_Mo_bounded r m 0 (nI mx) h59 (fun x63 h62 => vp_in (h59.1 m 19) 2 ∧ ∀ h64, h64 = pI h62 a ((h59.1 m 19).toNatClampNeg) x63 → D_Mo_must r m 4 h64 (fun h65 => Q h65))) := by
    intro k mx a P' ha hkd hk2 hm hT hS
    refine P_goesOn s.1.1 (fun t4 => ?_) (fun t4 h1 f1 => ?_)
    · rw [needP_t hkd t4] at hT
      replace hT : tellB (kdT c n) (plT c n) (vaT c n) (nmT c n) t P = bnd (needP (kdT c n) (plT c n) 3 (t + 1)) (fun t2 => .ok (t2, P' (addF (decide (mx < vaT c n (t + 1))) 5 (plT c n (t + 1)) (dF P)))) := hT
      have k2 : 2 ≤ kdT c n t := by omega
      have s1 := s.on (hJ.2 t tJ k2 t4)
      have e19 := s1.1.2.2.2.2
      rw [e19, nI_clamp (n := sd) (by omega)]
      refine P_bounded (mx := mx) hJ hv s1 ((hf.W (k := 0)).on (by omega)) hm (fun t2 n2 h2 q2 F2 o2 v2 => ⟨vp_in_nI hs (by omega), fun h64 e64 => ?_⟩) (fun e he h2 g2 o2 v => ⟨vp_in_nI hs (by omega), fun h64 e64 => ?_⟩)
      · obtain ⟨q3, ed⟩ := hS h2 h64 t2 _ q2 e64
        refine P_mustM (k := 23) hJ q3 (by omega) (by omega) (fun t3 n3 h5 _ q5 => hok (t3, P' _) ?_ h5 b K q5 ?_) (fun e he h5 g5 => her e ?_ h5 g5)
        · unfold tellP; rw [hT, n2]; show bnd (needP _ _ 23 t2) _ = _; rw [n3]; rfl
        · have k3 := needP_ok n3
          show Fb c n t3 (dF (P' _))
          rw [ed, k3.2.2]
          exact (F2.W (k := 0)).on (by rw [k3.1]; decide)
        · unfold tellP; rw [hT, n2]; show bnd (needP _ _ 23 t2) _ = _; rw [he]; rfl
      · have g64 : erM m sd e h0 h64 := by rw [e64]; exact g2.wr (by unfold own; omega)
        refine g64.must (her e ?_ h64 g64)
        unfold tellP; rw [hT, he]; rfl
    · have g1 := FaultM.er (e := (2, plT c n t)) f1 ⟨(by decide : ¬ (2 : Nat) = 0), (by decide : (2 : Nat) ≤ 9)⟩ s
      refine P_boundedF g1 ?_
      rw [g1.2.2, nI_clamp (n := sd) (by omega)]
      refine ⟨vp_in_nI hs (by omega), fun h64 e64 => ?_⟩
      have g64 : erM m sd (2, plT c n t) h0 h64 := by rw [e64]; exact g1.wr (by unfold own; omega)
      refine g64.must (her _ ?_ h64 g64)
      unfold tellP; rw [hT, needP_2 hkd t4]; rfl
  refine ⟨vp_in_nI (by omega) (by omega), fun z4 i5 e5 => ?_, fun z4 => ⟨fun z5 i17 e17 => ?_, fun z5 => ⟨fun z6 => lawG 0 (by omega) ((mk 6 (by omega)).mp z6), fun z6 => ⟨fun z7 => lawG 1 (by omega) ((mk 7 (by omega)).mp z7), fun z7 => ⟨fun z8 => lawG 2 (by omega) ((mk 8 (by omega)).mp z8), fun z8 => ⟨fun z9 => ?_, fun z9 => ⟨fun z10 => ?_, fun z10 i77 e77 => ?_⟩⟩⟩⟩⟩⟩⟩
  · have hk := (mk 4 (by omega)).mp z4
    subst e5
    rw [nI_clamp (n := sd) (by omega), eH]
    have eT : tellP (kdT c n) (plT c n) (vaT c n) (nmT c n) t P = bnd (rowP (kdT c n) (plT c n) (nmT c n) t P) (fun p => bnd (needP (kdT c n) (plT c n) 23 p.1) (fun t' => .ok (t', p.2))) := by
      unfold tellP tellB
      rw [if_pos hk]
    rw [eT] at hok her
    refine ⟨vp_in_nI hs (by omega), fun z => ⟨fun w => absurd rfl w, fun _ => ?_⟩, fun z => ?_⟩
    · have h5 : ¬ bH (dB P) = 5 := fun w => z (by rw [w]; rfl)
      exact P_MtellRow hs hJ s hf hk (by omega) pW (fun p hp h' q F => hok p hp h' b K q F) her
    · have h5 : bH (dB P) = 5 := (nI_eq (b := 5) (by omega) (by omega)).mp z
      refine P_Mfail (k := 2) s.1.1 (fun h' f => ?_)
      have g := FaultM.er (e := (2, plT c n t)) f ⟨(by decide : ¬ (2 : Nat) = 0), (by decide : (2 : Nat) ≤ 9)⟩ s
      refine ⟨fun _ => her _ ?_ h' g, fun w => absurd w g.2.1.ne⟩
      unfold rowP
      rw [if_neg (by omega)]; rfl
  · have hk := (mk 5 (by omega)).mp z5
    subst e17
    rw [nI_clamp (n := sd) (by omega), eN]
    have eT : tellP (kdT c n) (plT c n) (vaT c n) (nmT c n) t P = bnd (boatP (kdT c n) (plT c n) (vaT c n) (nmT c n) t P) (fun p => bnd (needP (kdT c n) (plT c n) 23 p.1) (fun t' => .ok (t', p.2))) := by
      unfold tellP tellB
      rw [if_neg (by omega), if_pos hk]
    rw [eT] at hok her
    refine ⟨vp_in_nI hs (by omega), fun z => ⟨fun w => absurd rfl w, fun _ => ?_⟩, fun z => ?_⟩
    · have h6 : ¬ bN (dB P) = 6 := fun w => z (by rw [w]; rfl)
      exact P_MtellBoat hs hJ hv s hf hk (by omega) (fun p hp h' q F => hok p hp h' b K q F) her
    · have h6 : bN (dB P) = 6 := (nI_eq (b := 6) (by omega) (by omega)).mp z
      refine P_Mfail (k := 2) s.1.1 (fun h' f => ?_)
      have g := FaultM.er (e := (2, plT c n t)) f ⟨(by decide : ¬ (2 : Nat) = 0), (by decide : (2 : Nat) ≤ 9)⟩ s
      refine ⟨fun _ => her _ ?_ h' g, fun w => absurd w g.2.1.ne⟩
      unfold boatP
      rw [if_neg (by omega)]; rfl
  · have hk := (mk 9 (by omega)).mp z9
    refine num 9 100 (m + 17) (fun fl => ((bW (dB P), bH (dB P), bN (dB P), vaT c n (t + 1), bSe (dB P), bK (dB P), bX (dB P), bY (dB P), bS (dB P), bNo (dB P), bPW (dB P), bPS (dB P), bPL (dB P)), dM P, fl)) (Or.inl rfl) hk (by omega) (by omega) ?_ (fun h2 h3 t2 fl q e => ⟨P_setM q e (Or.inl rfl) rfl (fun _ g => g) ⟨⟨rfl, rfl, rfl⟩, ⟨rfl, rfl, rfl, rfl, rfl, rfl⟩, by rw [e, pI_s], by rw [e, pI_o _ _ _ _ (by omega)]; exact q.2.2.1.1.2.2.2.2.2⟩, rfl⟩)
    unfold tellB
    rw [if_neg (by omega), if_neg (by omega), if_neg (by omega), if_pos hk]
    rcases Nat.lt_or_ge t 400 with w | w
    · rw [needP_t hk w]; rfl
    · rw [needP_2 hk (by omega)]; rfl
  · have hk := (mk 10 (by omega)).mp z10
    refine num 10 9999 (m + 18) (fun fl => ((bW (dB P), bH (dB P), bN (dB P), bCo (dB P), vaT c n (t + 1), bK (dB P), bX (dB P), bY (dB P), bS (dB P), bNo (dB P), bPW (dB P), bPS (dB P), bPL (dB P)), dM P, fl)) (Or.inr rfl) hk (by omega) (by omega) ?_ (fun h2 h3 t2 fl q e => ⟨P_setM q e (Or.inr rfl) rfl (fun _ g => g) ⟨⟨rfl, rfl, rfl⟩, ⟨rfl, rfl, rfl, rfl, rfl, rfl⟩, by rw [e, pI_o _ _ _ _ (by omega)]; exact q.2.2.1.1.2.2.2.2.1, by rw [e, pI_s]⟩, rfl⟩)
    unfold tellB
    rw [if_neg (by omega), if_neg (by omega), if_neg (by omega), if_neg (by omega), if_pos hk]
    rcases Nat.lt_or_ge t 400 with w | w
    · rw [needP_t hk w]
      show bnd (needP _ _ 3 (t + 1)) _ = bnd (needP _ _ 3 (t + 1)) _
      cases y : needP (kdT c n) (plT c n) 3 (t + 1) with
      | error e => rfl
      | ok t2 =>
        have := hv (t + 1) (needP_ok y).1
        show Except.ok (t2, seedS (vaT c n (t + 1)) P) = Except.ok (t2, _)
        rw [decide_eq_false (by omega), addF_f]; rfl
    · rw [needP_2 hk (by omega)]; rfl
  · have a4 : ¬ kdT c n t = 4 := fun w => z4 ((mk 4 (by omega)).mpr w)
    have a5 : ¬ kdT c n t = 5 := fun w => z5 ((mk 5 (by omega)).mpr w)
    have a6 : ¬ kdT c n t = 6 := fun w => z6 ((mk 6 (by omega)).mpr w)
    have a7 : ¬ kdT c n t = 7 := fun w => z7 ((mk 7 (by omega)).mpr w)
    have a8 : ¬ kdT c n t = 8 := fun w => z8 ((mk 8 (by omega)).mpr w)
    have a9 : ¬ kdT c n t = 9 := fun w => z9 ((mk 9 (by omega)).mpr w)
    have a10 : ¬ kdT c n t = 10 := fun w => z10 ((mk 10 (by omega)).mpr w)
    subst e77
    rw [nI_clamp (n := t) (by omega), tk]
    refine ⟨vp_in_nI (by omega) (by omega), fun x78 e78 => ⟨fun _ => fail1 _ a4 a5 a6 a7 a8 a9 a10, fun z i81 e81 => ?_⟩⟩
    subst e81
    rw [nI_clamp (n := t) (by omega), tk]
    subst e78
    exact ⟨vp_in_nI (by omega) (by omega), fun w => absurd w (mk_oth ⟨kdT c n t, by omega⟩ a6 a7 a8 z), fun _ => fail1 _ a4 a5 a6 a7 a8 a9 a10⟩
