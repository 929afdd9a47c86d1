/-! a boat: the reference's side -/
theorem la_inj {a b : Nat} (ha : a < 2 ^ 62) (hb : b < 2 ^ 62) (h : lN a = lN b) : a = b := by
  have e : (lN a).toInt = (lN b).toInt := by rw [h]
  rw [la_toI ha, la_toI hb] at e
  omega
theorem MD.bt {r : TR} {h0 h : TH} {m sd n J t b K a : Nat} {c : Nat → Nat} {P : PSt} {v : Int32} (s : MD r h0 h m sd c n J t b K P) (ha : m + 13 ≤ a ∧ a ≤ m + 16) (hN : bN (dB P) < 6) : MD r h0 (pI h a (6 * sd + bN (dB P)) v) m sd c n J t b K P := by
  refine s.ow (by omega) (by unfold own; omega) (fun _ g => g) rfl ?_
  obtain ⟨g1, g2, g3⟩ := s.2.2.1
  have e : ∀ x, ¬ (m + 13 ≤ x ∧ x ≤ m + 16) → (pI h a (6 * sd + bN (dB P)) v).1 x = h.1 x := fun x hx => pI_o _ _ _ _ (by omega)
  have e2 : ∀ x k, k < bN (dB P) → (pI h a (6 * sd + bN (dB P)) v).1 x (6 * sd + k) = h.1 x (6 * sd + k) := fun x k hk => by
    by_cases w : x = a
    · subst w; exact pI_n _ _ _ _ (by omega)
    · rw [pI_o _ _ _ _ w]
  unfold DMb
  rw [e (m + 10) (by omega), e (m + 9) (by omega), e (m + 12) (by omega), e m (by omega), e (m + 17) (by omega), e (m + 18) (by omega), e (m + 11) (by omega), pI_l]
  refine ⟨g1, fun k hk => ?_, g3⟩
  rw [e2 (m + 13) k hk, e2 (m + 14) k hk, e2 (m + 15) k hk, e2 (m + 16) k hk]
  exact g2 k hk
theorem MD.bt' {r : TR} {h0 h h' : TH} {m sd n J t b K a : Nat} {c : Nat → Nat} {P : PSt} {v : Int32} (s : MD r h0 h m sd c n J t b K P) (ha : m + 13 ≤ a ∧ a ≤ m + 16) (hN : bN (dB P) < 6) (e : h' = pI h a (6 * sd + bN (dB P)) v) : MD r h0 h' m sd c n J t b K P := by rw [e]; exact s.bt ha hN
theorem P_MtellBoat {r : TR} {h0 h : TH} {m sd n J t b K : Nat} {c : Nat → Nat} {P : PSt} {Q : TH → Prop} (hs : sd < 2) (hJ : Jok (kdT c n) J) (hv : ∀ t, kdT c n t = 3 → vaT c n t ≤ 9999) (s : MD r h0 h m sd c n J t b K P) (hf : Fb c n t (dF P)) (hk : kdT c n t = 5) (hN : bN (dB P) < 6)
    (hok : ∀ p, bnd (boatP (kdT c n) (plT c n) (vaT c n) (nmT c n) t P) (fun p => bnd (needP (kdT c n) (plT c n) 23 p.1) (fun t' => .ok (t', p.2))) = .ok p → ∀ h', MD r h0 h' m sd c n J p.1 b K p.2 → Fb c n p.1 (dF p.2) → Q h')
    (her : ∀ e, bnd (boatP (kdT c n) (plT c n) (vaT c n) (nmT c n) t P) (fun p => bnd (needP (kdT c n) (plT c n) 23 p.1) (fun t' => .ok (t', p.2))) = .error e → ∀ h', erM m sd e h0 h' → Q h') : D_Mo_tellBoat r m h Q := by
  have hr := s.1.1.1.1
  have tJ := s.1.1.2.1
  have j4 := hJ.1
  have r8 : r m 8 = m + 6 := hr 8 (by decide) (by decide)
  have r21 : r m 21 = m + 8 := hr 21 (by decide) (by decide)
  have r25 : r m 25 = m + 12 := hr 25 (by decide) (by decide)
  have r26 : r m 26 = m + 13 := hr 26 (by decide) (by decide)
  have r27 : r m 27 = m + 14 := hr 27 (by decide) (by decide)
  have r28 : r m 28 = m + 15 := hr 28 (by decide) (by decide)
  have r29 : r m 29 = m + 16 := hr 29 (by decide) (by decide)
  generalize hR : bnd (boatP (kdT c n) (plT c n) (vaT c n) (nmT c n) t P) (fun p => bnd (needP (kdT c n) (plT c n) 23 p.1) (fun t' => .ok (t', p.2))) = R at hok her
  unfold boatP at hR
  rw [if_pos hN] at hR
  have clN : (nI (6 * sd + bN (dB P))).toNatClampNeg = 6 * sd + bN (dB P) := nI_clamp (by omega)
  have vpN : vp_in (nI (6 * sd + bN (dB P))) 12 := vp_in_nI (by omega) (by omega)
  have wr : ∀ {e : Nat × Nat} {h1 h2 : TH} {a : Nat} {v : Int32}, erM m sd e h0 h1 → m + 13 ≤ a ∧ a ≤ m + 16 → h2 = pI h1 a (6 * sd + bN (dB P)) v → erM m sd e h0 h2 := fun g ha e2 => by rw [e2]; exact g.wr (by unfold own; omega)
  have dead4 : ∀ e h1 l2, R = .error e → erM m sd e h0 h1 → D_Mo_must r m 4 h1 (fun h38 => (((h38.1 m 13) ≤ 0 → vp_in l2 403 ∧ vp_in (h38.1 m 20) 6 ∧ ∀ h43, h43 = pL h38 (m + 8) ((h38.1 m 20).toNatClampNeg) (h38.2 (m + 6) l2.toNatClampNeg) → ∀ h44, h44 = pI h43 m 20 ((h43.1 m 20) + 1) → ∀ i46 : Int32, i46 = h44.1 m 19 → vp_in i46 2 ∧ vp_in (h44.1 m 19) 2 ∧ ∀ h47, h47 = pI h44 (m + 12) ((h44.1 m 19).toNatClampNeg) ((h44.1 (m + 12) i46.toNatClampNeg) + 1) → Q h47) ∧ (¬ (h38.1 m 13) ≤ 0 → Q h38))) := fun e h1 l2 he g => g.must ⟨fun z => absurd z g.2.1.pos, fun _ => her e he h1 g⟩
  have dead : ∀ e h1 l2, R = .error e → erM m sd e h0 h1 → DJ_Mo_tellBoat_77 r m (nI (6 * sd + bN (dB P))) l2 h1 Q := by
    intro e h1 l2 he g
    unfold DJ_Mo_tellBoat_77
    rw [r8, r21, r25, r26, r27, r28, r29, clN]
    refine P_boundedF g ⟨vpN, fun h25 e25 => ?_⟩
    have g25 := wr g (by omega) e25
    refine P_boundedF g25 ⟨vpN, fun h29 e29 => ?_⟩
    have g29 := wr g25 (by omega) e29
    refine P_boundedF g29 ⟨vpN, fun h33 e33 => ?_⟩
    have g33 := wr g29 (by omega) e33
    refine P_boundedF g33 ⟨vpN, fun h37 e37 => ?_⟩
    exact dead4 e h37 l2 he (wr g33 (by omega) e37)
  have deadL : ∀ e h1 l2, R = .error e → erM m sd e h0 h1 → ∃ n, lp (fun (K : Int32 × TH → Prop) (s : Int32 × TH) => DB_Mo_tellBoat_34 r m (nI (6 * sd + bN (dB P))) l2 s.1 s.2 (fun y19 h20 => K (y19, h20)) (fun h21 => DJ_Mo_tellBoat_77 r m (nI (6 * sd + bN (dB P))) l2 h21 Q) Q) n (0, h1) := by
    intro e h1 l2 he g
    refine ⟨0 + 1, lp_s ?_⟩
    unfold DB_Mo_tellBoat_34
    exact ⟨fun _ => dead e h1 l2 he g, fun _ => ⟨fun _ => dead e h1 l2 he g, fun z => absurd z g.2.1.ne⟩⟩
  have x5e : ∀ (h1 : TH) (x5 : Int32), h1.1 m 19 = nI sd → h1.1 (m + 12) sd = nI (bN (dB P)) → x5 = (6 * (h1.1 m 19)) + (h1.1 (r m 25) (nI sd).toNatClampNeg) → x5 = nI (6 * sd + bN (dB P)) := by
    intro h1 x5 a1 a2 a3
    rw [a3, a1, r25, nI_clamp (n := sd) (by omega), a2]
    show nI 6 * nI sd + nI _ = _
    rw [pk_mul, nI_add]
  unfold D_Mo_tellBoat
  refine P_goesOn s.1.1 (fun t4 i4 e4 => ?_) (fun t4 h1 f1 i4 e4 => ?_)
  · rw [pI_n _ _ _ _ (by omega), s.1.2.2.2.2] at e4
    subst e4
    rw [needP_t hk t4] at hR
    have s1 := s.on (hJ.2 t tJ (by omega) t4)
    refine ⟨vp_in_nI hs (by omega), fun x5 e5 x6 e6 => ?_⟩
    have e5' := x5e _ _ s1.1.2.2.2.2 s1.2.2.1.1.2.2.1 e5
    subst e5'
    rw [pI_s] at e6
    subst e6
    refine P_mustM (k := 2) hJ s1 (by omega) (by omega) (fun t2 n2 h7 e7 s7 => ?_) (fun e he h7 g7 => deadL e h7 _ ?_ g7)
    · obtain ⟨k1, k2, rfl⟩ := needP_ok n2
      have tJ1 := s1.1.1.2.1
      obtain ⟨w1, w2, w3, w4, w5, w6⟩ := nm_ok k1
      have hn2 := s.1.1.1.2.2.2
      have en := (s7.1.1.1.2.1 (t + 1) tJ1).2.2.2 k1
      replace hR : bnd (bnd (needP (kdT c n) (plT c n) 3 (t + 1 + 1)) (fun t3 => bnd (needP (kdT c n) (plT c n) 3 t3) (fun t4 => bnd (needP (kdT c n) (plT c n) 3 t4) (fun t5 => bnd (needP (kdT c n) (plT c n) 3 t5) (fun t6 => .ok (t6, boatS (nmT c n (t + 1)) (plT c n (t + 1)) (vaT c n (t + 1 + 1)) (vaT c n t3) (vaT c n t4) (vaT c n t5) (plT c n (t + 1 + 1)) (plT c n t3) (plT c n t4) (plT c n t5) P)))))) (fun p => bnd (needP (kdT c n) (plT c n) 23 p.1) (fun t' => .ok (t', p.2))) = R := by
        rw [← hR]; show _ = bnd (bnd (needP (kdT c n) (plT c n) 2 (t + 1)) _) _; rw [n2]; rfl
      have lsl : (nmT c n (t + 1)).length ≤ 8 := by rw [w6, nmL_len]; exact w2
      have lsL : ltL (nmT c n (t + 1)) := by rw [w6]; exact nmL_lt w4
      have ne1 : ¬ kdT c n (t + 1) = 0 := by rw [k1]; decide
      have hfW : Wk c n (t + 1) 3 (dF P) := ((hf.W (k := 0)).on (by rw [hk]; decide)).W
      have b62 : ∀ {l : List Nat}, l.length ≤ 8 → ltL l → bse 27 l < 2 ^ 62 := fun a1 a2 => Nat.lt_of_lt_of_le (bse_lt8 (by omega) (by omega) a1 a2) (by decide)
      generalize hls : nmT c n (t + 1) = ls at hR lsl lsL en
      /- the numbers -/
      have nums : ∀ h1, MD r h0 h1 m sd c n J (t + 1 + 1) b K (dB P, dM P, addF (exF (fun i => decide (dM P i = ls)) (bN (dB P))) 3 (plT c n (t + 1)) (dF P)) → DJ_Mo_tellBoat_77 r m (nI (6 * sd + bN (dB P))) (nI (t + 1)) h1 Q := by
        intro h1 q1
        unfold DJ_Mo_tellBoat_77
        rw [r8, r21, r25, r26, r27, r28, r29, clN]
        refine P_bounded (mx := 9) hJ hv q1 ((hfW.add (bad := exF (fun i => decide (dM P i = ls)) (bN (dB P)))).on ne1) (by omega) (fun t3 n3 h2 q2 F2 o2 v2 => ⟨vpN, fun h25 e25 => ?_⟩) (fun e he h2 g2 o2 v => ⟨vpN, fun h25 e25 => ?_⟩)
        · have k3 := needP_ok n3
          have q25 := q2.bt' (by omega) hN e25
          rw [n3] at hR
          replace hR : bnd (bnd (needP (kdT c n) (plT c n) 3 t3) (fun t4 => bnd (needP (kdT c n) (plT c n) 3 t4) (fun t5 => bnd (needP (kdT c n) (plT c n) 3 t5) (fun t6 => .ok (t6, boatS ls (plT c n (t + 1)) (vaT c n (t + 1 + 1)) (vaT c n t3) (vaT c n t4) (vaT c n t5) (plT c n (t + 1 + 1)) (plT c n t3) (plT c n t4) (plT c n t5) P))))) (fun p => bnd (needP (kdT c n) (plT c n) 23 p.1) (fun t' => .ok (t', p.2))) = R := hR
          refine P_bounded (mx := 9) hJ hv q25 F2 (by omega) (fun t4 n4 h4 q4 F4 o4 v4 => ⟨vpN, fun h29 e29 => ?_⟩) (fun e he h4 g4 o4 v => ⟨vpN, fun h29 e29 => ?_⟩)
          · have k4 := needP_ok n4
            have q29 := q4.bt' (by omega) hN e29
            rw [n4] at hR
            replace hR : bnd (bnd (needP (kdT c n) (plT c n) 3 t4) (fun t5 => bnd (needP (kdT c n) (plT c n) 3 t5) (fun t6 => .ok (t6, boatS ls (plT c n (t + 1)) (vaT c n (t + 1 + 1)) (vaT c n t3) (vaT c n t4) (vaT c n t5) (plT c n (t + 1 + 1)) (plT c n t3) (plT c n t4) (plT c n t5) P)))) (fun p => bnd (needP (kdT c n) (plT c n) 23 p.1) (fun t' => .ok (t', p.2))) = R := hR
            refine P_bounded (mx := 9) hJ hv q29 F4 (by omega) (fun t5 n5 h5 q5 F5 o5 v5 => ⟨vpN, fun h33 e33 => ?_⟩) (fun e he h5 g5 o5 v => ⟨vpN, fun h33 e33 => ?_⟩)
            · have k5 := needP_ok n5
              have q33 := q5.bt' (by omega) hN e33
              rw [n5] at hR
              replace hR : bnd (bnd (needP (kdT c n) (plT c n) 3 t5) (fun t6 => .ok (t6, boatS ls (plT c n (t + 1)) (vaT c n (t + 1 + 1)) (vaT c n t3) (vaT c n t4) (vaT c n t5) (plT c n (t + 1 + 1)) (plT c n t3) (plT c n t4) (plT c n t5) P))) (fun p => bnd (needP (kdT c n) (plT c n) 23 p.1) (fun t' => .ok (t', p.2))) = R := hR
              refine P_bounded (mx := 9) hJ hv q33 F5 (by omega) (fun t6 n6 h6 q6 F6 o6 v6 => ⟨vpN, fun h37 e37 => ?_⟩) (fun e he h6 g6 o6 v => ⟨vpN, fun h37 e37 => ?_⟩)
              · have k6 := needP_ok n6
                have q37 := q6.bt' (by omega) hN e37
                rw [n6] at hR
                replace hR : bnd (needP (kdT c n) (plT c n) 23 t6) (fun t' => .ok (t', boatS ls (plT c n (t + 1)) (vaT c n (t + 1 + 1)) (vaT c n t3) (vaT c n t4) (vaT c n t5) (plT c n (t + 1 + 1)) (plT c n t3) (plT c n t4) (plT c n t5) P)) = R := hR
                refine P_mustM (k := 23) hJ q37 (by omega) (by omega) (fun t7 n7 h38 e38 q38 => ⟨fun _ => ?_, fun z => absurd (by rw [q38.1.1.2.2.1]; exact Int32.le_refl _) z⟩) (fun e he h38 g38 => ⟨fun z => absurd z g38.2.1.pos, fun _ => her e (by rw [← hR, he]; rfl) h38 g38⟩)
                have k7 := needP_ok n7
                have B := q38.2.2.1
                have e20 : h38.1 m 20 = nI (bN (dB P)) := B.1.2.2.2.1
                have en38 := (q38.1.1.1.2.1 (t + 1) tJ1).2.2.2 k1
                rw [hls] at en38
                rw [e20, nI_clamp (n := bN (dB P)) (by omega), nI_clamp (n := t + 1) (by omega), en38]
                refine ⟨vp_in_nI (by omega) (by omega), vp_in_nI (by omega) (by omega), fun h43 e43 h44 e44 i46 e46 => ?_⟩
                have m43 : h43.1 = h38.1 := by rw [e43, pL_i]
                rw [m43, e20, nI_1] at e44
                have e19 : h44.1 m 19 = nI sd := by rw [e44, pI_n _ _ _ _ (by omega), m43]; exact q38.1.2.2.2.2
                rw [e19] at e46
                subst e46
                have e12 : h44.1 (m + 12) sd = nI (bN (dB P)) := by rw [e44, pI_o _ _ _ _ (by omega), m43]; exact B.1.2.2.1
                rw [e19, nI_clamp (n := sd) (by omega), e12, nI_1]
                refine ⟨vp_in_nI hs (by omega), vp_in_nI hs (by omega), fun h47 e47 => ?_⟩
                have o47 : ∀ a, ¬ a = m → ¬ a = m + 12 → h47.1 a = h38.1 a := fun a x y => by rw [e47, pI_o _ _ _ _ y, e44, pI_o _ _ _ _ x, m43]
                have m47 : ∀ j, ¬ j = 20 → h47.1 m j = h38.1 m j := fun j x => by rw [e47, pI_o _ _ _ _ (by omega), e44, pI_n _ _ _ _ (by omega), m43]
                have l47 : h47.2 = h43.2 := by rw [e47, pI_l, e44, pI_l]
                have v38 : ∀ a, ¬ a = m → h38.1 a = h37.1 a := fun a x => by rw [e38, pI_o _ _ _ _ x]
                have y13 : h38.1 (m + 13) (6 * sd + bN (dB P)) = nI (vaT c n (t + 1 + 1)) := by rw [v38 _ (by omega), e37, pI_o _ _ _ _ (by omega), o6 _ (by omega), e33, pI_o _ _ _ _ (by omega), o5 _ (by omega), e29, pI_o _ _ _ _ (by omega), o4 _ (by omega), e25, pI_s]
                have y14 : h38.1 (m + 14) (6 * sd + bN (dB P)) = nI (vaT c n t3) := by rw [v38 _ (by omega), e37, pI_o _ _ _ _ (by omega), o6 _ (by omega), e33, pI_o _ _ _ _ (by omega), o5 _ (by omega), e29, pI_s]
                have y15 : h38.1 (m + 15) (6 * sd + bN (dB P)) = nI (vaT c n t4) := by rw [v38 _ (by omega), e37, pI_o _ _ _ _ (by omega), o6 _ (by omega), e33, pI_s]
                have y16 : h38.1 (m + 16) (6 * sd + bN (dB P)) = nI (vaT c n t5) := by rw [v38 _ (by omega), e37, pI_s]
                rw [n7] at hR
                refine hok (t7, boatS ls (plT c n (t + 1)) (vaT c n (t + 1 + 1)) (vaT c n t3) (vaT c n t4) (vaT c n t5) (plT c n (t + 1 + 1)) (plT c n t3) (plT c n t4) (plT c n t5) P) hR.symm h47 ?_ ?_
                · obtain ⟨⟨s1, s1a, s1b, s1c, s1d⟩, s2, s3, s4, s5, s6⟩ := q38
                  refine ⟨⟨⟨s1.1.mv (fun a x y => ⟨o47 a (by omega) (by omega), by rw [l47, e43, pL_o _ _ _ _ (by omega)]⟩), s1.2.1, by rw [m47 13 (by omega)]; exact s1.2.2.1, by rw [m47 11 (by omega)]; exact s1.2.2.2⟩, by rw [m47 12 (by omega)]; exact s1a, by rw [m47 34 (by omega)]; exact s1b, by rw [m47 40 (by omega)]; exact s1c, by rw [m47 19 (by omega)]; exact s1d⟩, s2.tr ?_, ?_, s4.mv (fun a x y => o47 a (by omega) (by omega)), s5.mv (m47 15 (by omega)) (m47 16 (by omega)), s6⟩
                  · rw [e47, e44, e43]
                    exact ((PF.nm).tr (PF.fd (by unfold fdM; omega))).tr (PF.wr (by unfold own; omega))
                  · obtain ⟨⟨q1, q2', q3, q4', q5', q6'⟩, q7, q8⟩ := s3
                    refine ⟨⟨by rw [o47 _ (by omega) (by omega)]; exact q1, by rw [o47 _ (by omega) (by omega)]; exact q2', by rw [e47, pI_s]; rfl, by rw [e47, pI_o _ _ _ _ (by omega), e44, pI_s]; rfl, by rw [o47 _ (by omega) (by omega)]; exact q5', by rw [o47 _ (by omega) (by omega)]; exact q6'⟩, fun k hk' => ?_, fun w x x1 x2 => ?_⟩
                    · have hk2 : k < bN (dB P) + 1 := hk'
                      rw [o47 _ (by omega) (by omega), o47 _ (by omega) (by omega), o47 _ (by omega) (by omega), o47 _ (by omega) (by omega), l47, e43]
                      show h38.1 (m + 13) (6 * sd + k) = nI (upN (bX (dB P)) (bN (dB P)) (vaT c n (t + 1 + 1)) k) ∧ h38.1 (m + 14) (6 * sd + k) = nI (upN (bY (dB P)) (bN (dB P)) (vaT c n t3) k) ∧ h38.1 (m + 15) (6 * sd + k) = nI (upN (bS (dB P)) (bN (dB P)) (vaT c n t4) k) ∧ h38.1 (m + 16) (6 * sd + k) = nI (upN (bNo (dB P)) (bN (dB P)) (vaT c n t5) k) ∧ (pL h38 (m + 8) (bN (dB P)) (lN (bse 27 ls))).2 (m + 8) k = lN (bse 27 (if k = bN (dB P) then ls else dM P k)) ∧ upN (bX (dB P)) (bN (dB P)) (vaT c n (t + 1 + 1)) k ≤ 9999 ∧ upN (bY (dB P)) (bN (dB P)) (vaT c n t3) k ≤ 9999 ∧ (if k = bN (dB P) then ls else dM P k).length ≤ 8 ∧ ltL (if k = bN (dB P) then ls else dM P k)
                      unfold upN
                      by_cases w : k = bN (dB P)
                      · subst w
                        rw [if_pos rfl, if_pos rfl, if_pos rfl, if_pos rfl, if_pos rfl, pL_s]
                        exact ⟨y13, y14, y15, y16, rfl, v2, v4, lsl, lsL⟩
                      · rw [if_neg w, if_neg w, if_neg w, if_neg w, if_neg w, pL_n _ _ _ _ (by omega)]
                        exact q7 k (show k < bN (dB P) by omega)
                    · rw [o47 _ (by omega) (by omega)]
                      exact q8 w x x1 x2
                · show Fb c n t7 _
                  rw [k7.2.2]
                  exact (F6.W (k := 0)).on (by rw [k7.1]; decide)
              · exact dead4 e h37 _ (by rw [← hR, he]; rfl) (wr g6 (by omega) e37)
            · have g33 := wr g5 (by omega) e33
              refine P_boundedF g33 ⟨vpN, fun h37 e37 => ?_⟩
              exact dead4 e h37 _ (by rw [← hR, he]; rfl) (wr g33 (by omega) e37)
          · have g29 := wr g4 (by omega) e29
            refine P_boundedF g29 ⟨vpN, fun h33 e33 => ?_⟩
            have g33 := wr g29 (by omega) e33
            refine P_boundedF g33 ⟨vpN, fun h37 e37 => ?_⟩
            exact dead4 e h37 _ (by rw [← hR, he]; rfl) (wr g33 (by omega) e37)
        · have g25 := wr g2 (by omega) e25
          refine P_boundedF g25 ⟨vpN, fun h29 e29 => ?_⟩
          have g29 := wr g25 (by omega) e29
          refine P_boundedF g29 ⟨vpN, fun h33 e33 => ?_⟩
          have g33 := wr g29 (by omega) e33
          refine P_boundedF g33 ⟨vpN, fun h37 e37 => ?_⟩
          exact dead4 e h37 _ (by rw [← hR, he]; rfl) (wr g33 (by omega) e37)
      refine lp_for (bN (dB P)) (fun j x => ∃ h', x = (nI j, h') ∧ MD r h0 h' m sd c n J (t + 1 + 1) b K (dB P, dM P, addF (exF (fun i => decide (dM P i = ls)) j) 3 (plT c n (t + 1)) (dF P))) ?_ ?_ _ ⟨h7, rfl, ?_⟩
      · rintro j x KK hj ⟨h', rfl, q⟩ hK
        have e20 : h'.1 m 20 = nI (bN (dB P)) := q.2.2.1.1.2.2.2.1
        have en' := (q.1.1.1.2.1 (t + 1) tJ1).2.2.2 k1
        rw [hls] at en'
        obtain ⟨-, -, -, -, nm, -, -, nl, nL⟩ := q.2.2.1.2.1 j hj
        unfold DB_Mo_tellBoat_34
        show (h'.1 m 20 ≤ nI j → _) ∧ (¬ h'.1 m 20 ≤ nI j → _)
        rw [e20, r21, r8, nI_clamp (n := j) (by omega), nI_clamp (n := t + 1) (by omega), nm, en']
        have ee : exF (fun i => decide (dM P i = ls)) (j + 1) = (exF (fun i => decide (dM P i = ls)) j || decide (dM P j = ls)) := rfl
        refine ⟨fun z => absurd ((nI_leI (by omega) (by omega)).mp z) (by omega), fun _ => ⟨fun z => absurd q.1.1.2.2.1 z, fun _ => ⟨vp_in_nI (by omega) (by omega), vp_in_nI (by omega) (by omega), fun z x15 e15 => ?_, fun z => ?_⟩⟩⟩
        · rw [nI_1] at e15; subst e15
          refine hK _ ⟨h', rfl, ?_⟩
          have ne : ¬ dM P j = ls := fun w => z (cmp0.mpr (by show lN (bse 27 (dM P j)) = _; rw [w]))
          rw [ee, decide_eq_false ne, Bool.or_false]; exact q
        · have eq : dM P j = ls := bse_inj (b := 27) (by omega) 8 _ _ nl nL lsL (la_inj (b62 nl nL) (b62 lsl lsL) (cmp0.mp z))
          refine P_wrong (k := 3) q.1.1.1 q.1.1.2.2.1 tJ1 ⟨by omega, by omega⟩ q.2.2.2.2.1 (hfW.add) (fun h2 v2 F2 x18 e18 => ?_)
          rw [nI_1] at e18; subst e18
          obtain ⟨s2, -, -, -⟩ := q.fl v2 F2 addF_none
          refine hK _ ⟨h2, rfl, ?_⟩
          rw [ee, decide_eq_true eq, ← addF_or]; exact s2
      · rintro x KK ⟨h', rfl, q⟩
        have e20 : h'.1 m 20 = nI (bN (dB P)) := q.2.2.1.1.2.2.2.1
        unfold DB_Mo_tellBoat_34
        exact ⟨fun _ => nums h' q, fun z => absurd (by show h'.1 m 20 ≤ nI _; rw [e20]; exact Int32.le_refl _) z⟩
      · show MD r h0 h7 m sd c n J (t + 1 + 1) b K (dB P, dM P, addF false 3 (plT c n (t + 1)) (dF P))
        rw [addF_f]; exact s7
    · rw [← hR]; show bnd (bnd (needP (kdT c n) (plT c n) 2 (t + 1)) _) _ = _; rw [he]; rfl
  · have g1 : erM m sd (2, plT c n t) h0 h1 := FaultM.er (e := (2, plT c n t)) f1 ⟨(by decide : ¬ (2 : Nat) = 0), (by decide : (2 : Nat) ≤ 9)⟩ s
    rw [g1.2.2] at e4
    subst e4
    have o1 : h1.1 (m + 12) = h.1 (m + 12) := by unfold FaultM at f1; rw [f1, pI_o _ _ _ _ (by omega), pI_o _ _ _ _ (by omega)]
    refine ⟨vp_in_nI hs (by omega), fun x5 e5 x6 e6 => ?_⟩
    have e5' := x5e _ _ g1.2.2 (by rw [o1]; exact s.2.2.1.1.2.2.1) e5
    subst e5'
    exact g1.must (deadL _ h1 _ (by rw [← hR, needP_2 hk t4]; rfl) g1)
