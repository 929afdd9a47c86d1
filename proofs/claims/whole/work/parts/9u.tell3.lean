/-! rows, boats, all that is told: the class's side -/
theorem erD.needF {r : TR} {h0 h : TH} {q d : Nat} {e : Nat × Nat} {k : Int32} {Q : Int32 → TH → Prop} (g : erD q d e h0 h) (hQ : Q 0 h) : D_Rd_need r (q + 1) k h Q := P_needF g.2.1.ne hQ
theorem P_failD {r : TR} {h0 h : TH} {q d n J t k : Nat} {c : Nat → Nat} {P : PSt} {Q : TH → Prop} (ha : apd q d) (hk : ¬ k = 0 ∧ k ≤ 9) (s : RD r h0 h q d c n J t P) (hQ : ∀ h', erD q d (k, plT c n t) h0 h' → Q h') : D_Rd_fail r (q + 1) (nI k) h Q := by
  have ha' := ha
  unfold apd at ha'
  refine P_RdFail s.1 (fun h' f => hQ h' ?_)
  have F := f.F hk (by have := s.1.1.2.2.1; have := s.1.2.1; omega) s.1.2.2.2
  unfold Fault at f
  refine ⟨s.2.1.tr (by rw [f]; exact (PX.fd ha (by omega)).tr (PX.fd ha (by omega))), F, ?_⟩
  rw [f]
  exact ((s.2.2.fd ha ⟨by omega, by omega⟩).fd ha ⟨by omega, by omega⟩).1.s
theorem P_tellRow {r : TR} {h0 h : TH} {q d n J t : Nat} {f : Nat → Int32} {P : PSt} {Q : TH → Prop} (ha : apd q d) (hJ : Jok (kdT (fun j => byC (f j)) n) J) (rd : r (q + 1) 2 = d) (rb : r d 5 = d + 1) (tp : TpX r h0 q n f) (s : RD r h0 h q d (fun j => byC (f j)) n J t P) (hok : ∀ p, rowP (kdT (fun j => byC (f j)) n) (plT (fun j => byC (f j)) n) (nmT (fun j => byC (f j)) n) t P = .ok p → ∀ h', RD r h0 h' q d (fun j => byC (f j)) n J p.1 p.2 → Q h') (her : ∀ e, rowP (kdT (fun j => byC (f j)) n) (plT (fun j => byC (f j)) n) (nmT (fun j => byC (f j)) n) t P = .error e → ∀ h', erD q d e h0 h' → Q h') : D_Rd_tellRow r (q + 1) h Q := by
  have eH := s.2.2.1.2.1.1
  have hH := s.2.2.1.2.1.2
  have dead : ∀ (e : Nat × Nat) h1, erD q d e h0 h1 → rowP (kdT (fun j => byC (f j)) n) (plT (fun j => byC (f j)) n) (nmT (fun j => byC (f j)) n) t P = .error e → DJ_Rd_tellRow_16 r (q + 1) h1 Q := by
    intro e h1 g eR
    unfold DJ_Rd_tellRow_16
    exact g.needF (fun x5 e5 => g.needF ⟨fun _ => her e eR h1 g, fun z => absurd rfl z⟩)
  unfold D_Rd_tellRow
  rw [rd, eH]
  generalize hR : rowP (kdT (fun j => byC (f j)) n) (plT (fun j => byC (f j)) n) (nmT (fun j => byC (f j)) n) t P = R at hok her dead
  unfold rowP at hR
  refine ⟨fun z => ?_, fun z => ?_⟩
  · have z' := (nI_ltI (b := 5) (by omega) (by omega)).mp z
    rw [if_pos z'] at hR
    unfold DJ_Rd_tellRow_16
    refine P_needD (k := 4) ha hJ s (by omega) (by omega) (fun t1 n1 h1 e1 s1 x5 e5 => ?_) (fun e he h1 g1 _ x5 e5 => g1.needF ⟨fun _ => her e (by rw [← hR, he]; rfl) h1 g1, fun z => absurd rfl z⟩)
    rw [s1.1.2.2.2] at e5
    subst e5
    replace hR : bnd (needP (kdT (fun j => byC (f j)) n) (plT (fun j => byC (f j)) n) 2 t1) (fun t2 => .ok (t2, rowS (nmT (fun j => byC (f j)) n t1) (plT (fun j => byC (f j)) n t1) P)) = R := by rw [← hR, n1]; rfl
    refine P_needD (k := 2) ha hJ s1 (by omega) (by omega) (fun t2 n2 h2 e2 s2 => ⟨fun w => absurd w z01, fun _ => ?_⟩) (fun e he h2 g2 _ => ⟨fun _ => her e (by rw [← hR, he]; rfl) h2 g2, fun w => absurd rfl w⟩)
    obtain ⟨a1, a2, -⟩ := needP_ok n2
    have tJ1 := s1.1.2.1
    have j4 := hJ.1
    obtain ⟨⟨r7, r8, r9⟩, tk, -, -⟩ := s2.1.1
    obtain ⟨u1, u2, u3⟩ := tk t1 tJ1
    rw [r8, r9, nI_clamp (n := t1) (by omega), u2, u3 (by omega) (by omega)]
    refine ⟨vp_in_nI (by omega) (by omega), vp_in_nI (by omega) (by omega), P_addRow ha rd rb (s2.2.1.tp ha tp) s2 a1 z' (fun h3 s3 => hok (t2, rowS (nmT (fun j => byC (f j)) n t1) (plT (fun j => byC (f j)) n t1) P) ?_ h3 s3)⟩
    rw [← hR, n2]; rfl
  · have z' : ¬ bH (dB P) < 5 := fun w => z (nI_lt (b := 5) w (by omega))
    rw [if_neg z'] at hR
    exact P_failD (k := 2) ha ⟨by omega, by omega⟩ s (fun h1 g1 => dead _ h1 g1 hR.symm)
theorem P_nameAt {r : TR} {h : TH} {q n i k : Nat} {f : Nat → Int32} {Q : Int64 → TH → Prop} (t : TpX r h q n f) (hk : k ≤ 8) (hik : i + k ≤ n) (hlt : ∀ j, j < k → isLt (byC (f (i + j))) = true) (hQ : Q (lN (bse 32 (nmL (fun j => byC (f j)) i k))) h) : D_Rd_nameAt r (q + 1) (nI i) (nI k) h Q := by
  obtain ⟨r0, e1, n2, e2⟩ := t
  unfold D_Rd_nameAt
  refine lp_for k (fun j s => s = (lN (bse 32 (nmL (fun j => byC (f j)) i j)), nI j, h)) ?_ ?_ _ rfl
  · rintro j s K hj rfl hK
    have d := isLt_i.mp (hlt j hj)
    have eb := (by_ok (e2 (i + j) (by omega)).2).2.2.2.2.2 (by omega)
    unfold DB_Rd_nameAt_5
    refine ⟨fun z => absurd ((nI_leI (by omega) (by omega)).mp z) (by omega), fun _ i5 e5 => ?_⟩
    have e5' : i5 = nI (i + j) := by rw [e5, nI_add]
    subst e5'
    rw [r0, nI_clamp (n := i + j) (by omega), (e2 (i + j) (by omega)).1, eb, nI_l (by omega)]
    refine ⟨vp_in_nI (by omega) (by omega), fun x6 e6 x7 e7 => ?_⟩
    rw [nI_1] at e7; subst e7
    have : x6 = lN (bse 32 (nmL (fun j => byC (f j)) i (j + 1))) := by
      rw [e6, nmL_s, bse_snoc]
      show (lN 32 * lN _ + lN _) - lN 97 + lN 1 = _
      rw [la_mul, la_add, la_sub (by omega), la_add]
      congr 1
      omega
    subst this
    exact hK _ rfl
  · rintro s K rfl
    unfold DB_Rd_nameAt_5
    exact ⟨fun _ => hQ, fun z => absurd (Int32.le_refl _) z⟩
theorem P_isNamed {r : TR} {h : TH} {d : Nat} {P : PSt} {ls : List Nat} {Q : Int32 → TH → Prop} (r7 : r d 7 = d + 3) (g : DXb h d P) (hl : ls.length ≤ 8) (hls : ltL ls) (h1 : exF (fun i => decide (dM P i = ls)) (bN (dB P)) = true → Q 1 h) (h0 : exF (fun i => decide (dM P i = ls)) (bN (dB P)) = false → Q 0 h) : D_Bay_isNamed r d (lN (bse 32 ls)) h Q := by
  have hn := g.2.2.1.2
  unfold D_Bay_isNamed
  refine lp_for (bN (dB P)) (fun j s => s = (nI j, h) ∧ exF (fun i => decide (dM P i = ls)) j = false) ?_ ?_ _ ⟨rfl, rfl⟩
  · rintro j s K hj ⟨rfl, ex⟩ hK
    obtain ⟨-, -, -, -, g5, -, -, g8, g9⟩ := g.2.2.2.2.2.1 j hj
    have b1 := bse_lt8 (b := 32) (by omega) (by omega) g8 g9
    have b2 := bse_lt8 (b := 32) (by omega) (by omega) hl hls
    unfold DB_Bay_isNamed_2
    rw [g.2.2.1.1, r7, nI_clamp (n := j) (by omega), g5]
    have eqv : lg_cmp (lN (bse 32 (dM P j))) (lN (bse 32 ls)) = 0 ↔ dM P j = ls := by
      rw [cmp0, pk_lEQ (by omega) (by omega)]
      exact ⟨fun u => bse_inj (by omega) _ _ _ (Nat.le_refl _) g9 hls u, fun u => by rw [u]⟩
    refine ⟨fun z => absurd ((nI_leI (by omega) (by omega)).mp z) (by omega), fun _ => ⟨vp_in_nI (by omega) (by omega), fun z x5 e5 => ?_, fun z => h1 ?_⟩⟩
    · rw [nI_1] at e5; subst e5
      refine hK _ ⟨rfl, ?_⟩
      show (exF (fun i => decide (dM P i = ls)) j || decide (dM P j = ls)) = false
      rw [ex, decide_eq_false (fun w => z (eqv.mpr w))]; rfl
    · exact exF_t (p := fun i => decide (dM P i = ls)) (decide_eq_true (eqv.mp z)) _ hj
  · rintro s K ⟨rfl, ex⟩
    unfold DB_Bay_isNamed_2
    rw [g.2.2.1.1]
    exact ⟨fun _ => h0 ex, fun z => absurd (Int32.le_refl _) z⟩
theorem addF_f (k p : Nat) (fl : Option (Nat × Nat)) : addF false k p fl = fl := by cases fl <;> rfl
theorem P_tellBoat {r : TR} {h0 h : TH} {q d n J t : Nat} {f : Nat → Int32} {P : PSt} {Q : TH → Prop} (ha : apd q d) (hJ : Jok (kdT (fun j => byC (f j)) n) J) (hv : ∀ t, kdT (fun j => byC (f j)) n t = 3 → vaT (fun j => byC (f j)) n t ≤ 9999) (rd : r (q + 1) 2 = d) (rb : r d 7 = d + 3 ∧ r d 8 = d + 4 ∧ r d 9 = d + 5 ∧ r d 10 = d + 6 ∧ r d 11 = d + 7) (tp : TpX r h0 q n f) (s : RD r h0 h q d (fun j => byC (f j)) n J t P) (hok : ∀ p, boatP (kdT (fun j => byC (f j)) n) (plT (fun j => byC (f j)) n) (vaT (fun j => byC (f j)) n) (nmT (fun j => byC (f j)) n) t P = .ok p → ∀ h', RD r h0 h' q d (fun j => byC (f j)) n J p.1 p.2 → Q h') (her : ∀ e, boatP (kdT (fun j => byC (f j)) n) (plT (fun j => byC (f j)) n) (vaT (fun j => byC (f j)) n) (nmT (fun j => byC (f j)) n) t P = .error e → ∀ h', erD q d e h0 h' → Q h') : D_Rd_tellBoat r (q + 1) h Q := by
  have ha' := ha
  unfold apd at ha'
  have eN := s.2.2.1.2.2.1.1
  have hN := s.2.2.1.2.2.1.2
  have j4 := hJ.1
  generalize hR : boatP (kdT (fun j => byC (f j)) n) (plT (fun j => byC (f j)) n) (vaT (fun j => byC (f j)) n) (nmT (fun j => byC (f j)) n) t P = R at hok her
  unfold boatP at hR
  unfold D_Rd_tellBoat
  rw [rd, eN]
  refine ⟨fun z => ?_, fun z => ?_⟩
  · have z' := (nI_ltI (b := 6) (by omega) (by omega)).mp z
    rw [if_pos z'] at hR
    /- the writes, behind a fault -/
    have wr : ∀ (e : Nat × Nat) (h2 : TH) (l2 : Int64) (x19 x22 x25 x28 : Int32), erD q d e h0 h2 → h2.1 d 2 = nI (bN (dB P)) → R = .error e → ∀ x31 : Int32, x31 = h2.1 (r (q + 1) 2) 2 → vp_in x31 6 ∧ ∀ h34, h34 = pL h2 (r (r (q + 1) 2) 7) x31.toNatClampNeg l2 → vp_in x31 6 ∧ ∀ h37, h37 = pI h34 (r (r (q + 1) 2) 8) x31.toNatClampNeg x19 → vp_in x31 6 ∧ ∀ h40, h40 = pI h37 (r (r (q + 1) 2) 9) x31.toNatClampNeg x22 → vp_in x31 6 ∧ ∀ h43, h43 = pI h40 (r (r (q + 1) 2) 10) x31.toNatClampNeg x25 → vp_in x31 6 ∧ ∀ h46, h46 = pI h43 (r (r (q + 1) 2) 11) x31.toNatClampNeg x28 → ∀ h48, h48 = pI h46 (r (q + 1) 2) 2 ((h46.1 (r (q + 1) 2) 2) + 1) → Q h48 := by
      intro e h2 l2 x19 x22 x25 x28 g2 e2 eR x31 e31
      rw [rd, e2] at e31
      subst e31
      rw [rd, rb.1, rb.2.1, rb.2.2.1, rb.2.2.2.1, rb.2.2.2.2]
      refine ⟨vp_in_nI z' (by omega), fun h34 e34 => ⟨vp_in_nI z' (by omega), fun h37 e37 => ⟨vp_in_nI z' (by omega), fun h40 e40 => ⟨vp_in_nI z' (by omega), fun h43 e43 => ⟨vp_in_nI z' (by omega), fun h46 e46 h48 e48 => her e eR h48 ?_⟩⟩⟩⟩⟩
      have d46 : h46.1 d = h2.1 d := by rw [e46, pI_o _ _ _ _ (by omega), e43, pI_o _ _ _ _ (by omega), e40, pI_o _ _ _ _ (by omega), e37, pI_o _ _ _ _ (by omega), e34, pL_i]
      have q48 : h48.1 (q + 1) = h2.1 (q + 1) := by rw [e48, pI_o _ _ _ _ (by omega), e46, pI_o _ _ _ _ (by omega), e43, pI_o _ _ _ _ (by omega), e40, pI_o _ _ _ _ (by omega), e37, pI_o _ _ _ _ (by omega), e34, pL_i]
      rw [d46, e2, nI_1] at e48
      obtain ⟨f1, f2, f3, t', f4, f5⟩ := g2.2.1
      obtain ⟨W, H, N, s1, s2, s3, s4, s5, s6⟩ := g2.2.2
      refine ⟨g2.1.tr ?_, ⟨f1, by rw [q48]; exact f2, by rw [q48]; exact f3, t', f4, by rw [q48]; exact f5⟩, W, H, bN (dB P) + 1, by rw [e48, pI_n _ _ _ _ (by omega), d46]; exact s1, s2, by rw [e48, pI_n _ _ _ _ (by omega), d46]; exact s3, s4, by rw [e48, pI_s], by omega⟩
      have p34 : PX q d h2 h34 := by
        rw [e34]
        exact ⟨Fr.pL (Or.inr (by omega)), fun x _ _ _ _ _ => rfl, rfl, rfl, rfl⟩
      rw [e48, e46, e43, e40, e37]
      exact ((((p34.tr (PX.dr ha (by omega))).tr (PX.dr ha (by omega))).tr (PX.dr ha (by omega))).tr (PX.dr ha (by omega))).tr (PX.dr ha (by omega))
    unfold DJ_Rd_tellBoat_17
    refine P_needD (k := 5) ha hJ s (by omega) (by omega) (fun t1 n1 h1 e1 s1 x5 e5 => ?_) (fun e he h1 g1 _ x5 e5 => g1.needF ⟨fun z => absurd rfl z, fun _ => her e (by rw [← hR, he]; rfl) h1 g1⟩)
    rw [s1.1.2.2.2] at e5
    subst e5
    replace hR : bnd (needP (kdT (fun j => byC (f j)) n) (plT (fun j => byC (f j)) n) 2 t1) (fun t2 => bnd (needP (kdT (fun j => byC (f j)) n) (plT (fun j => byC (f j)) n) 3 t2) (fun t3 => bnd (needP (kdT (fun j => byC (f j)) n) (plT (fun j => byC (f j)) n) 3 t3) (fun t4 => bnd (needP (kdT (fun j => byC (f j)) n) (plT (fun j => byC (f j)) n) 3 t4) (fun t5 => bnd (needP (kdT (fun j => byC (f j)) n) (plT (fun j => byC (f j)) n) 3 t5) (fun t6 => .ok (t6, boatS (nmT (fun j => byC (f j)) n t1) (plT (fun j => byC (f j)) n t1) (vaT (fun j => byC (f j)) n t2) (vaT (fun j => byC (f j)) n t3) (vaT (fun j => byC (f j)) n t4) (vaT (fun j => byC (f j)) n t5) (plT (fun j => byC (f j)) n t2) (plT (fun j => byC (f j)) n t3) (plT (fun j => byC (f j)) n t4) (plT (fun j => byC (f j)) n t5) P)))))) = R := by rw [← hR, n1]; rfl
    refine P_needD (k := 2) ha hJ s1 (by omega) (by omega) (fun t2 n2 h2 e2 s2 => ⟨fun _ => ?_, fun w => absurd w z01⟩) (fun e he h2 g2 _ => ⟨fun w => absurd rfl w, fun _ => her e (by rw [← hR, he]; rfl) h2 g2⟩)
    obtain ⟨a1, a2, -⟩ := needP_ok n2
    have tJ1 := s1.1.2.1
    obtain ⟨⟨r7, r8, r9⟩, tk, -, -⟩ := s2.1.1
    obtain ⟨u1, u2, u3⟩ := tk t1 tJ1
    obtain ⟨L0, L8, Ln, Ll, eV, eNm⟩ := nm_ok a1
    have n2k := tp.2.2.1
    rw [r8, r9, nI_clamp (n := t1) (by omega), u2, u3 (by omega) (by omega), eV]
    refine ⟨vp_in_nI (by omega) (by omega), vp_in_nI (by omega) (by omega), P_nameAt (s2.2.1.tp ha tp) L8 Ln Ll ?_⟩
    rw [← eNm]
    have lsl : (nmT (fun j => byC (f j)) n t1).length ≤ 8 := by rw [eNm, nmL_len]; exact L8
    have lsL : ltL (nmT (fun j => byC (f j)) n t1) := by rw [eNm]; exact nmL_lt Ll
    replace hR : bnd (needP (kdT (fun j => byC (f j)) n) (plT (fun j => byC (f j)) n) 3 t2) (fun t3 => bnd (needP (kdT (fun j => byC (f j)) n) (plT (fun j => byC (f j)) n) 3 t3) (fun t4 => bnd (needP (kdT (fun j => byC (f j)) n) (plT (fun j => byC (f j)) n) 3 t4) (fun t5 => bnd (needP (kdT (fun j => byC (f j)) n) (plT (fun j => byC (f j)) n) 3 t5) (fun t6 => .ok (t6, boatS (nmT (fun j => byC (f j)) n t1) (plT (fun j => byC (f j)) n t1) (vaT (fun j => byC (f j)) n t2) (vaT (fun j => byC (f j)) n t3) (vaT (fun j => byC (f j)) n t4) (vaT (fun j => byC (f j)) n t5) (plT (fun j => byC (f j)) n t2) (plT (fun j => byC (f j)) n t3) (plT (fun j => byC (f j)) n t4) (plT (fun j => byC (f j)) n t5) P))))) = R := by rw [← hR, n2]; rfl
    generalize nmT (fun j => byC (f j)) n t1 = ls at *
    generalize plT (fun j => byC (f j)) n t1 = p1 at *
    /- the four numbers, and the writes -/
    have nums : ∀ (h3 : TH), RD r h0 h3 q d (fun j => byC (f j)) n J t2 (dB P, dM P, addF (exF (fun i => decide (dM P i = ls)) (bN (dB P))) 3 p1 (dF P)) → DJ_Rd_tellBoat_76 r (q + 1) (lN (bse 32 ls)) h3 Q := by
      intro h3 s3
      unfold DJ_Rd_tellBoat_76
      have dd : ∀ (h' : TH) (fl : Option (Nat × Nat)) (t' : Nat), RD r h0 h' q d (fun j => byC (f j)) n J t' (dB P, dM P, fl) → h'.1 d 2 = nI (bN (dB P)) := fun h' fl t' w => w.2.2.1.2.2.1.1
      refine P_number ha hJ hv s3 (mx := 9) (by omega) (fun t3 n3 h4 s4 v2 => ?_) (fun e he h4 g4 w4 => P_numberF g4 (P_numberF g4 (P_numberF g4 (wr e h4 _ _ _ _ _ g4 (by rw [w4 d (by omega)]; exact dd h3 _ _ s3) (by rw [← hR, he]; rfl)))))
      replace hR := hR
      rw [n3] at hR
      refine P_number ha hJ hv s4 (mx := 9) (by omega) (fun t4 n4 h5 s5 v3 => ?_) (fun e he h5 g5 w5 => P_numberF g5 (P_numberF g5 (wr e h5 _ _ _ _ _ g5 (by rw [w5 d (by omega)]; exact dd h4 _ _ s4) (by rw [← hR]; show bnd (needP _ _ 3 t3) _ = _; rw [he]; rfl))))
      refine P_number ha hJ hv s5 (mx := 9) (by omega) (fun t5 n5 h6 s6 v4 => ?_) (fun e he h6 g6 w6 => P_numberF g6 (wr e h6 _ _ _ _ _ g6 (by rw [w6 d (by omega)]; exact dd h5 _ _ s5) (by rw [← hR]; show bnd (needP _ _ 3 t3) _ = _; rw [n4]; show bnd (needP _ _ 3 t4) _ = _; rw [he]; rfl)))
      refine P_number ha hJ hv s6 (mx := 9) (by omega) (fun t6 n6 h7 s7 v5 => ?_) (fun e he h7 g7 w7 => wr e h7 _ _ _ _ _ g7 (by rw [w7 d (by omega)]; exact dd h6 _ _ s6) (by rw [← hR]; show bnd (needP _ _ 3 t3) _ = _; rw [n4]; show bnd (needP _ _ 3 t4) _ = _; rw [n5]; show bnd (needP _ _ 3 t5) _ = _; rw [he]; rfl))
      have eR : R = .ok (t6, boatS ls p1 (vaT (fun j => byC (f j)) n t2) (vaT (fun j => byC (f j)) n t3) (vaT (fun j => byC (f j)) n t4) (vaT (fun j => byC (f j)) n t5) (plT (fun j => byC (f j)) n t2) (plT (fun j => byC (f j)) n t3) (plT (fun j => byC (f j)) n t4) (plT (fun j => byC (f j)) n t5) P) := by rw [← hR]; show bnd (needP _ _ 3 t3) _ = _; rw [n4]; show bnd (needP _ _ 3 t4) _ = _; rw [n5]; show bnd (needP _ _ 3 t5) _ = _; rw [n6]; rfl
      intro x31 e31
      rw [rd, dd h7 _ _ s7] at e31
      subst e31
      rw [rd, rb.1, rb.2.1, rb.2.2.1, rb.2.2.2.1, rb.2.2.2.2, nI_clamp (n := bN (dB P)) (by omega)]
      refine ⟨vp_in_nI z' (by omega), fun h34 e34 => ⟨vp_in_nI z' (by omega), fun h37 e37 => ⟨vp_in_nI z' (by omega), fun h40 e40 => ⟨vp_in_nI z' (by omega), fun h43 e43 => ⟨vp_in_nI z' (by omega), fun h46 e46 h48 e48 => hok _ eR h48 ?_⟩⟩⟩⟩⟩
      have d46 : h46.1 d = h7.1 d := by rw [e46, pI_o _ _ _ _ (by omega), e43, pI_o _ _ _ _ (by omega), e40, pI_o _ _ _ _ (by omega), e37, pI_o _ _ _ _ (by omega), e34, pL_i]
      rw [d46, dd h7 _ _ s7, nI_1] at e48
      have o48 : ∀ a, ¬ a = d → ¬ a = d + 4 → ¬ a = d + 5 → ¬ a = d + 6 → ¬ a = d + 7 → h48.1 a = h7.1 a := fun a b1 b2 b3 b4 b5 => by rw [e48, pI_o _ _ _ _ b1, e46, pI_o _ _ _ _ b5, e43, pI_o _ _ _ _ b4, e40, pI_o _ _ _ _ b3, e37, pI_o _ _ _ _ b2, e34, pL_i]
      have l48 : h48.2 = h34.2 := by rw [e48, pI_l, e46, pI_l, e43, pI_l, e40, pI_l, e37, pI_l]
      have X48 : PX q d h7 h48 := by
        have p34 : PX q d h7 h34 := by
          rw [e34]
          exact ⟨Fr.pL (Or.inr (by omega)), fun x _ _ _ _ _ => rfl, rfl, rfl, rfl⟩
        rw [e48, e46, e43, e40, e37]
        exact ((((p34.tr (PX.dr ha (by omega))).tr (PX.dr ha (by omega))).tr (PX.dr ha (by omega))).tr (PX.dr ha (by omega))).tr (PX.dr ha (by omega))
      obtain ⟨g1, g2, g3, g4, g5, g6, g7⟩ := s7.2.2.1
      refine ⟨⟨X48.T ha s7.1.1, s7.1.2.1, by rw [o48 _ (by omega) (by omega) (by omega) (by omega) (by omega)]; exact s7.1.2.2.1, by rw [o48 _ (by omega) (by omega) (by omega) (by omega) (by omega)]; exact s7.1.2.2.2⟩, s7.2.1.tr X48, ⟨⟨by rw [e48, pI_n _ _ _ _ (by omega), d46]; exact g1.1, g1.2⟩, ⟨by rw [e48, pI_n _ _ _ _ (by omega), d46]; exact g2.1, g2.2⟩, ⟨by rw [e48, pI_s]; rfl, by show bN (dB P) + 1 ≤ 6; omega⟩, by rw [e48, pI_n _ _ _ _ (by omega), d46]; exact g4, by rw [e48, pI_n _ _ _ _ (by omega), d46]; exact g5, fun k hk' => ?_, fun w c hc => ?_⟩, s7.2.2.2.1.mv (fun a x y => o48 a (by omega) (by omega) (by omega) (by omega) (by omega)), s7.2.2.2.2.mv (by rw [o48 _ (by omega) (by omega) (by omega) (by omega) (by omega)]) (by rw [o48 _ (by omega) (by omega) (by omega) (by omega) (by omega)])⟩
      · have hk2 : k < bN (dB P) + 1 := hk'
        have c4 : h48.1 (d + 4) k = (pI h7 (d + 4) (bN (dB P)) (nI (vaT (fun j => byC (f j)) n t2))).1 (d + 4) k := by
          rw [e48, pI_o _ _ _ _ (by omega), e46, pI_o _ _ _ _ (by omega), e43, pI_o _ _ _ _ (by omega), e40, pI_o _ _ _ _ (by omega), e37]
          by_cases w : k = bN (dB P)
          · subst w; rw [pI_s, pI_s]
          · rw [pI_n _ _ _ _ (by omega), pI_n _ _ _ _ (by omega), e34, pL_i]
        have c5 : h48.1 (d + 5) k = (pI h7 (d + 5) (bN (dB P)) (nI (vaT (fun j => byC (f j)) n t3))).1 (d + 5) k := by
          rw [e48, pI_o _ _ _ _ (by omega), e46, pI_o _ _ _ _ (by omega), e43, pI_o _ _ _ _ (by omega), e40]
          by_cases w : k = bN (dB P)
          · subst w; rw [pI_s, pI_s]
          · rw [pI_n _ _ _ _ (by omega), pI_n _ _ _ _ (by omega), e37, pI_o _ _ _ _ (by omega), e34, pL_i]
        have c6 : h48.1 (d + 6) k = (pI h7 (d + 6) (bN (dB P)) (nI (vaT (fun j => byC (f j)) n t4))).1 (d + 6) k := by
          rw [e48, pI_o _ _ _ _ (by omega), e46, pI_o _ _ _ _ (by omega), e43]
          by_cases w : k = bN (dB P)
          · subst w; rw [pI_s, pI_s]
          · rw [pI_n _ _ _ _ (by omega), pI_n _ _ _ _ (by omega), e40, pI_o _ _ _ _ (by omega), e37, pI_o _ _ _ _ (by omega), e34, pL_i]
        have c7 : h48.1 (d + 7) k = (pI h7 (d + 7) (bN (dB P)) (nI (vaT (fun j => byC (f j)) n t5))).1 (d + 7) k := by
          rw [e48, pI_o _ _ _ _ (by omega), e46]
          by_cases w : k = bN (dB P)
          · subst w; rw [pI_s, pI_s]
          · rw [pI_n _ _ _ _ (by omega), pI_n _ _ _ _ (by omega), e43, pI_o _ _ _ _ (by omega), e40, pI_o _ _ _ _ (by omega), e37, pI_o _ _ _ _ (by omega), e34, pL_i]
        show h48.1 (d + 4) k = nI (upN (bX (dB P)) (bN (dB P)) (vaT (fun j => byC (f j)) n t2) k) ∧ h48.1 (d + 5) k = nI (upN (bY (dB P)) (bN (dB P)) (vaT (fun j => byC (f j)) n t3) k) ∧ h48.1 (d + 6) k = nI (upN (bS (dB P)) (bN (dB P)) (vaT (fun j => byC (f j)) n t4) k) ∧ h48.1 (d + 7) k = nI (upN (bNo (dB P)) (bN (dB P)) (vaT (fun j => byC (f j)) n t5) k) ∧ h48.2 (d + 3) k = lN (bse 32 (if k = bN (dB P) then ls else dM P k)) ∧ upN (bX (dB P)) (bN (dB P)) (vaT (fun j => byC (f j)) n t2) k ≤ 9999 ∧ upN (bY (dB P)) (bN (dB P)) (vaT (fun j => byC (f j)) n t3) k ≤ 9999 ∧ (if k = bN (dB P) then ls else dM P k).length ≤ 8 ∧ ltL (if k = bN (dB P) then ls else dM P k)
        unfold upN
        rw [c4, c5, c6, c7, l48, e34]
        by_cases w : k = bN (dB P)
        · subst w
          rw [if_pos rfl, if_pos rfl, if_pos rfl, if_pos rfl, if_pos rfl, pI_s, pI_s, pI_s, pI_s, pL_s]
          exact ⟨rfl, rfl, rfl, rfl, rfl, v2, v3, lsl, lsL⟩
        · rw [if_neg w, if_neg w, if_neg w, if_neg w, if_neg w, pI_n _ _ _ _ (by omega), pI_n _ _ _ _ (by omega), pI_n _ _ _ _ (by omega), pI_n _ _ _ _ (by omega), pL_n _ _ _ _ (by omega)]
          exact g6 k (by show k < bN (dB P); omega)
      · rw [o48 _ (by omega) (by omega) (by omega) (by omega) (by omega)]
        exact g7 w c hc
    rw [rd]
    refine P_isNamed rb.1 s2.2.2.1 lsl lsL (fun y => ⟨fun w => absurd w z01, fun _ => ⟨vp_in_nI (by omega) (by omega), ?_⟩⟩) (fun y => ⟨fun _ => nums h2 ?_, fun w => absurd rfl w⟩)
    · rw [u2]
      refine P_addFlaw (k := 3) ⟨by omega, by omega⟩ s2.2.2.2.2 (fun h3 w3 F3 => nums h3 ?_)
      have X3 : PX q d h2 h3 := by
        rcases w3 with w | w
        · rw [w]; exact PX.rf
        · rw [w]; exact (PX.fd ha (by omega)).tr (PX.fd ha (by omega))
      have e3 : ∀ a, ¬ a = q + 1 → h3.1 a = h2.1 a ∧ h3.2 a = h2.2 a := fun a hx => by
        rcases w3 with w | w
        · rw [w]; exact ⟨rfl, rfl⟩
        · rw [w, pI_o _ _ _ _ hx, pI_o _ _ _ _ hx, pI_l, pI_l]; exact ⟨rfl, rfl⟩
      have k3 : ∀ x, ¬ x = 5 → ¬ x = 6 → h3.1 (q + 1) x = h2.1 (q + 1) x := fun x x1 x2 => by
        rcases w3 with w | w
        · rw [w]
        · rw [w, pI_n _ _ _ _ (by omega), pI_n _ _ _ _ (by omega)]
      rw [y]
      have b := s2.2.2.1.mv (h' := h3) (fun a x y => e3 a (by omega))
      refine ⟨⟨X3.T ha s2.1.1, s2.1.2.1, by rw [k3 4 (by omega) (by omega)]; exact s2.1.2.2.1, by rw [k3 10 (by omega) (by omega)]; exact s2.1.2.2.2⟩, s2.2.1.tr X3, ⟨b.1, b.2.1, b.2.2.1, b.2.2.2.1, b.2.2.2.2.1, b.2.2.2.2.2.1, fun w => b.2.2.2.2.2.2 ?_⟩, s2.2.2.2.1.mv (fun a x y => (e3 a (by omega)).1), F3⟩
      cases hf : dF P with
      | none => rfl
      | some x => have w' : addF true 3 p1 (dF P) = none := w; rw [hf] at w'; cases w'
    · rw [y, addF_f]; exact s2
  · have z' : ¬ bN (dB P) < 6 := fun w => z (nI_lt (b := 6) w (by omega))
    rw [if_neg z'] at hR
    refine P_failD (k := 2) ha ⟨by omega, by omega⟩ s (fun h1 g1 => ?_)
    unfold DJ_Rd_tellBoat_17
    exact g1.needF (fun x5 e5 => g1.needF ⟨fun w => absurd rfl w, fun _ => her _ hR.symm h1 g1⟩)
