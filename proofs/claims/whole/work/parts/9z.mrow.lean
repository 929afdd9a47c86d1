/-! a row: the reference's side -/
theorem la_toI {a : Nat} (h : a < 2 ^ 62) : (lN a).toInt = a := Int64.toInt_ofNat_of_lt (Nat.lt_of_lt_of_le h (by decide))
theorem la_div {a : Nat} (h : a < 2 ^ 62) : lN a / 27 = lN (a / 27) := by
  apply Int64.toInt_inj.1
  have b : a / 27 < 2 ^ 62 := Nat.lt_of_le_of_lt (Nat.div_le_self _ _) h
  rw [Int64.toInt_div, la_toI h, la_toI b, show (27 : Int64).toInt = ((27 : Nat) : Int) by decide, ← Int.ofNat_tdiv]
  rw [Int.bmod_def]
  split <;> omega
theorem la_rem {a : Nat} (h : a < 2 ^ 62) : jreml (lN a) 27 = lN (a % 27) := by
  unfold jreml
  rw [la_div h]
  show lN a - lN (a / 27) * lN 27 = _
  rw [la_mul, la_sub (Nat.div_mul_le_self _ _)]
  congr 1
  have := Nat.div_add_mod a 27
  omega
theorem la_i {a : Nat} (h : a < 2 ^ 31) : (lN a).toInt32 = nI a := by
  apply Int32.toBitVec_inj.1
  show (BitVec.ofNat 64 a).signExtend 32 = BitVec.ofNat 32 a
  rw [BitVec.signExtend_eq_setWidth_of_le _ (by omega)]
  apply BitVec.eq_of_getLsbD_eq
  intro i hi
  simp [hi]
theorem la_pos {a : Nat} (h : a < 2 ^ 62) : lg_cmp (lN a) 0 ≤ 0 ↔ a = 0 := by
  unfold lg_cmp
  by_cases e : a = 0
  · subst e
    exact ⟨fun _ => rfl, fun _ => by decide⟩
  · have gt : lN a > 0 := by
      rw [gt_iff_lt, Int64.lt_iff_toInt_lt, la_toI h]
      show (0 : Int) < a
      omega
    rw [if_pos gt]
    exact ⟨fun z => absurd z (by decide), fun z => absurd z e⟩
theorem MD.ow {r : TR} {h0 h : TH} {m sd n J t b K a y : Nat} {c : Nat → Nat} {P P' : PSt} {v : Int32} (s : MD r h0 h m sd c n J t b K P) (ha : m + 9 ≤ a ∧ a ≤ m + 18) (ho : own m sd a y) (hl : ∀ h, DMl h m sd P b K → DMl h m sd P' b K) (hf : dF P' = dF P) (B : DMb (pI h a y v) m sd P') : MD r h0 (pI h a y v) m sd c n J t b K P' := by
  obtain ⟨⟨s1, s1a, s1b, s1c, s1d⟩, s2, s3, s4, s5, s6⟩ := s
  have e : (pI h a y v).1 m = h.1 m := pI_o _ _ _ _ (by omega)
  refine ⟨⟨⟨s1.1.mv (fun x p q => by rw [pI_o _ _ _ _ (by omega), pI_l]; exact ⟨rfl, rfl⟩), s1.2.1, by rw [e]; exact s1.2.2.1, by rw [e]; exact s1.2.2.2⟩, by rw [e]; exact s1a, by rw [e]; exact s1b, by rw [e]; exact s1c, by rw [e]; exact s1d⟩, s2.tr (PF.wr ho), B, hl _ (s4.mv (fun x p q => by rw [pI_o _ _ _ _ (by omega)])), ?_, s6⟩
  rw [hf]
  exact s5.mv (by rw [e]) (by rw [e])
def rowB (ls : List Nat) (P : PSt) (fl : Option (Nat × Nat)) : PSt := ((rowW ls (dB P), bH (dB P), bN (dB P), bCo (dB P), bSe (dB P), bK (dB P), bX (dB P), bY (dB P), bS (dB P), bNo (dB P), bPW (dB P), bPS (dB P), bPL (dB P)), dM P, fl)
theorem MD.cl {r : TR} {h0 h : TH} {m sd n J t b K x : Nat} {c : Nat → Nat} {P : PSt} {v : Int32} (s : MD r h0 h m sd c n J t b K P) (hx : 8 * bH (dB P) ≤ x) (hx2 : x < 40) : MD r h0 (pI h (m + 11) (40 * sd + x) v) m sd c n J t b K P := by
  refine s.ow (by omega) (by unfold own; omega) (fun _ g => g) rfl ?_
  obtain ⟨g1, g2, g3⟩ := s.2.2.1
  unfold DMb
  rw [pI_o _ _ _ _ (by omega), pI_o _ _ _ _ (by omega), pI_o _ _ _ _ (by omega), pI_o _ _ _ _ (by omega), pI_o _ _ _ _ (by omega), pI_o _ _ _ _ (by omega), pI_o _ _ _ _ (by omega), pI_o _ _ _ _ (by omega), pI_o _ _ _ _ (by omega), pI_o _ _ _ _ (by omega), pI_l]
  refine ⟨g1, g2, fun w y hy hy2 => ?_⟩
  rw [pI_n _ _ _ _ (by omega)]
  exact g3 w y hy hy2
theorem exF_rev {p : Nat → Bool} {L : Nat} : exF (fun j => p (L - 1 - j)) L = exF p L := by
  cases e : exF p L with
  | true =>
    obtain ⟨j, hj, hp⟩ := exF_x _ e
    refine exF_t (j := L - 1 - j) ?_ _ (by omega)
    rw [show L - 1 - (L - 1 - j) = j by omega]; exact hp
  | false => exact exF_no (fun j hj => exF_f e (by omega))
theorem addF_or {x y : Bool} {k p : Nat} {fl : Option (Nat × Nat)} : addF y k p (addF x k p fl) = addF (x || y) k p fl := by
  cases fl with
  | some z => rfl
  | none => cases x <;> cases y <;> rfl
theorem P_cellBy {r : TR} {h : TH} {x : Nat} {Q : Int32 → TH → Prop} (hx : x ≤ 26) (h1 : lok x = true → Q (nI (lkd x)) h) (h0 : lok x = false → Q (-1) h) : D_Mo_cellBy r (nI (96 + x)) h Q := by
  unfold D_Mo_cellBy
  have q : ∀ b, b < 200 → (nI (96 + x) = nI b ↔ 96 + x = b) := fun b hb => nI_eq (by omega) (by omega)
  refine ⟨fun z1 => ⟨fun z2 => ⟨fun z3 => h0 ?_, fun z3 => ?_⟩, fun z2 => ?_⟩, fun z1 => ?_⟩
  · have a1 : ¬ x = 15 := fun e => z1 (by rw [e]; rfl)
    have a2 : ¬ x = 18 := fun e => z2 (by rw [e]; rfl)
    have a3 : ¬ x = 13 := fun e => z3 (by rw [e]; rfl)
    unfold lok
    rw [beq_eq_false_iff_ne.mpr a1, beq_eq_false_iff_ne.mpr a2, beq_eq_false_iff_ne.mpr a3]; rfl
  · have e : x = 13 := by have := (q 109 (by omega)).mp z3; omega
    subst e; exact h1 rfl
  · have e : x = 18 := by have := (q 114 (by omega)).mp z2; omega
    subst e; exact h1 rfl
  · have e : x = 15 := by have := (q 111 (by omega)).mp z1; omega
    subst e; exact h1 rfl
theorem bse_nm {c : Nat → Nat} {i0 k : Nat} (h : isLt (c (i0 + k)) = true) : bse 27 (nmL c i0 (k + 1)) / 27 = bse 27 (nmL c i0 k) ∧ bse 27 (nmL c i0 (k + 1)) % 27 = c (i0 + k) - 96 ∧ ¬ bse 27 (nmL c i0 (k + 1)) = 0 := by
  have d := isLt_i.mp h
  rw [nmL_s, bse_snoc]
  omega
theorem bse_b {c : Nat → Nat} {i0 L k : Nat} (hL : L ≤ 8) (hk : k ≤ L) (h : ∀ j, j < L → isLt (c (i0 + j)) = true) : bse 27 (nmL c i0 k) < 2 ^ 62 := Nat.lt_of_lt_of_le (bse_lt8 (by omega) (by omega) (by rw [nmL_len]; omega) (nmL_lt (fun j hj => h j (by omega)))) (by decide)
theorem P_rowCount {r : TR} {m i0 L : Nat} {c : Nat → Nat} {h : TH} {l1 : Int32} {l2 : Int64} {E : Int32 → TH → Prop} {Q : TH → Prop} (hL : L ≤ 8) (hlt : ∀ j, j < L → isLt (c (i0 + j)) = true) (hE : E (nI L) h) : ∃ n, lp (fun (K : Int32 × Int64 × TH → Prop) (s : Int32 × Int64 × TH) => DB_Mo_tellRow_34 r m l1 l2 s.1 s.2.1 s.2.2 (fun y20 y21 h22 => K (y20, y21, h22)) (fun x23 h24 => E x23 h24) Q) n (0, lN (bse 27 (nmL c i0 L)), h) := by
  refine lp_for L (fun j s => s = (nI j, lN (bse 27 (nmL c i0 (L - j))), h)) ?_ ?_ _ rfl
  · rintro j s K hj rfl hK
    unfold DB_Mo_tellRow_34
    have e : L - j = L - (j + 1) + 1 := by omega
    have w := bse_nm (i0 := i0) (hlt (L - (j + 1)) (by omega))
    rw [← e] at w
    refine ⟨fun z => absurd ((la_pos (bse_b hL (by omega) hlt)).mp z) w.2.2, fun _ x18 e18 x19 e19 => ?_⟩
    rw [nI_1] at e18
    rw [la_div (bse_b hL (by omega) hlt), w.1] at e19
    subst e18; subst e19
    exact hK _ rfl
  · rintro s K rfl
    unfold DB_Mo_tellRow_34
    rw [Nat.sub_self]
    exact ⟨fun _ => hE, fun z => absurd ((la_pos (a := 0) (by decide)).mpr rfl) z⟩
theorem P_rowCells {r : TR} {h0 h : TH} {m sd n J t t1 b K L : Nat} {c : Nat → Nat} {P : PSt} {b0 : Bool} {E Q : TH → Prop} (hs : sd < 2) (s : MD r h0 h m sd c n J t b K (rowB (nmL c (plT c n t1) L) P (addF b0 6 (plT c n t1) (dF P)))) (ht : t1 ≤ J) (hf : Wk c n t1 6 (dF P)) (hH : bH (dB P) < 5) (hL : L ≤ 8) (hlt : ∀ j, j < L → isLt (c (plT c n t1 + j)) = true)
    (hE : ∀ h', MD r h0 h' m sd c n J t b K (rowB (nmL c (plT c n t1) L) P (addF (b0 || exF (fun j => !lok ((nmL c (plT c n t1) L).getD j 0)) L) 6 (plT c n t1) (dF P))) → (∀ j, j < L → lok ((nmL c (plT c n t1) L).getD j 0) = true → h'.1 (m + 11) (40 * sd + (8 * bH (dB P) + j)) = nI (lkd ((nmL c (plT c n t1) L).getD j 0))) → E h') :
    ∃ i, lp (fun (K : Int64 × Int32 × TH → Prop) (s : Int64 × Int32 × TH) => DB_Mo_tellRow_105 r m (nI t1) s.1 s.2.1 s.2.2 (fun y45 y46 h47 => K (y45, y46, h47)) (fun h48 => E h48) Q) i (lN (bse 27 (nmL c (plT c n t1) L)), nI L - 1, h) := by
  have hr := s.1.1.1.1
  have r22 : r m 22 = m + 9 := hr 22 (by decide) (by decide)
  have r24 : r m 24 = m + 11 := hr 24 (by decide) (by decide)
  have hls : ∀ j, j < L → (nmL c (plT c n t1) L).getD j 0 = c (plT c n t1 + j) - 96 := fun j hj => nmL_at _ _ _ _ hj
  generalize hg : nmL c (plT c n t1) L = ls at s hE hls ⊢
  rw [← hg]
  refine lp_for (σ := Int64 × Int32 × TH) L (fun i x => ∃ h', x = (lN (bse 27 (nmL c (plT c n t1) (L - i))), nI (L - i) - 1, h') ∧ MD r h0 h' m sd c n J t b K (rowB ls P (addF (b0 || exF (fun j => !lok (ls.getD (L - 1 - j) 0)) i) 6 (plT c n t1) (dF P))) ∧ ∀ j, L - i ≤ j → j < L → lok (ls.getD j 0) = true → h'.1 (m + 11) (40 * sd + (8 * bH (dB P) + j)) = nI (lkd (ls.getD j 0))) ?_ ?_ (lN (bse 27 (nmL c (plT c n t1) L)), nI L - 1, h) ⟨h, ?_, ?_, fun j a b => absurd b (by omega)⟩
  · rintro i x KK hi ⟨h', rfl, s', g'⟩ hK
    unfold DB_Mo_tellRow_105
    have e : L - i = L - (i + 1) + 1 := by omega
    have w := bse_nm (i0 := plT c n t1) (hlt (L - (i + 1)) (by omega))
    have d := isLt_i.mp (hlt (L - (i + 1)) (by omega))
    have eL : ls.getD (L - (i + 1)) 0 = c (plT c n t1 + (L - (i + 1))) - 96 := hls _ (by omega)
    have el5 : nI (L - i) - 1 = nI (L - (i + 1)) := by rw [nI_s1 (by omega)]; congr 1
    rw [← e, ← eL] at w
    have bd := bse_b (k := L - i) hL (by omega) hlt
    show (nI (L - i) - 1 < 0 → _) ∧ (¬ nI (L - i) - 1 < 0 → _)
    rw [el5, la_rem bd, la_i (by omega), w.2.1]
    have e96 : (96 : Int32) + nI (ls.getD (L - (i + 1)) 0) = nI (96 + ls.getD (L - (i + 1)) 0) := by show nI 96 + _ = _; rw [nI_add]
    rw [e96]
    refine ⟨fun z => absurd z (nI_pos (by omega)), fun _ => ?_⟩
    have fin : ∀ (v : Int32) (h2 : TH) (x : Bool), x = !lok (ls.getD (L - (i + 1)) 0) → MD r h0 h2 m sd c n J t b K (rowB ls P (addF (b0 || (exF (fun j => !lok (ls.getD (L - 1 - j) 0)) i || x)) 6 (plT c n t1) (dF P))) → h2.1 (m + 11) = h'.1 (m + 11) → (x = false → v = nI (lkd (ls.getD (L - (i + 1)) 0))) → DJ_Mo_tellRow_136 r m (nI t1) (lN (bse 27 (nmL c (plT c n t1) (L - i)))) (nI (L - (i + 1))) v h2 (fun y45 y46 h47 => KK (y45, y46, h47)) (fun h48 => E h48) Q := by
      intro v h2 x ex s2 o2 hv
      unfold DJ_Mo_tellRow_136
      have e19 := s2.1.2.2.2.2
      have eH : h2.1 (m + 9) sd = nI (bH (dB P)) := s2.2.2.1.1.2.1
      intro i39 e39
      rw [e19] at e39
      subst e39
      rw [e19, r22, r24, nI_clamp (n := sd) (by omega), eH]
      have ei : ((40 : Int32) * nI sd + 8 * nI (bH (dB P))) + nI (L - (i + 1)) = nI (40 * sd + (8 * bH (dB P) + (L - (i + 1)))) := by
        show (nI 40 * nI sd + nI 8 * nI (bH (dB P))) + nI (L - (i + 1)) = _
        rw [pk_mul, pk_mul, nI_add, nI_add, Nat.add_assoc]
      rw [ei, nI_clamp (n := 40 * sd + (8 * bH (dB P) + (L - (i + 1)))) (by omega)]
      refine ⟨vp_in_nI hs (by omega), vp_in_nI (by omega) (by omega), fun h40 e40 x41 e41 x42 e42 => ?_⟩
      rw [la_div bd, w.1] at e41
      subst e41
      have e42' : x42 = nI (L - (i + 1)) - 1 := by rw [e42, Int32.sub_eq_add_neg]
      subst e42'
      refine hK _ ⟨h40, rfl, ?_, fun j a1 a2 a3 => ?_⟩
      · rw [e40]
        have ee : exF (fun j => !lok (ls.getD (L - 1 - j) 0)) (i + 1) = (exF (fun j => !lok (ls.getD (L - 1 - j) 0)) i || x) := by
          rw [ex, show L - (i + 1) = L - 1 - i by omega]; rfl
        rw [ee]
        exact s2.cl (x := 8 * bH (dB P) + (L - (i + 1))) (Nat.le_add_right _ _) (by omega)
      · rw [e40]
        by_cases ej : j = L - (i + 1)
        · subst ej
          rw [pI_s]
          exact hv (by rw [ex, a3]; rfl)
        · rw [pI_n _ _ _ _ (by omega), o2]
          exact g' j (by omega) a2 a3
    refine P_cellBy (by omega) (fun y => ⟨fun _ => fin _ h' false (by rw [y]; rfl) ?_ rfl (fun _ => rfl), fun z => absurd ?_ z⟩) (fun y => ⟨fun z => absurd z (by decide), fun _ => ?_⟩)
    · rw [Bool.or_false]; exact s'
    · have := lkd_le (ls.getD (L - (i + 1)) 0)
      exact nI_le (a := 0) (Nat.zero_le _) (by omega)
    · refine P_wrong (k := 6) s'.1.1.1 s'.1.1.2.2.1 ht ⟨by omega, by omega⟩ s'.2.2.2.2.1 (hf.add) (fun h2 w2 F2 => ?_)
      obtain ⟨s2, o2, -, -⟩ := s'.fl w2 F2 addF_none
      refine fin _ h2 true (by rw [y]; rfl) ?_ (o2 _ (by omega)) (fun z => (by cases z))
      have ef : addF true 6 (plT c n t1) (addF (b0 || exF (fun j => !lok (ls.getD (L - 1 - j) 0)) i) 6 (plT c n t1) (dF P)) = addF (b0 || (exF (fun j => !lok (ls.getD (L - 1 - j) 0)) i || true)) 6 (plT c n t1) (dF P) := by rw [addF_or, Bool.or_assoc]
      rw [← ef]
      exact s2
  · rintro x KK ⟨h', rfl, s', g'⟩
    unfold DB_Mo_tellRow_105
    rw [Nat.sub_self] at g'
    show (nI (L - L) - 1 < 0 → _) ∧ (¬ nI (L - L) - 1 < 0 → _)
    rw [Nat.sub_self]
    refine ⟨fun _ => hE h' ?_ (fun j hj => g' j (Nat.zero_le _) hj), fun z => absurd (by decide) z⟩
    rw [exF_rev (p := fun j => !lok (ls.getD j 0))] at s'
    exact s'
  · rw [Nat.sub_zero]
  · show MD r h0 h m sd c n J t b K (rowB ls P (addF (b0 || false) 6 (plT c n t1) (dF P)))
    rw [Bool.or_false]; exact s
theorem P_MtellRow {r : TR} {h0 h : TH} {m sd n J t b K : Nat} {c : Nat → Nat} {P : PSt} {Q : TH → Prop} (hs : sd < 2) (hJ : Jok (kdT c n) J) (s : MD r h0 h m sd c n J t b K P) (hf : Fb c n t (dF P)) (hk : kdT c n t = 4) (hH : bH (dB P) < 5) (hW8 : bW (dB P) ≤ 8)
    (hok : ∀ p, bnd (rowP (kdT c n) (plT c n) (nmT c n) t P) (fun p => bnd (needP (kdT c n) (plT c n) 23 p.1) (fun t' => .ok (t', p.2))) = .ok p → ∀ h', MD r h0 h' m sd c n J p.1 b K p.2 → Fb c n p.1 (dF p.2) → Q h')
    (her : ∀ e, bnd (rowP (kdT c n) (plT c n) (nmT c n) t P) (fun p => bnd (needP (kdT c n) (plT c n) 23 p.1) (fun t' => .ok (t', p.2))) = .error e → ∀ h', erM m sd e h0 h' → Q h') : D_Mo_tellRow r m h Q := by
  have hr := s.1.1.1.1
  have tJ := s.1.1.2.1
  have j4 := hJ.1
  have r8 : r m 8 = m + 6 := hr 8 (by decide) (by decide)
  have r22 : r m 22 = m + 9 := hr 22 (by decide) (by decide)
  have r23 : r m 23 = m + 10 := hr 23 (by decide) (by decide)
  have r24 : r m 24 = m + 11 := hr 24 (by decide) (by decide)
  generalize hR : bnd (rowP (kdT c n) (plT c n) (nmT c n) t P) (fun p => bnd (needP (kdT c n) (plT c n) 23 p.1) (fun t' => .ok (t', p.2))) = R at hok her
  unfold rowP at hR
  rw [if_pos hH] at hR
  have dead : ∀ e h1, R = .error e → erM m sd e h0 h1 → DJ_Mo_tellRow_178 r m h1 Q := by
    intro e h1 he g
    unfold DJ_Mo_tellRow_178
    exact g.must ⟨fun _ => her e he h1 g, fun z => absurd z g.2.1.ne⟩
  have deadM : ∀ e h1, R = .error e → erM m sd e h0 h1 → ∀ x3 (X : TH → Prop), D_Mo_must r m 1 h1 (fun h4 => ((¬ (h4.1 m 13) = 0 → DJ_Mo_tellRow_178 r m h4 Q) ∧ ((h4.1 m 13) = 0 → vp_in x3 403 ∧ X h4))) := fun e h1 he g x3 X => g.must ⟨fun _ => dead e h1 he g, fun z => absurd z g.2.1.ne⟩
  unfold D_Mo_tellRow
  refine P_goesOn s.1.1 (fun t4 x3 e3 => ?_) (fun t4 h1 f1 x3 e3 => deadM (2, plT c n t) h1 ?_ (FaultM.er (e := (2, plT c n t)) f1 ⟨(by decide : ¬ (2 : Nat) = 0), (by decide : (2 : Nat) ≤ 9)⟩ s) _ _)
  · rw [pI_s] at e3
    subst e3
    rw [needP_t hk t4] at hR
    have s1 := s.on (hJ.2 t tJ (by omega) t4)
    refine P_mustM (k := 2) hJ s1 (by omega) (by omega) (fun t2 n2 h4 e4 s4 => ?_) (fun e he h4 g4 => ⟨fun _ => dead e h4 ?_ g4, fun z => absurd z g4.2.1.ne⟩)
    · obtain ⟨k1, k2, rfl⟩ := needP_ok n2
      have tJ1 := s1.1.1.2.1
      obtain ⟨w1, w2, w3, w4, w5, w6⟩ := nm_ok k1
      have hn2 := s.1.1.1.2.2.2
      replace hR : bnd (needP (kdT c n) (plT c n) 23 (t + 1 + 1)) (fun t' => .ok (t', rowS (nmT c n (t + 1)) (plT c n (t + 1)) P)) = R := by rw [← hR]; show _ = bnd (bnd (needP (kdT c n) (plT c n) 2 (t + 1)) _) _; rw [n2]; rfl
      refine ⟨fun z => absurd s4.1.1.2.2.1 z, fun _ => ⟨vp_in_nI (by omega) (by omega), fun x14 e14 => ?_⟩⟩
      have en := (s4.1.1.1.2.1 (t + 1) tJ1).2.2.2 k1
      rw [r8, nI_clamp (n := t + 1) (by omega), en, w6] at e14
      subst e14
      rw [w6] at hR
      have hfW : Wk c n (t + 1) 6 (dF P) := ((hf.W (k := 0)).on (by omega)).W
      refine P_rowCount w2 w4 (fun i26 e26 => ?_)
      have e19 := s4.1.2.2.2.2
      rw [e19] at e26
      subst e26
      rw [e19, r22, nI_clamp (n := sd) (by omega), s4.2.2.1.1.2.1]
      have last : ∀ fl h1, fl = addF (!rowOk (nmL c (plT c n (t + 1)) (ltE c n (plT c n (t + 1)))) (dB P)) 6 (plT c n (t + 1)) (dF P) → MD r h0 h1 m sd c n J (t + 1 + 1) b K (rowB (nmL c (plT c n (t + 1)) (ltE c n (plT c n (t + 1)))) P fl) → (∀ j, j < ltE c n (plT c n (t + 1)) → lok ((nmL c (plT c n (t + 1)) (ltE c n (plT c n (t + 1)))).getD j 0) = true → h1.1 (m + 11) (40 * sd + (8 * bH (dB P) + j)) = nI (lkd ((nmL c (plT c n (t + 1)) (ltE c n (plT c n (t + 1)))).getD j 0))) → DJ_Mo_tellRow_178 r m h1 Q := by
        intro fl h1 ef s1' g1
        unfold DJ_Mo_tellRow_178
        refine P_mustM (k := 23) hJ s1' (by omega) (by omega) (fun t3 n3 h7 e7 s7 => ⟨fun z => absurd s7.1.1.2.2.1 z, fun _ i11 e11 => ?_⟩) (fun e he h7 g7 => ⟨fun _ => her e (by rw [← hR, he]; rfl) h7 g7, fun z => absurd z g7.2.1.ne⟩)
        have k3 := needP_ok n3
        rw [s7.1.2.2.2.2] at e11
        subst e11
        have eH : h7.1 (m + 9) sd = nI (bH (dB P)) := s7.2.2.1.1.2.1
        rw [s7.1.2.2.2.2, r22, nI_clamp (n := sd) (by omega), eH, nI_1]
        refine ⟨vp_in_nI hs (by omega), vp_in_nI hs (by omega), fun h12 e12 => ?_⟩
        have c7 : h7.1 (m + 11) = h1.1 (m + 11) := by rw [e7, pI_o _ _ _ _ (by omega)]
        rw [n3] at hR
        have M : MD r h0 h12 m sd c n J t3 b K (rowS (nmL c (plT c n (t + 1)) (ltE c n (plT c n (t + 1)))) (plT c n (t + 1)) P) := by
          rw [e12]
          refine s7.ow (by omega) (by unfold own; omega) (fun _ g => g) (by rw [show dF (rowB (nmL c (plT c n (t + 1)) (ltE c n (plT c n (t + 1)))) P fl) = fl from rfl, ef]; rfl) ?_
          obtain ⟨⟨q1, q2, q3, q4, q5, q6⟩, q7, q8⟩ := s7.2.2.1
          unfold DMb
          rw [pI_o _ _ _ _ (by omega), pI_s, pI_o _ _ _ _ (by omega), pI_o _ _ _ _ (by omega), pI_o _ _ _ _ (by omega), pI_o _ _ _ _ (by omega), pI_o _ _ _ _ (by omega), pI_o _ _ _ _ (by omega), pI_o _ _ _ _ (by omega), pI_o _ _ _ _ (by omega), pI_o _ _ _ _ (by omega), pI_l]
          refine ⟨⟨q1, rfl, q3, q4, q5, q6⟩, q7, fun w x hx hx2 => ?_⟩
          have hx' : x % 8 < rowW (nmL c (plT c n (t + 1)) (ltE c n (plT c n (t + 1)))) (dB P) := hx
          have hx2' : x / 8 < bH (dB P) + 1 := hx2
          have efn : fl = none := by rw [ef]; exact w
          obtain ⟨-, ok⟩ := addF_n (ef.symm.trans efn)
          rw [Bool.not_eq_false'] at ok
          unfold rowOk at ok
          rw [Bool.and_eq_true, decide_eq_true_iff, Bool.not_eq_true'] at ok
          rw [nmL_len] at ok
          show h7.1 (m + 11) (40 * sd + x) = nI (if x / 8 = bH (dB P) ∧ x % 8 < (nmL c (plT c n (t + 1)) (ltE c n (plT c n (t + 1)))).length then lkd ((nmL c (plT c n (t + 1)) (ltE c n (plT c n (t + 1)))).getD (x % 8) 0) else bK (dB P) x)
          by_cases ex : x / 8 = bH (dB P)
          · rw [if_pos ⟨ex, by rw [nmL_len]; omega⟩, c7]
            have z := g1 (x % 8) (by omega) (by have := exF_f ok.2 (j := x % 8) (by omega); rw [Bool.not_eq_false'] at this; exact this)
            rw [show 8 * bH (dB P) + x % 8 = x by omega] at z
            exact z
          · rw [if_neg (fun z => ex z.1)]
            exact q8 efn x hx' (show x / 8 < bH (dB P) by omega)
        refine hok (t3, rowS (nmL c (plT c n (t + 1)) (ltE c n (plT c n (t + 1)))) (plT c n (t + 1)) P) hR.symm h12 M ?_
        show Fb c n t3 (addF _ 6 (plT c n (t + 1)) (dF P))
        rw [k3.2.2]
        exact (((hfW.add (bad := !rowOk (nmL c (plT c n (t + 1)) (ltE c n (plT c n (t + 1)))) (dB P))).on (by rw [k1]; decide)).W (k := 0)).on (by rw [k3.1]; decide)
      have cells : ∀ h1 x31, x31 = nI (ltE c n (plT c n (t + 1))) - 1 → MD r h0 h1 m sd c n J (t + 1 + 1) b K (rowB (nmL c (plT c n (t + 1)) (ltE c n (plT c n (t + 1)))) P (addF (!decide (ltE c n (plT c n (t + 1)) = rowW (nmL c (plT c n (t + 1)) (ltE c n (plT c n (t + 1)))) (dB P))) 6 (plT c n (t + 1)) (dF P))) → ∃ i, lp (fun (K : Int64 × Int32 × TH → Prop) (s : Int64 × Int32 × TH) => DB_Mo_tellRow_105 r m (nI (t + 1)) s.1 s.2.1 s.2.2 (fun y45 y46 h47 => K (y45, y46, h47)) (fun h48 => DJ_Mo_tellRow_178 r m h48 Q) Q) i (lN (bse 27 (nmL c (plT c n (t + 1)) (ltE c n (plT c n (t + 1))))), x31, h1) := by
        intro h1 x31 e31 s1'
        subst e31
        refine P_rowCells hs s1' tJ1 hfW hH w2 w4 (fun h2 s2 g2 => last _ h2 ?_ s2 g2)
        unfold rowOk
        rw [nmL_len, Bool.not_and, Bool.not_not]
      have d78 : ∀ h1, MD r h0 h1 m sd c n J (t + 1 + 1) b K (rowB (nmL c (plT c n (t + 1)) (ltE c n (plT c n (t + 1)))) P (dF P)) → DJ_Mo_tellRow_78 r m (nI (t + 1)) (lN (bse 27 (nmL c (plT c n (t + 1)) (ltE c n (plT c n (t + 1)))))) (nI (ltE c n (plT c n (t + 1)))) h1 Q := by
        intro h1 s1'
        unfold DJ_Mo_tellRow_78
        intro i29 e29
        rw [s1'.1.2.2.2.2] at e29
        subst e29
        have eW : h1.1 (m + 10) sd = nI (rowW (nmL c (plT c n (t + 1)) (ltE c n (plT c n (t + 1)))) (dB P)) := s1'.2.2.1.1.1
        have hW : rowW (nmL c (plT c n (t + 1)) (ltE c n (plT c n (t + 1)))) (dB P) ≤ 8 := by
          unfold rowW
          split
          · rw [nmL_len]; exact w2
          · exact hW8
        rw [r23, nI_clamp (n := sd) (by omega), eW]
        refine ⟨vp_in_nI hs (by omega), fun z x31 e31 => cells h1 x31 e31 ?_, fun z => ?_⟩
        · rw [decide_eq_true ((nI_eq (by omega) (by omega)).mp z), Bool.not_true, addF_f]; exact s1'
        · refine P_wrong (k := 6) s1'.1.1.1 s1'.1.1.2.2.1 tJ1 ⟨by omega, by omega⟩ s1'.2.2.2.2.1 hfW (fun h2 v2 F2 x51 e51 => cells h2 x51 e51 ?_)
          obtain ⟨s2, -, -, -⟩ := s1'.fl v2 F2 addF_none
          rw [decide_eq_false (fun w => z (by rw [← w])), Bool.not_false]
          exact s2
      refine ⟨vp_in_nI hs (by omega), fun z => d78 h4 ?_, fun z => ⟨vp_in_nI hs (by omega), fun h57 e57 => d78 h57 ?_⟩⟩
      · have hne : ¬ bH (dB P) = 0 := fun w => z (by rw [w]; rfl)
        have eP : rowB (nmL c (plT c n (t + 1)) (ltE c n (plT c n (t + 1)))) P (dF P) = P := by
          unfold rowB rowW
          rw [if_neg hne]
        rw [eP]; exact s4
      · have hz : bH (dB P) = 0 := (nI_eq (b := 0) (by omega) (by omega)).mp z
        rw [r23] at e57
        rw [e57]
        refine s4.ow (by omega) (by unfold own; omega) (fun _ g => g) rfl ?_
        obtain ⟨⟨q1, q2, q3, q4, q5, q6⟩, q7, q8⟩ := s4.2.2.1
        unfold DMb
        rw [pI_s, pI_o _ _ _ _ (by omega), pI_o _ _ _ _ (by omega), pI_o _ _ _ _ (by omega), pI_o _ _ _ _ (by omega), pI_o _ _ _ _ (by omega), pI_o _ _ _ _ (by omega), pI_o _ _ _ _ (by omega), pI_o _ _ _ _ (by omega), pI_o _ _ _ _ (by omega), pI_o _ _ _ _ (by omega), pI_l]
        refine ⟨⟨?_, q2, q3, q4, q5, q6⟩, q7, fun _ x _ hx2 => ?_⟩
        · show nI (ltE c n (plT c n (t + 1))) = nI (rowW (nmL c (plT c n (t + 1)) (ltE c n (plT c n (t + 1)))) (dB P))
          unfold rowW
          rw [if_pos hz, nmL_len]
        · exact absurd (show x / 8 < bH (dB P) from hx2) (by omega)
    · rw [← hR]; show bnd (bnd (needP (kdT c n) (plT c n) 2 (t + 1)) _) _ = _; rw [he]; rfl
  · rw [← hR, needP_2 hk t4]; rfl
