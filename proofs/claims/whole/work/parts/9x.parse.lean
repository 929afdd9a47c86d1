/-! a whole text: the class's side -/
theorem P_insideG {r : TR} {h : TH} {d W H : Nat} {x y : Int32} {Q : Int32 → TH → Prop} (e0 : h.1 d 0 = nI W) (hW : W ≤ 8) (e1 : h.1 d 1 = nI H) (hH : H ≤ 5) (h1 : ∀ i j, i < W → j < H → x = nI i → y = nI j → Q 1 h) (h0 : (¬ ∃ i j, i < W ∧ j < H ∧ x = nI i ∧ y = nI j) → Q 0 h) : D_Bay_isInside r d x y h Q := by
  unfold D_Bay_isInside
  rw [e0, e1]
  refine ⟨fun z => h0 ?_, fun z => ⟨fun w => h0 ?_, fun w => ?_⟩⟩
  · rintro ⟨i, j, hi, hj, e, -⟩; rw [e] at z; exact nI_pos (by omega) z
  · rintro ⟨i, j, hi, hj, e, -⟩; rw [e] at w; exact nI_ge hi (by omega) w
  obtain ⟨i, hi, rfl⟩ := nI_of z
  have hi2 : i < W := by
    rcases Nat.lt_or_ge i W with q | q
    · exact q
    · exact absurd (nI_le q hi) w
  refine ⟨fun z => h0 ?_, fun z => ⟨fun w => h0 ?_, fun w => ?_⟩⟩
  · rintro ⟨i, j, hi, hj, -, e⟩; rw [e] at z; exact nI_pos (by omega) z
  · rintro ⟨i, j, hi, hj, -, e⟩; rw [e] at w; exact nI_ge hj (by omega) w
  obtain ⟨j, hj, rfl⟩ := nI_of z
  have hj2 : j < H := by
    rcases Nat.lt_or_ge j H with q | q
    · exact q
    · exact absurd (nI_le q hj) w
  exact h1 i j hi2 hj2 rfl rfl
def goodB (h : TH) (d W H k : Nat) : Prop := ∃ i j, i < W ∧ j < H ∧ h.1 (d + 4) k = nI i ∧ h.1 (d + 5) k = nI j ∧ ¬ h.1 (d + 1) (8 * j + i) = 1
theorem P_areG {r : TR} {h : TH} {d W H N : Nat} {Q : Int32 → TH → Prop} (rb : r d 5 = d + 1 ∧ r d 8 = d + 4 ∧ r d 9 = d + 5) (e0 : h.1 d 0 = nI W) (hW : W ≤ 8) (e1 : h.1 d 1 = nI H) (hH : H ≤ 5) (e2 : h.1 d 2 = nI N) (hN : N ≤ 6) (h1 : (∀ k, k < N → goodB h d W H k) → Q 1 h) (h0 : ∀ k, k < N → ¬ goodB h d W H k → Q 0 h) : D_Bay_areBoatsAfloat r d h Q := by
  unfold D_Bay_areBoatsAfloat
  refine lp_for N (fun j s => s = (nI j, h) ∧ ∀ k, k < j → goodB h d W H k) ?_ ?_ _ ⟨rfl, fun k hk => absurd hk (Nat.not_lt_zero _)⟩
  · rintro j s K hj ⟨rfl, g⟩ hK
    unfold DB_Bay_areBoatsAfloat_2
    rw [e2, rb.1, rb.2.1, rb.2.2, nI_clamp (n := j) (by omega)]
    refine ⟨fun z => absurd ((nI_leI (by omega) (by omega)).mp z) (by omega), fun _ => ⟨vp_in_nI (by omega) (by omega), vp_in_nI (by omega) (by omega), ?_⟩⟩
    refine P_insideG e0 hW e1 hH (fun x y hx hy ex ey => ⟨fun z => absurd z z01, fun _ => ?_⟩) (fun w => ⟨fun _ => h0 j hj (fun v => ?_), fun z => absurd rfl z⟩)
    · unfold D_Bay_startOf
      refine ⟨vp_in_nI (by omega) (by omega), vp_in_nI (by omega) (by omega), ?_⟩
      have es : (8 : Int32) * nI y + nI x = nI (8 * y + x) := by show nI 8 * nI y + nI x = _; rw [pk_mul, nI_add]
      rw [rb.2.1, rb.2.2, nI_clamp (n := j) (by omega), ex, ey, es]
      show vp_in (nI (8 * y + x)) 40 ∧ (¬ h.1 (d + 1) (nI (8 * y + x)).toNatClampNeg = 1 → _) ∧ (h.1 (d + 1) (nI (8 * y + x)).toNatClampNeg = 1 → _)
      rw [nI_clamp (n := 8 * y + x) (by omega)]
      refine ⟨vp_in_nI (by omega) (by omega), fun z x12 e12 => ?_, fun z => h0 j hj (fun v => ?_)⟩
      · rw [nI_1] at e12; subst e12
        refine hK _ ⟨rfl, fun k hk => ?_⟩
        by_cases e : k = j
        · subst e; exact ⟨x, y, hx, hy, ex, ey, z⟩
        · exact g k (by omega)
      · obtain ⟨i', j', a1, a2, a3, a4, a5⟩ := v
        have b1 := (nI_eq (by omega) (by omega)).mp (ex.symm.trans a3)
        have b2 := (nI_eq (by omega) (by omega)).mp (ey.symm.trans a4)
        subst b1; subst b2
        exact a5 z
    · obtain ⟨i', j', a1, a2, a3, a4, a5⟩ := v
      exact w ⟨i', j', a1, a2, a3, a4⟩
  · rintro s K ⟨rfl, g⟩
    unfold DB_Bay_areBoatsAfloat_2
    rw [e2]
    exact ⟨fun _ => h1 g, fun z => absurd (nI_le (Nat.le_refl _) (by omega)) z⟩
theorem good_iff {h : TH} {d k : Nat} {P : PSt} (g : DXb h d P) (hK : ∀ c, bK (dB P) c ≤ 3) (hf : dF P = none) (hk : k < bN (dB P)) : goodB h d (bW (dB P)) (bH (dB P)) k ↔ (decide (bX (dB P) k < bW (dB P)) && (decide (bY (dB P) k < bH (dB P)) && !decide (bK (dB P) (8 * bY (dB P) k + bX (dB P) k) = 1))) = true := by
  obtain ⟨g1, g2, g3, g4, g5, g6, g7⟩ := g
  obtain ⟨x1, x2, -, -, -, x6, x7, -, -⟩ := g6 k hk
  have w8 := g1.2
  have w5 := g2.2
  constructor
  · rintro ⟨i, j, a1, a2, a3, a4, a5⟩
    have b1 := (nI_eq (by omega) (by omega)).mp (x1.symm.trans a3)
    have b2 := (nI_eq (by omega) (by omega)).mp (x2.symm.trans a4)
    rw [g7 hf _ (by omega)] at a5
    rw [b1, b2, decide_eq_true a1, decide_eq_true a2, decide_eq_false (fun e => a5 (by rw [e]; rfl))]; rfl
  · intro z
    rw [Bool.and_eq_true, Bool.and_eq_true, Bool.not_eq_true', decide_eq_true_iff, decide_eq_true_iff, decide_eq_false_iff_not] at z
    refine ⟨_, _, z.1, z.2.1, x1, x2, ?_⟩
    rw [g7 hf _ (by omega)]
    intro e
    have b3 := hK (8 * bY (dB P) k + bX (dB P) k)
    exact z.2.2 ((nI_eq (b := 1) (by omega) (by omega)).mp e)
theorem afl_iff {h : TH} {d : Nat} {P : PSt} (g : DXb h d P) (hK : ∀ c, bK (dB P) c ≤ 3) (hf : dF P = none) : ((∀ k, k < bN (dB P) → goodB h d (bW (dB P)) (bH (dB P)) k) → aflB (dB P) = true) ∧ ∀ k, k < bN (dB P) → ¬ goodB h d (bW (dB P)) (bH (dB P)) k → aflB (dB P) = false := by
  unfold aflB
  constructor
  · intro a
    rw [exF_no (fun k hk => by rw [(good_iff g hK hf hk).mp (a k hk)]; rfl)]; rfl
  · intro k hk a
    have z : (decide (bX (dB P) k < bW (dB P)) && (decide (bY (dB P) k < bH (dB P)) && !decide (bK (dB P) (8 * bY (dB P) k + bX (dB P) k) = 1))) = false := Bool.eq_false_iff.mpr (fun w => a ((good_iff g hK hf hk).mpr w))
    rw [exF_t (j := k) (by rw [z]; rfl) _ hk]; rfl
theorem va_ok {c : Nat → Nat} {n : Nat} (hn : n ≤ 2000) (t : Nat) : vaT c n t ≤ 9999 := by
  obtain ⟨l1, -, -⟩ := lt_run (c := c) (n := n) (i := plT c n t) (posT_le t).2
  obtain ⟨d1, d2, -⟩ := dg_run (c := c) (n := n) (i := plT c n t) (posT_le t).2
  unfold vaT tkV
  split
  · omega
  · exact nuF_le (by omega) (fun k hk => d2 k (by omega))
theorem sgK_n0 (x : Nat) : ¬ sgK x = 0 := by
  unfold sgK
  repeat' split
  all_goals omega
theorem kd_0 {c : Nat → Nat} {n t : Nat} (h : kdT c n t = 0) : plT c n t = n := by
  have p := (posT_le (c := c) (n := n) t).2
  unfold kdT tkK at h
  split at h
  · omega
  · exfalso
    split at h
    · split at h
      · omega
      · have := wkd_le (nmL c (plT c n t) (ltE c n (plT c n t))); omega
    · split at h
      · split at h <;> omega
      · exact sgK_n0 _ h
theorem stp.J {c : Nat → Nat} {n J : Nat} (s : stp c n J) : Jok (kdT c n) J := ⟨s.1, fun t ht hk h4 => by
  rcases Nat.lt_or_ge t J with z | z
  · exact z
  · have : t = J := by omega
    subst this
    rcases s.2.2 with w | w <;> omega⟩
theorem P_becomeN {r : TR} {h : TH} {o v : Nat} {Q : TH → Prop} (rl : RLw r o) (hv : v ≤ 9999) (hQ : ∀ h', Fr (fun a => a = o ∨ a = o + 2 ∨ a = o + 3) h h' → LW h' o [[v]] → Q h') : D_Law_becomeNumber r o (nI v) h Q := by
  unfold D_Law_becomeNumber D_Law_clear
  intro h1 e1 h2 e2
  have a4 : h2.1 o 4 = nI 0 := by rw [e2, pI_n _ _ _ _ (by omega), e1, pI_s]; rfl
  have a5 : h2.1 o 5 = nI 0 := by rw [e2, pI_s]; rfl
  unfold D_Law_addCode
  rw [a4, rl.2.1, nI_clamp (n := 0) (by omega)]
  refine ⟨fun z => absurd ((nI_leI (a := 400) (by omega) (by omega)).mp z) (by omega), fun _ => ⟨vp_in_nI (by omega) (by omega), fun h3 e3 h4 e4 => ?_⟩⟩
  have b4 : h4.1 o 4 = nI 1 := by rw [e4, pI_s, e3, pI_o _ _ _ _ (by omega), a4, nI_1]
  have b5 : h4.1 o 5 = nI 0 := by rw [e4, pI_n _ _ _ _ (by omega), e3, pI_o _ _ _ _ (by omega), a5]
  show D_Law_endPiece r o h4 _
  unfold D_Law_endPiece
  rw [b5, b4, rl.2.2.1, nI_clamp (n := 0) (by omega)]
  refine ⟨fun z => absurd ((nI_leI (a := 13) (by omega) (by omega)).mp z) (by omega), fun _ => ⟨vp_in_nI (by omega) (by omega), fun h5 e5 h6 e6 => hQ h6 ?_ ?_⟩⟩
  · rw [e6, e5, e4, e3, e2, e1]
    exact ((((((Fr.pI (Or.inl rfl)).tr (Fr.pI (Or.inl rfl))).tr (Fr.pI (Or.inr (Or.inl rfl)))).tr (Fr.pI (Or.inl rfl))).tr (Fr.pI (Or.inr (Or.inr rfl)))).tr (Fr.pI (Or.inl rfl)))
  · refine ⟨⟨?_, show (1 : Nat) ≤ 13 by omega, fun p hp => ?_, show (1 : Nat) ≤ 400 by omega, fun p hp i hi => ?_, fun p hp => ?_⟩, ?_⟩
    · rw [e6, pI_s, e5, pI_o _ _ _ _ (by omega), b5, nI_1]; rfl
    · have : p = 0 := by have : p < 1 := hp; omega
      subst this
      rw [e6, pI_o _ _ _ _ (by omega), e5, pI_s]; rfl
    · have : p = 0 := by have : p < 1 := hp; omega
      subst this
      have : i = 0 := by have : i < 1 := hi; omega
      subst this
      rw [e6, pI_o _ _ _ _ (by omega), e5, pI_o _ _ _ _ (by omega), e4, pI_o _ _ _ _ (by omega), e3]
      show (pI h2 (o + 2) 0 (nI v)).1 (o + 2) 0 = nI v
      rw [pI_s]
    · have : p = 0 := by have : p < 1 := hp; omega
      subst this
      show wfT [v] 0 = true
      unfold wfT
      rw [if_pos (by omega)]; rfl
    · rw [e6, pI_n _ _ _ _ (by omega), e5, pI_o _ _ _ _ (by omega), b4]; rfl
theorem P_clearD {r : TR} {h : TH} {q d : Nat} {Q : TH → Prop} (ha : apd q d) (rb : RBa r d) (z5 : h.1 (q + 1) 5 = 0) (z6 : h.1 (q + 1) 6 = -1) (hQ : ∀ h', PX q d h h' → h'.1 (q + 1) = h.1 (q + 1) → DX h' q d draft0 → Q h') : D_Bay_clear r d h Q := by
  have ha' := ha
  unfold apd at ha'
  obtain ⟨⟨b5, -, -, -, -, -, -⟩, ⟨b12, b13, b14⟩, bl1, bl2, bl3⟩ := rb
  unfold D_Bay_clear
  intro h1 e1 h2 e2 h3 e3 h4 e4 h5 e5
  rw [b5, b12, b13, b14]
  have f5 : Fr (fun a => a = d) h h5 := by
    rw [e5, e4, e3, e2, e1]
    have p : ∀ (g : TH) (j : Nat) (v : Int32), Fr (fun a => a = d) g (pI g d j v) := fun g j v => Fr.pI rfl
    exact ((((p _ _ _).tr (p _ _ _)).tr (p _ _ _)).tr (p _ _ _)).tr (p _ _ _)
  have z : h5.1 d 0 = nI 0 ∧ h5.1 d 1 = nI 0 ∧ h5.1 d 2 = nI 0 ∧ h5.1 d 3 = nI 0 ∧ h5.1 d 4 = nI 0 := by
    refine ⟨?_, ?_, ?_, ?_, ?_⟩
    · rw [e5, pI_n _ _ _ _ (by omega), e4, pI_n _ _ _ _ (by omega), e3, pI_n _ _ _ _ (by omega), e2, pI_n _ _ _ _ (by omega), e1, pI_s]; rfl
    · rw [e5, pI_n _ _ _ _ (by omega), e4, pI_n _ _ _ _ (by omega), e3, pI_n _ _ _ _ (by omega), e2, pI_s]; rfl
    · rw [e5, pI_n _ _ _ _ (by omega), e4, pI_n _ _ _ _ (by omega), e3, pI_s]; rfl
    · rw [e5, pI_n _ _ _ _ (by omega), e4, pI_s]; rfl
    · rw [e5, pI_s]; rfl
  refine P_fill (by decide) (fun h7 f7 v7 => ?_)
  refine P_becomeN (v := 0) bl1 (by omega) (fun h10 f10 w10 => ?_)
  refine P_becomeN (v := 1) bl2 (by omega) (fun h13 f13 w13 => ?_)
  refine P_becomeN (v := 1) bl3 (by omega) (fun h16 f16 w16 => ?_)
  have F : ∀ a, ¬ (d ≤ a ∧ a < d + 23 ∧ ¬ a = d + 9 ∧ ¬ a = d + 14 ∧ ¬ a = d + 19) → h16.1 a = h.1 a ∧ h16.2 a = h.2 a := fun a hx => by
    have x1 := f16 a (by omega)
    have x2 := f13 a (by omega)
    have x3 := f10 a (by omega)
    have x4 := f7 a (by omega)
    have x5 := f5 a (by omega)
    exact ⟨by rw [x1.1, x2.1, x3.1, x4.1, x5.1], by rw [x1.2, x2.2, x3.2, x4.2, x5.2]⟩
  have g : ∀ a, a < d + 8 → ¬ a = d → ¬ a = d + 1 → h16.1 a = h.1 a := fun a x y w => by rw [(f16 a (by omega)).1, (f13 a (by omega)).1, (f10 a (by omega)).1, (f7 a (by omega)).1, (f5 a (by omega)).1]
  have gd : h16.1 d = h5.1 d := by rw [(f16 d (by omega)).1, (f13 d (by omega)).1, (f10 d (by omega)).1, (f7 d (by omega)).1]
  have g1 : h16.1 (d + 1) = h7.1 (d + 1) := by rw [(f16 _ (by omega)).1, (f13 _ (by omega)).1, (f10 _ (by omega)).1]
  have eq : h16.1 (q + 1) = h.1 (q + 1) := (F _ (by omega)).1
  refine hQ h16 ⟨fun a hx => F a (by omega), fun x _ _ _ _ _ => by rw [eq], (F _ (by omega)).1, (F _ (by omega)).1, (F _ (by omega)).1⟩ eq ⟨⟨⟨by rw [gd]; exact z.1, by decide⟩, ⟨by rw [gd]; exact z.2.1, by decide⟩, ⟨by rw [gd]; exact z.2.2.1, by decide⟩, by rw [gd]; exact z.2.2.2.1, by rw [gd]; exact z.2.2.2.2, fun k hk => absurd hk (Nat.not_lt_zero _), fun _ c hc => by rw [g1, v7 c hc]; rfl⟩, ⟨?_, ?_, w16⟩, ⟨fun _ => by rw [eq]; exact ⟨z5, z6⟩, fun k p w => (by cases w)⟩⟩
  · exact w10.mv (by rw [(f16 _ (by omega)).1, (f13 _ (by omega)).1]) (by rw [(f16 _ (by omega)).1, (f13 _ (by omega)).1]) (by rw [(f16 _ (by omega)).1, (f13 _ (by omega)).1])
  · exact w13.mv (by rw [(f16 _ (by omega)).1]) (by rw [(f16 _ (by omega)).1]) (by rw [(f16 _ (by omega)).1])
/-- a reading, its words cut too -/
def PY (q d : Nat) (h h' : TH) : Prop := Fr (fun a => a = q + 1 ∨ (d ≤ a ∧ a < d + 23) ∨ (q + 26 ≤ a ∧ a ≤ q + 28)) h h' ∧ (∀ x, ¬ x = 3 → ¬ x = 4 → ¬ x = 5 → ¬ x = 6 → ¬ x = 10 → h'.1 (q + 1) x = h.1 (q + 1) x) ∧ h'.1 (d + 9) = h.1 (d + 9) ∧ h'.1 (d + 14) = h.1 (d + 14) ∧ h'.1 (d + 19) = h.1 (d + 19)
theorem PX.Y {q d : Nat} {h h' : TH} (p : PX q d h h') : PY q d h h' := ⟨p.1.mono (fun a x => by omega), p.2⟩
theorem PY.tr {q d : Nat} {h h1 h2 : TH} (a : PY q d h h1) (b : PY q d h1 h2) : PY q d h h2 := ⟨a.1.tr b.1, fun x x1 x2 x3 x4 x5 => (b.2.1 x x1 x2 x3 x4 x5).trans (a.2.1 x x1 x2 x3 x4 x5), b.2.2.1.trans a.2.2.1, b.2.2.2.1.trans a.2.2.2.1, b.2.2.2.2.trans a.2.2.2.2⟩
theorem P_parse {r : TR} {h : TH} {q d n : Nat} {f : Nat → Int32} {Q : Int32 → TH → Prop} (ha : apd q d) (rd : r (q + 1) 2 = d) (r7 : r (q + 1) 7 = q + 26) (r8 : r (q + 1) 8 = q + 27) (r9 : r (q + 1) 9 = q + 28) (rb : RBa r d) (tp : TpX r h q n f)
    (hok : ∀ J P, stp (fun j => byC (f j)) n J → rdP (fun j => byC (f j)) n = .ok P → ∀ h', PY q d h h' → h'.1 (q + 1) 3 = -1 → DX h' q d P → PV P → dF P = none → aflB (dB P) = true → Q 0 h')
    (her : ∀ J e, stp (fun j => byC (f j)) n J → rdP (fun j => byC (f j)) n = .error e → (¬ e.1 = 0 ∧ e.1 ≤ 9) → ∀ h', PY q d h h' → h'.1 (q + 1) 3 = nI e.2 → Q (nI e.1) h') : D_Rd_parse r (q + 1) h Q := by
  have ha' := ha
  unfold apd at ha'
  have hn := tp.2.2.1
  unfold D_Rd_parse
  intro h1 e1 h2 e2 h3 e3 h4 e4 h5 e5
  have f5 : PX q d h h5 := by
    rw [e5, e4, e3, e2, e1]
    exact ((((PX.fd ha (by omega)).tr (PX.fd ha (by omega))).tr (PX.fd ha (by omega))).tr (PX.fd ha (by omega))).tr (PX.fd ha (by omega))
  have z4 : h5.1 (q + 1) 4 = 0 := by rw [e5, pI_n _ _ _ _ (by omega), e4, pI_n _ _ _ _ (by omega), e3, pI_n _ _ _ _ (by omega), e2, pI_n _ _ _ _ (by omega), e1, pI_s]
  have z5 : h5.1 (q + 1) 5 = 0 := by rw [e5, pI_n _ _ _ _ (by omega), e4, pI_n _ _ _ _ (by omega), e3, pI_s]
  have z6 : h5.1 (q + 1) 6 = -1 := by rw [e5, pI_n _ _ _ _ (by omega), e4, pI_s]
  have z10 : h5.1 (q + 1) 10 = nI 0 := by rw [e5, pI_s]; rfl
  rw [rd]
  refine P_clearD ha rb z5 z6 (fun h7 f7 q7 D7 => ?_)
  refine P_scan (f7.tp ha (f5.tp ha tp)) r7 r8 r9 (fun h9 J f9 sJ t9 => ?_)
  have hJ := sJ.J
  have hJ4 := hJ.1
  have q9 : h9.1 (q + 1) = h5.1 (q + 1) := by rw [(f9 _ (by omega)).1, q7]
  have Y9 : PY q d h h9 := (f5.tr f7).Y.tr ⟨f9.mono (fun a x => by omega), fun x _ _ _ _ _ => by rw [(f9 _ (by omega)).1], (f9 _ (by omega)).1, (f9 _ (by omega)).1, (f9 _ (by omega)).1⟩
  have D9 : DX h9 q d draft0 := ⟨D7.1.mv (fun a x y => f9 a (by omega)), D7.2.1.mv (fun a x y => (f9 a (by omega)).1), D7.2.2.mv (by rw [(f9 _ (by omega)).1]) (by rw [(f9 _ (by omega)).1])⟩
  have S9 : RD r h9 h9 q d (fun j => byC (f j)) n J 0 draft0 := ⟨⟨⟨⟨r7, r8, r9⟩, t9, hJ4, hn⟩, Nat.zero_le _, by rw [q9]; exact z4, by rw [q9]; exact z10⟩, PX.rf, D9⟩
  have tp9 : TpX r h9 q n f := (f7.tp ha (f5.tp ha tp)).mv (by rw [(f9 _ (by omega)).1]) ((f9 _ (by omega)).1)
  have hv : ∀ t, kdT (fun j => byC (f j)) n t = 3 → vaT (fun j => byC (f j)) n t ≤ 9999 := fun t _ => va_ok hn t
  have hnm : ∀ t, kdT (fun j => byC (f j)) n t = 2 → (nmT (fun j => byC (f j)) n t).length ≤ 8 := fun t ht => by
    have w := nm_ok ht
    rw [w.2.2.2.2.2, nmL_len]; exact w.2.1
  have rb' := rb
  obtain ⟨⟨b5, b6, b7, b8, b9, b10, b11⟩, -⟩ := rb'
  generalize hR : psL (kdT (fun j => byC (f j)) n) (plT (fun j => byC (f j)) n) (vaT (fun j => byC (f j)) n) (nmT (fun j => byC (f j)) n) 400 0 draft0 = R
  have hrd : rdP (fun j => byC (f j)) n = bnd R (fun p => match endF n p.2 with | none => .ok p.2 | some e => .error e) := by unfold rdP; rw [hR]; rfl
  have bad : ∀ e, R = .error e → ∀ h', erD q d e h9 h' → DJ_Rd_parse_74 r (q + 1) h' Q := by
    intro e he h' g
    have fin : ∀ h2, erD q d e h9 h2 → DJ_Rd_parse_94 r (q + 1) h2 Q := by
      intro h2 g2
      unfold DJ_Rd_parse_94
      refine ⟨fun _ => ?_, fun z => absurd z g2.2.1.ne⟩
      rw [g2.2.1.2.1]
      exact her J e sJ (by rw [hrd, he]; rfl) g2.2.1.1 h2 (Y9.tr g2.1.Y) g2.2.1.2.2.1
    obtain ⟨W, H, N, s1, s2, s3, s4, s5, s6⟩ := g.2.2
    unfold DJ_Rd_parse_74
    rw [rd]
    refine P_areG ⟨b5, b8, b9⟩ s1 s2 s3 s4 s5 s6 (fun _ => ⟨fun _ => fin h' g, fun z => absurd z z01⟩) (fun k _ _ => ⟨fun z => absurd rfl z, fun _ => P_addFlawF ha g fin⟩)
  have good : ∀ t P, R = .ok (t, P) → PV P → ∀ h', RD r h9 h' q d (fun j => byC (f j)) n J t P → DJ_Rd_parse_74 r (q + 1) h' Q := by
    intro t P he pv h' s
    have fin : ∀ h2, PX q d h' h2 → h2.1 (q + 1) 4 = 0 → DXb h2 d P → DXl h2 d P → FlX h2 q (endF n P) → DJ_Rd_parse_94 r (q + 1) h2 Q := by
      intro h2 X2 y4 B2 L2 F2
      unfold DJ_Rd_parse_94
      refine ⟨fun z => absurd y4 z, fun _ h28 e28 h29 e29 => ?_⟩
      have X29 : PX q d h2 h29 := by rw [e29, e28]; exact (PX.fd ha (by omega)).tr (PX.fd ha (by omega))
      have w4 : h29.1 (q + 1) 4 = h2.1 (q + 1) 5 := by rw [e29, pI_n _ _ _ _ (by omega), e28, pI_s]
      have w3 : h29.1 (q + 1) 3 = h2.1 (q + 1) 6 := by rw [e29, pI_s, e28, pI_n _ _ _ _ (by omega)]
      have YY := Y9.tr ((s.2.1.tr X2).tr X29).Y
      rw [w4]
      cases hF : endF n P with
      | none =>
        rw [hF] at F2
        obtain ⟨f5', f6'⟩ := F2.1 rfl
        obtain ⟨n1, n2⟩ := addF_n hF
        rw [f5']
        refine hok J P sJ (by rw [hrd, he]; show (match endF n P with | none => Except.ok P | some e => Except.error e) = _; rw [hF]) h29 YY (by rw [w3, f6']) ⟨B2.mv (fun a x y => by rw [e29, pI_o _ _ _ _ (by omega), pI_l, e28, pI_o _ _ _ _ (by omega), pI_l]; exact ⟨rfl, rfl⟩), L2.mv (fun a x y => by rw [e29, pI_o _ _ _ _ (by omega), e28, pI_o _ _ _ _ (by omega)]), ⟨fun _ => ?_, fun k p w => ?_⟩⟩ pv n1 (by rw [Bool.not_eq_false'] at n2; exact n2)
        · rw [e29, pI_n _ _ _ _ (by omega), pI_n _ _ _ _ (by omega), e28, pI_n _ _ _ _ (by omega), pI_n _ _ _ _ (by omega)]
          exact ⟨f5', f6'⟩
        · rw [n1] at w; cases w
      | some e =>
        rw [hF] at F2
        obtain ⟨k0, k5, k6⟩ := F2.2 e.1 e.2 rfl
        rw [k5]
        exact her J e sJ (by rw [hrd, he]; show (match endF n P with | none => Except.ok P | some e => Except.error e) = _; rw [hF]) k0 h29 YY (by rw [w3, k6])
    obtain ⟨g1, g2, g3, -⟩ := s.2.2.1
    unfold DJ_Rd_parse_74
    rw [rd]
    have tn : h'.1 (q + 1) 1 = nI n := (s.2.1.tp ha tp9).2.1
    have stay : (dF P = none → aflB (dB P) = true) → DJ_Rd_parse_94 r (q + 1) h' Q := by
      intro w
      refine fin h' PX.rf s.1.2.2.1 s.2.2.1 s.2.2.2.1 ?_
      have : endF n P = dF P := by
        unfold endF
        cases hf : dF P with
        | none => rw [w hf]; rfl
        | some x => rfl
      rw [this]; exact s.2.2.2.2
    have flaw : (dF P = none → aflB (dB P) = false) → D_Rd_addFlaw r (q + 1) 6 (nI n) h' (fun h30 => DJ_Rd_parse_94 r (q + 1) h30 Q) := by
      intro w
      refine P_addFlaw (k := 6) ⟨by omega, by omega⟩ s.2.2.2.2 (fun h2 w2 F2 => ?_)
      have X2 : PX q d h' h2 := by
        rcases w2 with v | v
        · rw [v]; exact PX.rf
        · rw [v]; exact (PX.fd ha (by omega)).tr (PX.fd ha (by omega))
      have o2 : ∀ a, ¬ a = q + 1 → h2.1 a = h'.1 a ∧ h2.2 a = h'.2 a := fun a hx => by
        rcases w2 with v | v
        · rw [v]; exact ⟨rfl, rfl⟩
        · rw [v, pI_o _ _ _ _ hx, pI_o _ _ _ _ hx, pI_l, pI_l]; exact ⟨rfl, rfl⟩
      have k4 : h2.1 (q + 1) 4 = h'.1 (q + 1) 4 := by
        rcases w2 with v | v
        · rw [v]
        · rw [v, pI_n _ _ _ _ (by omega), pI_n _ _ _ _ (by omega)]
      refine fin h2 X2 (by rw [k4]; exact s.1.2.2.1) (s.2.2.1.mv (fun a x y => o2 a (by omega))) (s.2.2.2.1.mv (fun a x y => (o2 a (by omega)).1)) ?_
      have : endF n P = addF true 6 n (dF P) := by
        unfold endF
        cases hf : dF P with
        | none => rw [w hf]; rfl
        | some x => rfl
      rw [this]; exact F2
    refine P_areG ⟨b5, b8, b9⟩ g1.1 g1.2 g2.1 g2.2 g3.1 g3.2 (fun a => ⟨fun _ => stay (fun hf => (afl_iff s.2.2.1 pv.1.2.2.2.2.2.2.2 hf).1 a), fun z => absurd z z01⟩) (fun k hk a => ⟨fun z => absurd rfl z, fun _ => ?_⟩)
    rw [tn]
    exact flaw (fun hf => (afl_iff s.2.2.1 pv.1.2.2.2.2.2.2.2 hf).2 k hk a)
  refine lp_for 400 (fun i s => ∃ h', s = (nI i, h') ∧ ((∃ t P, RD r h9 h' q d (fun j => byC (f j)) n J t P ∧ PV P ∧ 3 * i ≤ t ∧ R = psL (kdT (fun j => byC (f j)) n) (plT (fun j => byC (f j)) n) (vaT (fun j => byC (f j)) n) (nmT (fun j => byC (f j)) n) (400 - i) t P) ∨ ∃ e, erD q d e h9 h' ∧ R = .error e)) ?_ ?_ _ ⟨h9, rfl, Or.inl ⟨0, draft0, S9, PV0, Nat.le_refl _, hR.symm⟩⟩
  · rintro i s K hi ⟨h', rfl, st⟩ hK
    unfold DB_Rd_parse_38
    refine ⟨fun z => absurd ((nI_leI (a := 400) (by omega) (by omega)).mp z) (by omega), fun _ => ?_⟩
    rcases st with ⟨t, P, s, pv, l3, eR⟩ | ⟨e, g, eR⟩
    · refine ⟨fun z => absurd s.1.2.2.1 z, fun _ i15 e15 => ?_⟩
      rw [s.1.2.2.2] at e15
      subst e15
      have tJ := s.1.2.1
      have kl := kdT_lt (fun j => byC (f j)) n t
      rw [r7, nI_clamp (n := t) (by omega), (s.1.1.2.1 t tJ).1]
      rw [show 400 - i = (400 - (i + 1)) + 1 by omega] at eR
      unfold psL at eR
      refine ⟨vp_in_nI (by omega) (by omega), fun z => ?_, fun z => ?_⟩
      · rw [if_pos ((nI_eq (b := 0) (by omega) (by omega)).mp z)] at eR
        exact good t P eR pv h' s
      · rw [if_neg (fun w => z (by rw [w]; rfl))] at eR
        refine P_tellOne ha hJ hv rd rb tp9 s (fun p hp h2 s2 x19 e19 => ?_) (fun e he h2 g2 x19 e19 => ?_)
        · rw [nI_1] at e19; subst e19
          rw [hp] at eR
          obtain ⟨k1, k2, -⟩ := PV_tell hJ tJ hv hnm pv hp
          exact hK _ ⟨h2, rfl, Or.inl ⟨p.1, p.2, s2, k1, by omega, eR⟩⟩
        · rw [nI_1] at e19; subst e19
          rw [he] at eR
          exact hK _ ⟨h2, rfl, Or.inr ⟨e, g2, eR⟩⟩
    · exact ⟨fun _ => bad e eR h' g, fun z => absurd z g.2.1.ne⟩
  · rintro s K ⟨h', rfl, st⟩
    unfold DB_Rd_parse_38
    refine ⟨fun _ => ?_, fun z => absurd (show (400 : Int32) ≤ nI 400 from Int32.le_refl _) z⟩
    rcases st with ⟨t, P, s, pv, l3, eR⟩ | ⟨e, g, eR⟩
    · have := s.1.2.1; omega
    · exact bad e eR h' g
