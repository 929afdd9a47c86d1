/-! one thing told, and all of them: the class's side -/
theorem law_frX {q d o k : Nat} {h h' : TH} (ha : apd q d) (ho : k = 0 ∧ o = d + 8 ∨ k = 1 ∧ o = d + 13 ∨ k = 2 ∧ o = d + 18) (a : Fr (fun a => a = q + 1 ∨ a = o ∨ a = o + 2 ∨ a = o + 3) h h') (b : ∀ x, ¬ x = 10 → ¬ x = 4 → ¬ x = 3 → h'.1 (q + 1) x = h.1 (q + 1) x) : PX q d h h' := by
  unfold apd at ha
  exact ⟨fun x hx => a x (by omega), fun x x1 x2 x3 x4 x5 => b x x5 x2 x1, (a _ (by omega)).1, (a _ (by omega)).1, (a _ (by omega)).1⟩
theorem RD.law {r : TR} {h0 h h' : TH} {q d n J t t' o k : Nat} {c : Nat → Nat} {P : PSt} {Ps : List (List Nat)} (ha : apd q d) (ho : k = 0 ∧ o = d + 8 ∨ k = 1 ∧ o = d + 13 ∨ k = 2 ∧ o = d + 18) (s : RD r h0 h q d c n J t P) (w : okW q o t' Ps h h') (s' : RdS r h' q c n J t') : RD r h0 h' q d c n J t' (lawS k Ps P) := by
  have X : PX q d h h' := law_frX ha ho w.1 (fun x x1 _ _ => w.2.1 x x1)
  unfold apd at ha
  have e : ∀ a, ¬ a = q + 1 → ¬ a = o → ¬ a = o + 2 → ¬ a = o + 3 → h'.1 a = h.1 a := fun a a1 a2 a3 a4 => (w.1 a (by omega)).1
  obtain ⟨l1, l2, l3⟩ := s.2.2.2.1
  have B : DXb h' d P := s.2.2.1.mv (fun a x y => w.1 a (by omega))
  refine ⟨s', s.2.1.tr X, B, ?_, s.2.2.2.2.mv (w.2.1 5 (by omega)) (w.2.1 6 (by omega))⟩
  rcases ho with ⟨rfl, rfl⟩ | ⟨rfl, rfl⟩ | ⟨rfl, rfl⟩
  · exact ⟨w.2.2.2, l2.mv (e _ (by omega) (by omega) (by omega) (by omega)) (e _ (by omega) (by omega) (by omega) (by omega)) (e _ (by omega) (by omega) (by omega) (by omega)), l3.mv (e _ (by omega) (by omega) (by omega) (by omega)) (e _ (by omega) (by omega) (by omega) (by omega)) (e _ (by omega) (by omega) (by omega) (by omega))⟩
  · exact ⟨l1.mv (e _ (by omega) (by omega) (by omega) (by omega)) (e _ (by omega) (by omega) (by omega) (by omega)) (e _ (by omega) (by omega) (by omega) (by omega)), w.2.2.2, l3.mv (e _ (by omega) (by omega) (by omega) (by omega)) (e _ (by omega) (by omega) (by omega) (by omega)) (e _ (by omega) (by omega) (by omega) (by omega))⟩
  · exact ⟨l1.mv (e _ (by omega) (by omega) (by omega) (by omega)) (e _ (by omega) (by omega) (by omega) (by omega)) (e _ (by omega) (by omega) (by omega) (by omega)), l2.mv (e _ (by omega) (by omega) (by omega) (by omega)) (e _ (by omega) (by omega) (by omega) (by omega)) (e _ (by omega) (by omega) (by omega) (by omega)), w.2.2.2⟩
theorem P_lawD {r : TR} {h0 h : TH} {q d n J t o k : Nat} {c : Nat → Nat} {P : PSt} {Q : TH → Prop} (ha : apd q d) (hJ : Jok (kdT c n) J) (hv : ∀ t, kdT c n t = 3 → vaT c n t ≤ 9999) (ho : k = 0 ∧ o = d + 8 ∨ k = 1 ∧ o = d + 13 ∨ k = 2 ∧ o = d + 18) (rl : RLw r o) (s : RD r h0 h q d c n J t P) (hk : 2 ≤ kdT c n t) (hok : ∀ p, lawP (kdT c n) (plT c n) (vaT c n) t = .ok p → ∀ h', RD r h0 h' q d c n J p.1 (lawS k p.2 P) → Q h') (her : ∀ e, lawP (kdT c n) (plT c n) (vaT c n) t = .error e → ∀ h', erD q d e h0 h' → Q h') : D_Rd_tellLaw r (q + 1) o h Q := by
  have ha' := ha
  unfold apd at ha'
  have hw : ∃ Ps, LW h o Ps := by
    obtain ⟨l1, l2, l3⟩ := s.2.2.2.1
    rcases ho with ⟨-, rfl⟩ | ⟨-, rfl⟩ | ⟨-, rfl⟩
    · exact ⟨_, l1⟩
    · exact ⟨_, l2⟩
    · exact ⟨_, l3⟩
  refine P_tellLaw (by unfold apo; omega) rl hJ hv s.1 hk hw (fun p hp h' w s' => hok p hp h' (s.law ha ho w s')) (fun e he h' w => her e he h' ⟨s.2.1.tr (law_frX ha ho w.1 w.2.1), w.2.2.1, ?_⟩)
  obtain ⟨W, H, N, s1, s2, s3, s4, s5, s6⟩ := s.2.2.1.s
  have ed : h'.1 d = h.1 d := (w.1 d (by omega)).1
  exact ⟨W, H, N, by rw [ed]; exact s1, s2, by rw [ed]; exact s3, s4, by rw [ed]; exact s5, s6⟩
theorem erD.df {h0 h h' : TH} {q d j : Nat} {e : Nat × Nat} {v : Int32} (ha : apd q d) (hj : j = 3 ∨ j = 4) (g : erD q d e h0 h) (e' : h' = pI h d j v) : erD q d e h0 h' := by
  have ha' := ha
  unfold apd at ha'
  have eq : h'.1 (q + 1) = h.1 (q + 1) := by rw [e', pI_o _ _ _ _ (by omega)]
  obtain ⟨W, H, N, s1, s2, s3, s4, s5, s6⟩ := g.2.2
  refine ⟨g.1.tr (by rw [e']; exact PX.dr ha (by omega)), ?_, W, H, N, by rw [e', pI_n _ _ _ _ (by omega)]; exact s1, s2, by rw [e', pI_n _ _ _ _ (by omega)]; exact s3, s4, by rw [e', pI_n _ _ _ _ (by omega)]; exact s5, s6⟩
  unfold RdF
  rw [eq]; exact g.2.1
theorem RD.df {r : TR} {h0 h h' : TH} {q d n J t j : Nat} {c : Nat → Nat} {P P' : PSt} {v : Int32} (ha : apd q d) (hj : j = 3 ∨ j = 4) (s : RD r h0 h q d c n J t P) (e' : h' = pI h d j v) (hP : (∀ h, FlX h q (dF P) → FlX h q (dF P')) ∧ (∀ h, DXl h d P → DXl h d P') ∧ DXb h' d P') : RD r h0 h' q d c n J t P' := by
  have X : PX q d h h' := by rw [e']; exact PX.dr ha (by unfold apd at ha; omega)
  have ha' := ha
  unfold apd at ha'
  have eq : h'.1 (q + 1) = h.1 (q + 1) := by rw [e', pI_o _ _ _ _ (by omega)]
  exact ⟨⟨X.T ha s.1.1, s.1.2.1, by rw [eq]; exact s.1.2.2.1, by rw [eq]; exact s.1.2.2.2⟩, s.2.1.tr X, hP.2.2, hP.2.1 _ (s.2.2.2.1.mv (fun a x y => by rw [e', pI_o _ _ _ _ (by omega)])), hP.1 _ (s.2.2.2.2.mv (by rw [eq]) (by rw [eq]))⟩
theorem P_tellOne {r : TR} {h0 h : TH} {q d n J t : Nat} {f : Nat → Int32} {P : PSt} {Q : TH → Prop} (ha : apd q d) (hJ : Jok (kdT (fun j => byC (f j)) n) J) (hv : ∀ t, kdT (fun j => byC (f j)) n t = 3 → vaT (fun j => byC (f j)) n t ≤ 9999) (rd : r (q + 1) 2 = d) (rb : RBa r d) (tp : TpX r h0 q n f) (s : RD r h0 h q d (fun j => byC (f j)) n J t P) (hok : ∀ p, tellP (kdT (fun j => byC (f j)) n) (plT (fun j => byC (f j)) n) (vaT (fun j => byC (f j)) n) (nmT (fun j => byC (f j)) n) t P = .ok p → ∀ h', RD r h0 h' q d (fun j => byC (f j)) n J p.1 p.2 → Q h') (her : ∀ e, tellP (kdT (fun j => byC (f j)) n) (plT (fun j => byC (f j)) n) (vaT (fun j => byC (f j)) n) (nmT (fun j => byC (f j)) n) t P = .error e → ∀ h', erD q d e h0 h' → Q h') : D_Rd_tellOne r (q + 1) h Q := by
  have tJ := s.1.2.1
  have j4 := hJ.1
  have kl := kdT_lt (fun j => byC (f j)) n t
  obtain ⟨⟨r7, r8, r9⟩, tk, -, -⟩ := s.1.1
  obtain ⟨u1, -, -⟩ := tk t tJ
  have fin : ∀ p, tellB (kdT (fun j => byC (f j)) n) (plT (fun j => byC (f j)) n) (vaT (fun j => byC (f j)) n) (nmT (fun j => byC (f j)) n) t P = .ok p → ∀ h', RD r h0 h' q d (fun j => byC (f j)) n J p.1 p.2 → D_Rd_need r (q + 1) 23 h' (fun _ h2 => Q h2) := by
    intro p hp h' s'
    refine P_needD (k := 23) ha hJ s' (by omega) (by omega) (fun t1 n1 h1 _ s1 => hok (t1, p.2) ?_ h1 s1) (fun e he h1 g1 _ => her e ?_ h1 g1)
    · unfold tellP; rw [hp]; show bnd (needP _ _ 23 p.1) _ = _; rw [n1]; rfl
    · unfold tellP; rw [hp]; show bnd (needP _ _ 23 p.1) _ = _; rw [he]; rfl
  have dead : ∀ e, tellB (kdT (fun j => byC (f j)) n) (plT (fun j => byC (f j)) n) (vaT (fun j => byC (f j)) n) (nmT (fun j => byC (f j)) n) t P = .error e → ∀ h', erD q d e h0 h' → D_Rd_need r (q + 1) 23 h' (fun _ h2 => Q h2) := by
    intro e he h' g
    refine g.needF (her e ?_ h' g)
    unfold tellP; rw [he]; rfl
  clear hok her
  unfold tellB at fin dead
  obtain ⟨⟨b5, b6, b7, b8, b9, b10, b11⟩, ⟨b12, b13, b14⟩, bl1, bl2, bl3⟩ := rb
  unfold D_Rd_tellOne
  intro i2 e2
  rw [s.1.2.2.2] at e2
  subst e2
  rw [r7, nI_clamp (n := t) (by omega), u1, rd, b12, b13, b14]
  generalize hk : kdT (fun j => byC (f j)) n t = k at fin dead kl
  have ne : ∀ {b : Nat}, b < 32 → ¬ nI k = nI b → ¬ k = b := fun hb z w => z (by rw [w])
  refine ⟨vp_in_nI (by omega) (by omega), fun z => ?_, fun z4 => ⟨fun z => ?_, fun z5 => ⟨fun z => ?_, fun z6 => ⟨fun z => ?_, fun z7 => ⟨fun z => ?_, fun z8 => ⟨fun z => ?_, fun z9 => ⟨fun z => ?_, fun z10 => ?_⟩⟩⟩⟩⟩⟩⟩
  · have w := (nI_eq (b := 4) (by omega) (by omega)).mp z
    rw [if_pos w] at fin dead
    exact P_tellRow ha hJ rd b5 tp s fin dead
  · have w := (nI_eq (b := 5) (by omega) (by omega)).mp z
    rw [if_neg (by omega), if_pos w] at fin dead
    exact P_tellBoat ha hJ hv rd ⟨b7, b8, b9, b10, b11⟩ tp s fin dead
  · have w := (nI_eq (b := 6) (by omega) (by omega)).mp z
    rw [if_neg (by omega), if_neg (by omega), if_pos (by omega)] at fin dead
    refine P_lawD (k := 0) ha hJ hv (Or.inl ⟨rfl, rfl⟩) bl1 s (by omega) (fun p hp h' s' => fin (p.1, lawS 0 p.2 P) ?_ h' s') (fun e he h' g => dead e ?_ h' g)
    · rw [hp, w]; rfl
    · rw [he]; rfl
  · have w := (nI_eq (b := 7) (by omega) (by omega)).mp z
    rw [if_neg (by omega), if_neg (by omega), if_pos (by omega)] at fin dead
    refine P_lawD (k := 1) ha hJ hv (Or.inr (Or.inl ⟨rfl, rfl⟩)) bl2 s (by omega) (fun p hp h' s' => fin (p.1, lawS 1 p.2 P) ?_ h' s') (fun e he h' g => dead e ?_ h' g)
    · rw [hp, w]; rfl
    · rw [he]; rfl
  · have w := (nI_eq (b := 8) (by omega) (by omega)).mp z
    rw [if_neg (by omega), if_neg (by omega), if_pos (by omega)] at fin dead
    refine P_lawD (k := 2) ha hJ hv (Or.inr (Or.inr ⟨rfl, rfl⟩)) bl3 s (by omega) (fun p hp h' s' => fin (p.1, lawS 2 p.2 P) ?_ h' s') (fun e he h' g => dead e ?_ h' g)
    · rw [hp, w]; rfl
    · rw [he]; rfl
  · have w := (nI_eq (b := 9) (by omega) (by omega)).mp z
    rw [if_neg (by omega), if_neg (by omega), if_neg (by omega), if_pos w] at fin dead
    refine P_needD (k := 9) ha hJ s (by omega) (by omega) (fun t1 n1 h1 e1 s1 => ?_) (fun e he h1 g1 _ => P_numberF g1 (fun h2 e2 => ?_))
    · refine P_number ha hJ hv s1 (mx := 100) (by omega) (fun t2 n2 h2 s2 v2 h3 e3 => fin (t2, coldS (vaT (fun j => byC (f j)) n t1) (plT (fun j => byC (f j)) n t1) P) ?_ h3 (s2.df ha (Or.inl rfl) e3 ⟨fun _ g => g, fun _ g => g, ?_⟩)) (fun e he h2 g2 _ h3 e3 => dead e ?_ h3 (g2.df ha (Or.inl rfl) e3))
      · rw [n1]; show bnd (needP _ _ 3 t1) _ = _; rw [n2]; rfl
      · obtain ⟨g1, g2, g3, g4, g5, g6, g7⟩ := s2.2.2.1
        have o : ∀ a, ¬ a = d → h3.1 a = h2.1 a := fun a x => by rw [e3, pI_o _ _ _ _ x]
        refine ⟨⟨by rw [e3, pI_n _ _ _ _ (by omega)]; exact g1.1, g1.2⟩, ⟨by rw [e3, pI_n _ _ _ _ (by omega)]; exact g2.1, g2.2⟩, ⟨by rw [e3, pI_n _ _ _ _ (by omega)]; exact g3.1, g3.2⟩, by rw [e3, pI_s]; rfl, by rw [e3, pI_n _ _ _ _ (by omega)]; exact g5, ?_, ?_⟩
        · rw [o (d + 4) (by omega), o (d + 5) (by omega), o (d + 6) (by omega), o (d + 7) (by omega), e3, pI_l]; exact g6
        · rw [o (d + 1) (by omega)]; exact g7
      · rw [n1]; show bnd (needP _ _ 3 t1) _ = _; rw [he]; rfl
    · exact dead e (by rw [he]; rfl) h2 (g1.df ha (Or.inl rfl) e2)
  · have w := (nI_eq (b := 10) (by omega) (by omega)).mp z
    rw [if_neg (by omega), if_neg (by omega), if_neg (by omega), if_neg (by omega), if_pos w] at fin dead
    refine P_needD (k := 10) ha hJ s (by omega) (by omega) (fun t1 n1 h1 e1 s1 => ?_) (fun e he h1 g1 _ => P_numberF g1 (fun h2 e2 => ?_))
    · refine P_number ha hJ hv s1 (mx := 9999) (by omega) (fun t2 n2 h2 s2 v2 h3 e3 => fin (t2, seedS (vaT (fun j => byC (f j)) n t1) P) ?_ h3 ?_) (fun e he h2 g2 _ h3 e3 => dead e ?_ h3 (g2.df ha (Or.inr rfl) e3))
      · rw [n1]; show bnd (needP _ _ 3 t1) _ = _; rw [n2]; rfl
      · rw [decide_eq_false (by omega), addF_f] at s2
        refine s2.df ha (Or.inr rfl) e3 ⟨fun _ g => g, fun _ g => g, ?_⟩
        obtain ⟨g1, g2, g3, g4, g5, g6, g7⟩ := s2.2.2.1
        have o : ∀ a, ¬ a = d → h3.1 a = h2.1 a := fun a x => by rw [e3, pI_o _ _ _ _ x]
        refine ⟨⟨by rw [e3, pI_n _ _ _ _ (by omega)]; exact g1.1, g1.2⟩, ⟨by rw [e3, pI_n _ _ _ _ (by omega)]; exact g2.1, g2.2⟩, ⟨by rw [e3, pI_n _ _ _ _ (by omega)]; exact g3.1, g3.2⟩, by rw [e3, pI_n _ _ _ _ (by omega)]; exact g4, by rw [e3, pI_s]; rfl, ?_, ?_⟩
        · rw [o (d + 4) (by omega), o (d + 5) (by omega), o (d + 6) (by omega), o (d + 7) (by omega), e3, pI_l]; exact g6
        · rw [o (d + 1) (by omega)]; exact g7
      · rw [n1]; show bnd (needP _ _ 3 t1) _ = _; rw [he]; rfl
    · exact dead e (by rw [he]; rfl) h2 (g1.df ha (Or.inr rfl) e2)
  · have w4 : ¬ k = 4 := ne (by omega) z4
    have w5 : ¬ k = 5 := ne (by omega) z5
    have w6 : ¬ k = 6 := ne (by omega) z6
    have w7 : ¬ k = 7 := ne (by omega) z7
    have w8 : ¬ k = 8 := ne (by omega) z8
    have w9 : ¬ k = 9 := ne (by omega) z9
    have w10 : ¬ k = 10 := ne (by omega) z10
    rw [if_neg w4, if_neg w5, if_neg (by omega), if_neg w9, if_neg w10] at fin dead
    exact P_failD (k := 1) ha ⟨by omega, by omega⟩ s (fun h1 g1 => dead _ rfl h1 g1)
