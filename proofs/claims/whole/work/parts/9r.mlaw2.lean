def BRs (h : TH) (m sd f j : Nat) (Ps : List (List Nat)) (K : Nat) : Prop := Ps.length = 3 * j ∧ ∀ i, i < j → h.1 (m + 21) (f + i) = 1 ∧ SegB h m sd K (h.1 (m + 22) (f + i)) (h.1 (m + 23) (f + i)) (Ps.getD (3 * i) []) ∧ SegB h m sd K (h.1 (m + 23) (f + i)) (h.1 (m + 24) (f + i)) (Ps.getD (3 * i + 1) []) ∧ SegB h m sd K (h.1 (m + 24) (f + i)) (h.1 (m + 25) (f + i)) (Ps.getD (3 * i + 2) [])
theorem BRs.mv {h h' : TH} {m sd f j K K' : Nat} {Ps : List (List Nat)} (hK : K ≤ K') (e : ∀ x, x < f + j → ∀ a, m + 21 ≤ a → a ≤ m + 25 → h'.1 a x = h.1 a x) (e2 : ∀ x, x < K → h'.1 (m + 26) x = h.1 (m + 26) x ∧ h'.1 (m + 27) x = h.1 (m + 27) x) (g : BRs h m sd f j Ps K) : BRs h' m sd f j Ps K' := by
  refine ⟨g.1, fun i hi => ?_⟩
  have z := g.2 i hi
  rw [e (f + i) (by omega) (m + 21) (by omega) (by omega), e (f + i) (by omega) (m + 22) (by omega) (by omega), e (f + i) (by omega) (m + 23) (by omega) (by omega), e (f + i) (by omega) (m + 24) (by omega) (by omega), e (f + i) (by omega) (m + 25) (by omega) (by omega)]
  exact ⟨z.1, z.2.1.mv hK e2, z.2.2.1.mv hK e2, z.2.2.2.mv hK e2⟩
theorem BRs.add {h : TH} {m sd f j K : Nat} {Ps : List (List Nat)} {a b d : List Nat} (g : BRs h m sd f j Ps K) (e1 : h.1 (m + 21) (f + j) = 1) (s1 : SegB h m sd K (h.1 (m + 22) (f + j)) (h.1 (m + 23) (f + j)) a) (s2 : SegB h m sd K (h.1 (m + 23) (f + j)) (h.1 (m + 24) (f + j)) b) (s3 : SegB h m sd K (h.1 (m + 24) (f + j)) (h.1 (m + 25) (f + j)) d) : BRs h m sd f (j + 1) (Ps ++ [a] ++ [b] ++ [d]) K := by
  have l1 : (Ps ++ [a]).length = 3 * j + 1 := by simp [g.1]
  have l2 : (Ps ++ [a] ++ [b]).length = 3 * j + 2 := by simp [g.1]
  refine ⟨by simp [g.1]; omega, fun i hi => ?_⟩
  by_cases e : i = j
  · subst e
    rw [getD_i _ d (3 * i) (by omega), getD_i _ b (3 * i) (by omega), getD_i _ d (3 * i + 1) (by omega)]
    have x1 : (Ps ++ [a]).getD (3 * i) [] = a := by rw [← g.1]; exact getD_l Ps a
    have x2 : (Ps ++ [a] ++ [b]).getD (3 * i + 1) [] = b := by rw [← l1]; exact getD_l _ b
    have x3 : (Ps ++ [a] ++ [b] ++ [d]).getD (3 * i + 2) [] = d := by rw [← l2]; exact getD_l _ d
    rw [x1, x2, x3]
    exact ⟨e1, s1, s2, s3⟩
  · have g1 := g.1
    rw [getD_i _ d (3 * i) (by omega), getD_i _ b (3 * i) (by omega), getD_i _ a (3 * i) (by omega), getD_i _ d (3 * i + 1) (by omega), getD_i _ b (3 * i + 1) (by omega), getD_i _ a (3 * i + 1) (by omega), getD_i _ d (3 * i + 2) (by omega), getD_i _ b (3 * i + 2) (by omega), getD_i _ a (3 * i + 2) (by omega)]
    exact g.2 i (by omega)
/-- a law that was told, in its half -/
def LawN (h : TH) (m sd k : Nat) (Ps : List (List Nat)) (b K : Nat) : Prop := ∃ f j, h.1 (m + 19) (3 * sd + k) = nI f ∧ h.1 (m + 20) (3 * sd + k) = nI (f + (j + 1)) ∧ 130 * sd ≤ f ∧ f + (j + 1) ≤ b ∧ (∃ Q a, Ps = Q ++ [a] ∧ BRs h m sd f j Q K ∧ h.1 (m + 21) (f + j) = 0 ∧ SegB h m sd K (h.1 (m + 24) (f + j)) (h.1 (m + 25) (f + j)) a)
theorem P_MtellLaw {r : TR} {h : TH} {m n J sd t b K k : Nat} {c : Nat → Nat} {Q : TH → Prop} (s : LSt r h m c n J sd t b K) (hs : sd < 2) (hk : k < 3) (hJ : Jok (kdT c n) J) (hv : ∀ t, kdT c n t = 3 → vaT c n t ≤ 9999) (hb : K ≤ 420 * sd + t) (hb0 : 420 * sd ≤ K) (hbb : 130 * sd ≤ b) (hbt : 4 * (b - 130 * sd) + 1 ≤ t)
    (hok : ∀ p, refL (kdT c n) (plT c n) (vaT c n) t = .ok p → ∀ h' b' K', PL m sd k b K h h' → LSt r h' m c n J sd p.1 b' K' → K' ≤ 420 * sd + p.1 → K ≤ K' → b ≤ b' → 4 * (b' - 130 * sd) ≤ p.1 → LawN h' m sd k p.2 b' K' → Q h')
    (her : ∀ e, refL (kdT c n) (plT c n) (vaT c n) t = .error e → ∀ h', PL m sd k b K h h' → RfF h' m e.1 e.2 → Q h') : D_Mo_tellLaw r m (nI k) h Q := by
  have hr := s.1.1.1
  have j4 := hJ.1
  have r32 : r m 32 = m + 19 := hr 32 (by decide) (by decide)
  have r33 : r m 33 = m + 20 := hr 33 (by decide) (by decide)
  have r35 : r m 35 = m + 21 := hr 35 (by decide) (by decide)
  have r36 : r m 36 = m + 22 := hr 36 (by decide) (by decide)
  have r37 : r m 37 = m + 23 := hr 37 (by decide) (by decide)
  have n0 : vp_nar .boolean 0 = 0 := by decide
  have n1 : vp_nar .boolean 1 = 1 := by decide
  generalize hL : refL (kdT c n) (plT c n) (vaT c n) t = R at hok her
  unfold refL at hL
  /- the end, behind a fault -/
  have deadE : ∀ (e : Nat × Nat) (h1 : TH) (b1 : Nat), PL m sd k b K h h1 → FSt h1 m sd e b1 → b ≤ b1 → b1 < 130 * sd + 108 → R = .error e → DJ_Mo_tellLaw_129 r m (nI k) (nI b) h1 Q := by
    intro e h1 b1 P1 f1 l1 l2 eR
    unfold DJ_Mo_tellLaw_129
    rw [f1.2.1, r35, nI_clamp (n := b1) (by omega), n0]
    refine ⟨vp_in_nI (by omega) (by omega), fun h2 e2 => ?_⟩
    have m2 : h2.1 m = h1.1 m := by rw [e2, pI_o _ _ _ _ (by omega)]
    have f2 : FSt h2 m sd e b1 := ⟨⟨f1.1.1, by rw [m2]; exact f1.1.2.1, by rw [m2]; exact f1.1.2.2⟩, by rw [m2]; exact f1.2.1, by rw [m2]; exact f1.2.2⟩
    refine P_termF (k := k) (b0 := b) (K0 := K) hr f2 hs l1 (by omega) (fun h3 P3 f3 => P_mustF f3.1 ⟨fun z => absurd z f3.1.pos, fun _ => her e eR h3 ((P1.tr (by rw [e2]; exact PL.br (by omega) l1 (by omega))).tr P3) f3.1⟩)
  /- the loop -/
  have loop : ∀ h1, (∃ t1, LSt r h1 m c n J sd t1 b K ∧ PL m sd k b K h h1 ∧ 4 * (b - 130 * sd) + 2 ≤ t1 ∧ K ≤ 420 * sd + t1 ∧ R = bnd (lwL (kdT c n) (plT c n) (vaT c n) 4 t1 []) (fun p => bnd (needP (kdT c n) (plT c n) 23 p.1) (fun t' => .ok (t', p.2)))) ∨ (∃ e : Nat × Nat, FSt h1 m sd e b ∧ PL m sd k b K h h1 ∧ R = .error e) → ∃ n, lp (fun (K' : Int32 × TH → Prop) (s : Int32 × TH) => DB_Mo_tellLaw_12 r m (nI k) (nI b) s.1 s.2 (fun y35 h36 => K' (y35, h36)) (fun h37 => DJ_Mo_tellLaw_129 r m (nI k) (nI b) h37 Q) Q) n (0, h1) := by
    intro h1 st
    have b99 : b < 130 * sd + 100 := by
      have tJ := s.1.2.1
      omega
    have core : ∀ (i : Nat) (h2 : TH) (K' : Int32 × TH → Prop), i ≤ 4 → (∀ s', (∃ h', s' = (nI (i + 1), h') ∧ ((∃ t1 Ps K1, LSt r h' m c n J sd t1 (b + (i + 1)) K1 ∧ PL m sd k b K h h' ∧ BRs h' m sd b (i + 1) Ps K1 ∧ 4 * (b + (i + 1) - 130 * sd) + 2 ≤ t1 ∧ K1 ≤ 420 * sd + t1 ∧ K ≤ K1 ∧ R = bnd (lwL (kdT c n) (plT c n) (vaT c n) (4 - (i + 1)) t1 Ps) (fun p => bnd (needP (kdT c n) (plT c n) 23 p.1) (fun t' => .ok (t', p.2)))) ∨ (∃ (e : Nat × Nat) (b1 : Nat), FSt h' m sd e b1 ∧ PL m sd k b K h h' ∧ b ≤ b1 ∧ b1 ≤ 130 * sd + 102 ∧ R = .error e))) → i < 4 → K' s') → ((∃ t1 Ps K1, LSt r h2 m c n J sd t1 (b + i) K1 ∧ PL m sd k b K h h2 ∧ BRs h2 m sd b i Ps K1 ∧ 4 * (b + i - 130 * sd) + 2 ≤ t1 ∧ K1 ≤ 420 * sd + t1 ∧ K ≤ K1 ∧ R = bnd (lwL (kdT c n) (plT c n) (vaT c n) (4 - i) t1 Ps) (fun p => bnd (needP (kdT c n) (plT c n) 23 p.1) (fun t' => .ok (t', p.2)))) ∨ (∃ (e : Nat × Nat) (b1 : Nat), FSt h2 m sd e b1 ∧ PL m sd k b K h h2 ∧ b ≤ b1 ∧ b1 ≤ 130 * sd + 102 ∧ R = .error e)) → DB_Mo_tellLaw_12 r m (nI k) (nI b) (nI i) h2 (fun y35 h36 => K' (y35, h36)) (fun h37 => DJ_Mo_tellLaw_129 r m (nI k) (nI b) h37 Q) Q := by
      intro i h2 K' hi hK st2
      unfold DB_Mo_tellLaw_12
      rcases st2 with ⟨t1, Ps, K1, s2, P2, B2, q1, q2, q3, eR⟩ | ⟨e, b1, f2, P2, l1, l2, eR⟩
      rotate_left
      · exact ⟨fun _ => deadE e h2 b1 P2 f2 l1 (by omega) eR, fun z => absurd z f2.1.ne⟩
      have tJ1 := s2.1.2.1
      have bi1 : b + i < 130 * sd + 100 := by omega
      refine ⟨fun z => absurd s2.1.2.2.1 z, fun _ => ?_⟩
      refine P_is (k := 11) s2.1 (by omega) (fun y => ⟨fun z => absurd z z01, fun _ => ⟨fun z => ?_, fun z => ?_⟩⟩) (fun y => ⟨fun _ => ?_, fun z => absurd rfl z⟩)
      · have i4 : i < 4 := by
          rcases Nat.lt_or_ge i 4 with w | w
          · exact w
          · exact absurd (show nI i = 4 by rw [show i = 4 by omega]; rfl) z
        rw [show 4 - i = (4 - (i + 1)) + 1 by omega] at eR
        unfold lwL at eR
        rw [if_pos y] at eR
        have dead0 : ∀ (e : Nat × Nat) (h3 : TH), FSt h3 m sd e (b + i) → PL m sd k b K h h3 → R = .error e → DJ_Mo_tellLaw_110 r m (nI k) (nI b) (nI i + 1) h3 (fun y35 h36 => K' (y35, h36)) (fun h37 => DJ_Mo_tellLaw_129 r m (nI k) (nI b) h37 Q) Q := by
          intro e h3 f3 P3 eE
          unfold DJ_Mo_tellLaw_110
          refine P_mustF f3.1 (P_termF (k := k) (b0 := b) (K0 := K) hr f3 hs (by omega) (by omega) (fun h4 P4 f4 => P_mustF f4.1 ?_))
          rw [nI_1]
          exact hK _ ⟨h4, rfl, Or.inr ⟨e, b + i + 1, f4, P3.tr P4, by omega, by omega, eE⟩⟩ i4
        have dead1 : ∀ (e : Nat × Nat) (h3 : TH), FSt h3 m sd e (b + i) → PL m sd k b K h h3 → R = .error e → D_Mo_must r m 13 h3 (fun h20 => vp_in (h20.1 m 34) 260 ∧ ∀ h23, h23 = pI h20 (r m 37) ((h20.1 m 34).toNatClampNeg) (h20.1 m 40) → ((¬ (h23.1 m 13) = 0 → DJ_Mo_tellLaw_110 r m (nI k) (nI b) (nI i + 1) h23 (fun y35 h36 => K' (y35, h36)) (fun h37 => DJ_Mo_tellLaw_129 r m (nI k) (nI b) h37 Q) Q) ∧ ((h23.1 m 13) = 0 → D_Mo_expression r m h23 (fun h31 => DJ_Mo_tellLaw_110 r m (nI k) (nI b) (nI i + 1) h31 (fun y35 h36 => K' (y35, h36)) (fun h37 => DJ_Mo_tellLaw_129 r m (nI k) (nI b) h37 Q) Q)))) := by
          intro e h3 f3 P3 eE
          refine P_mustF f3.1 ?_
          rw [f3.2.1, r37, nI_clamp (n := b + i) (by omega)]
          refine ⟨vp_in_nI (by omega) (by omega), fun h4 e4 => ?_⟩
          have m4 : h4.1 m = h3.1 m := by rw [e4, pI_o _ _ _ _ (by omega)]
          have f4 : FSt h4 m sd e (b + i) := ⟨⟨f3.1.1, by rw [m4]; exact f3.1.2.1, by rw [m4]; exact f3.1.2.2⟩, by rw [m4]; exact f3.2.1, by rw [m4]; exact f3.2.2⟩
          exact ⟨fun _ => dead0 e h4 f4 (P3.tr (by rw [e4]; exact PL.br (by omega) (by omega) (by omega))) eE, fun w => absurd w f4.1.ne⟩
        unfold DJ_Mo_tellLaw_38
        rw [s2.1.2.2.1]
        refine ⟨fun _ x11 e11 => ?_, fun w => absurd (Int32.le_refl _) w⟩
        subst e11
        refine P_goesOn s2.1 (fun t4 => ?_) (fun t4 h3 f3 => ?_)
        · rw [needP_t y t4] at eR
          have j1 := hJ.2 t1 tJ1 (by omega) t4
          have s3 := s2.fd (t' := t1 + 1) j1
          rw [s3.2.2.1, r35, nI_clamp (n := b + i) (by omega), n1]
          refine ⟨vp_in_nI (by omega) (by omega), fun h4 e4 => ?_⟩
          have s4 : LSt r h4 m c n J sd (t1 + 1) (b + i) K1 := by rw [e4]; exact s3.br (by omega)
          rw [s4.2.2.1, r36, nI_clamp (n := b + i) (by omega), s4.2.2.2.1]
          refine ⟨vp_in_nI (by omega) (by omega), fun h5 e5 => ?_⟩
          have s5 : LSt r h5 m c n J sd (t1 + 1) (b + i) K1 := by rw [e5]; exact s4.br (by omega)
          have P5 : PL m sd k b K h2 h5 := by
            rw [e5, e4]
            exact ((PL.fd (by omega)).tr (PL.br (by omega) (by omega) (by omega))).tr (PL.br (by omega) (by omega) (by omega))
          have a5 : ∀ x, ¬ x = b + i → ∀ a, m + 21 ≤ a → a ≤ m + 25 → h5.1 a x = h2.1 a x := fun x hx a u v => by
            rw [e5, e4]
            by_cases w : a = m + 22
            · subst w; rw [pI_n _ _ _ _ (by omega), pI_o _ _ _ _ (by omega), pI_o _ _ _ _ (by omega)]
            · rw [pI_o _ _ _ _ w]
              by_cases w2 : a = m + 21
              · subst w2; rw [pI_n _ _ _ _ (by omega), pI_o _ _ _ _ (by omega)]
              · rw [pI_o _ _ _ _ w2, pI_o _ _ _ _ (by omega)]
          have z5 : h5.1 (m + 26) = h2.1 (m + 26) ∧ h5.1 (m + 27) = h2.1 (m + 27) := by rw [e5, e4, pI_o _ _ _ _ (by omega), pI_o _ _ _ _ (by omega), pI_o _ _ _ _ (by omega), pI_o _ _ _ _ (by omega), pI_o _ _ _ _ (by omega), pI_o _ _ _ _ (by omega)]; exact ⟨rfl, rfl⟩
          have t5 : h5.1 (m + 21) (b + i) = 1 := by rw [e5, pI_o _ _ _ _ (by omega), e4, pI_s]
          have u5 : h5.1 (m + 22) (b + i) = nI K1 := by rw [e5, pI_s]
          have B5 : BRs h5 m sd b i Ps K1 := B2.mv (Nat.le_refl _) (fun x hx a u v => a5 x (by omega) a u v) (fun x _ => by rw [z5.1, z5.2]; exact ⟨rfl, rfl⟩)
          refine P_exM s5 hs hJ hv (by omega) (by omega) (fun pa ha h6 X6 s6 g6 b6 l6 => ?_) (fun e he h6 X6 f6 => dead1 e h6 f6 ((P2.tr P5).tr (PL.xf q3 X6)) (by rw [eR]; show bnd (bnd (smQ _ _ _ (t1 + 1)) _) _ = _; rw [he]; rfl))
          replace eR : R = bnd (bnd (needP (kdT c n) (plT c n) 29 pa.1) (fun t3 => bnd (smQ (kdT c n) (plT c n) (vaT c n) t3) (fun b => bnd (needP (kdT c n) (plT c n) 12 b.1) (fun t5 => bnd (smQ (kdT c n) (plT c n) (vaT c n) t5) (fun d => bnd (needP (kdT c n) (plT c n) 13 d.1) (fun t7 => lwL (kdT c n) (plT c n) (vaT c n) (4 - (i + 1)) t7 (Ps ++ [pa.2] ++ [b.2] ++ [d.2]))))))) (fun p => bnd (needP (kdT c n) (plT c n) 23 p.1) (fun t' => .ok (t', p.2))) := by rw [eR]; show bnd (bnd (smQ _ _ _ (t1 + 1)) _) _ = _; rw [ha]; rfl
          have P6 := (P2.tr P5).tr (PL.xf q3 X6)
          have x6 : ∀ a, m + 21 ≤ a → a ≤ m + 25 → h6.1 a = h5.1 a := fun a u v => (X6.1 a (by omega)).1
          refine P_must (k := 29) s6.1 (by omega) (fun t7 n7 => ?_) (fun e he he2 h7 f7 => ?_)
          · rw [n7] at eR
            obtain ⟨w1, w2, rfl⟩ := needP_ok n7
            have j7 := hJ.2 pa.1 s6.1.2.1 (by omega) w2
            have s7 := s6.fd (t' := pa.1 + 1) j7
            rw [s7.2.2.1, r37, nI_clamp (n := b + i) (by omega), s7.2.2.2.1]
            refine ⟨vp_in_nI (by omega) (by omega), fun h8 e8 => ?_⟩
            have s8 : LSt r h8 m c n J sd (pa.1 + 1) (b + i) (K1 + pa.2.length) := by rw [e8]; exact s7.br (by omega)
            have P8 : PL m sd k b K h6 h8 := by rw [e8]; exact (PL.fd (by omega)).tr (PL.br (by omega) (by omega) (by omega))
            refine ⟨fun w => absurd s8.1.2.2.1 w, fun _ => ?_⟩
            refine P_exM s8 hs hJ hv (by omega) (by omega) (fun pb hb' h9 X9 s9 g9 b9 l9 => ?_) (fun e he h9 X9 f9 => dead0 e h9 f9 ((P6.tr P8).tr (PL.xf (by omega) X9)) (by rw [eR]; show bnd (bnd (smQ _ _ _ (pa.1 + 1)) _) _ = _; rw [he]; rfl))
            replace eR : R = bnd (bnd (needP (kdT c n) (plT c n) 12 pb.1) (fun t5 => bnd (smQ (kdT c n) (plT c n) (vaT c n) t5) (fun d => bnd (needP (kdT c n) (plT c n) 13 d.1) (fun t7 => lwL (kdT c n) (plT c n) (vaT c n) (4 - (i + 1)) t7 (Ps ++ [pa.2] ++ [pb.2] ++ [d.2]))))) (fun p => bnd (needP (kdT c n) (plT c n) 23 p.1) (fun t' => .ok (t', p.2))) := by rw [eR]; show bnd (bnd (smQ _ _ _ (pa.1 + 1)) _) _ = _; rw [hb']; rfl
            have P9 := (P6.tr P8).tr (PL.xf (by omega) X9)
            have x9 : ∀ a, m + 21 ≤ a → a ≤ m + 25 → h9.1 a = h8.1 a := fun a u v => (X9.1 a (by omega)).1
            unfold DJ_Mo_tellLaw_110
            refine P_must (k := 12) s9.1 (by omega) (fun t10 n10 => ?_) (fun e he he2 h10 f10 => ?_)
            · rw [n10] at eR
              obtain ⟨w3, w4, rfl⟩ := needP_ok n10
              have j10 := hJ.2 pb.1 s9.1.2.1 (by omega) w4
              have s10 := s9.fd (t' := pb.1 + 1) j10
              refine P_term (k := k) (b0 := b) (K0 := K) s10 hs hJ hv (by omega) (by omega) (by omega) (by omega) (by omega) (fun pd hd h11 P11 y1 y2 y3 s11 v11 g11 b11 l11 => ?_) (fun e he h11 P11 f11 => P_mustF f11.1 ?_)
              · replace eR : R = bnd (bnd (needP (kdT c n) (plT c n) 13 pd.1) (fun t7 => lwL (kdT c n) (plT c n) (vaT c n) (4 - (i + 1)) t7 (Ps ++ [pa.2] ++ [pb.2] ++ [pd.2]))) (fun p => bnd (needP (kdT c n) (plT c n) 23 p.1) (fun t' => .ok (t', p.2))) := by rw [eR]; show bnd (bnd (smQ _ _ _ (pb.1 + 1)) _) _ = _; rw [hd]; rfl
                have P11' := (P9.tr (PL.fd (by omega))).tr P11
                refine P_must (k := 13) s11.1 (by omega) (fun t12 n12 => ?_) (fun e he he2 h12 f12 => ?_)
                · rw [n12] at eR
                  obtain ⟨w5, w6, rfl⟩ := needP_ok n12
                  have j12 := hJ.2 pd.1 s11.1.2.1 (by omega) w6
                  have s12 := s11.fd (t' := pd.1 + 1) j12
                  rw [nI_1]
                  have a11 : ∀ a, m + 21 ≤ a → a ≤ m + 23 → (pI h11 m 11 (nI (pd.1 + 1))).1 a = h8.1 a := fun a u v => by rw [pI_o _ _ _ _ (by omega), y2 a u v, pI_o _ _ _ _ (by omega), x9 a u (by omega)]
                  have e21 : (pI h11 m 11 (nI (pd.1 + 1))).1 (m + 21) (b + i) = 1 := by rw [a11 _ (by omega) (by omega), e8, pI_o _ _ _ _ (by omega), pI_o _ _ _ _ (by omega), x6 _ (by omega) (by omega)]; exact t5
                  have e22 : (pI h11 m 11 (nI (pd.1 + 1))).1 (m + 22) (b + i) = nI K1 := by rw [a11 _ (by omega) (by omega), e8, pI_o _ _ _ _ (by omega), pI_o _ _ _ _ (by omega), x6 _ (by omega) (by omega)]; exact u5
                  have e23 : (pI h11 m 11 (nI (pd.1 + 1))).1 (m + 23) (b + i) = nI (K1 + pa.2.length) := by rw [a11 _ (by omega) (by omega), e8, pI_s]
                  have c11 : ∀ x, x < K1 + pa.2.length + pb.2.length → (pI h11 m 11 (nI (pd.1 + 1))).1 (m + 26) x = h9.1 (m + 26) x ∧ (pI h11 m 11 (nI (pd.1 + 1))).1 (m + 27) x = h9.1 (m + 27) x := fun x hx => by
                    have := y3 x hx
                    rw [pI_o _ _ _ _ (by omega), pI_o _ _ _ _ (by omega), this.1, this.2, pI_o _ _ _ _ (by omega), pI_o _ _ _ _ (by omega)]; exact ⟨rfl, rfl⟩
                  have c9 : ∀ x, x < K1 + pa.2.length → h9.1 (m + 26) x = h6.1 (m + 26) x ∧ h9.1 (m + 27) x = h6.1 (m + 27) x := fun x hx => by
                    have := X9.2.2 x (Or.inl hx)
                    rw [this.1, this.2, e8, pI_o _ _ _ _ (by omega), pI_o _ _ _ _ (by omega), pI_o _ _ _ _ (by omega), pI_o _ _ _ _ (by omega)]; exact ⟨rfl, rfl⟩
                  refine hK _ ⟨_, rfl, Or.inl ⟨pd.1 + 1, _, _, s12, P11'.tr (PL.fd (by omega)), BRs.add ?_ e21 ?_ ?_ ?_, by omega, by omega, by omega, eR⟩⟩ i4
                  · refine B5.mv (by omega) (fun x hx a u v => ?_) (fun x hx => ?_)
                    · rw [pI_o _ _ _ _ (by omega), y1 x (by omega) a u v, pI_o _ _ _ _ (by omega), x9 a u v, e8]
                      by_cases w : a = m + 23
                      · subst w; rw [pI_n _ _ _ _ (by omega), pI_o _ _ _ _ (by omega), x6 _ (by omega) (by omega)]
                      · rw [pI_o _ _ _ _ w, pI_o _ _ _ _ (by omega), x6 _ u v]
                    · have d1 := c11 x (by omega)
                      have d2 := c9 x (by omega)
                      have d3 := X6.2.2 x (Or.inl hx)
                      rw [d1.1, d1.2, d2.1, d2.2, d3.1, d3.2]; exact ⟨rfl, rfl⟩
                  · rw [e22, e23]
                    refine g6.mv (by omega) (fun x hx => ?_)
                    have d1 := c11 x (by omega)
                    have d2 := c9 x (by omega)
                    rw [d1.1, d1.2, d2.1, d2.2]; exact ⟨rfl, rfl⟩
                  · have e24 : (pI h11 m 11 (nI (pd.1 + 1))).1 (m + 24) (b + i) = nI (K1 + pa.2.length + pb.2.length) := by rw [pI_o _ _ _ _ (by omega)]; exact v11
                    rw [e23, e24]
                    exact g9.mv (by omega) c11
                  · rw [pI_o _ _ _ _ (by omega), pI_o _ _ _ _ (by omega)]
                    exact g11.mv (Nat.le_refl _) (fun x _ => by rw [pI_o _ _ _ _ (by omega), pI_o _ _ _ _ (by omega)]; exact ⟨rfl, rfl⟩)
                · rw [he] at eR
                  rw [nI_1]
                  exact hK _ ⟨h12, rfl, Or.inr ⟨e, b + i + 1, f12.FSt he2 s11, P11'.tr f12.PL, by omega, by omega, eR⟩⟩ i4
              · rw [nI_1]
                exact hK _ ⟨h11, rfl, Or.inr ⟨e, b + i + 1, f11, (P9.tr (PL.fd (by omega))).tr P11, by omega, by omega, by rw [eR]; show bnd (bnd (smQ _ _ _ (pb.1 + 1)) _) _ = _; rw [he]; rfl⟩⟩ i4
            · rw [he] at eR
              have F10 := f10.FSt he2 s9
              have P10 := P9.tr f10.PL
              refine P_termF (k := k) (b0 := b) (K0 := K) hr F10 hs (by omega) (by omega) (fun h11 P11 f11 => P_mustF f11.1 ?_)
              rw [nI_1]
              exact hK _ ⟨h11, rfl, Or.inr ⟨e, b + i + 1, f11, P10.tr P11, by omega, by omega, eR⟩⟩ i4
          · rw [he] at eR
            have F7 := f7.FSt he2 s6
            rw [F7.2.1, r37, nI_clamp (n := b + i) (by omega)]
            refine ⟨vp_in_nI (by omega) (by omega), fun h8 e8 => ?_⟩
            have m8 : h8.1 m = h7.1 m := by rw [e8, pI_o _ _ _ _ (by omega)]
            have f8 : FSt h8 m sd e (b + i) := ⟨⟨F7.1.1, by rw [m8]; exact F7.1.2.1, by rw [m8]; exact F7.1.2.2⟩, by rw [m8]; exact F7.2.1, by rw [m8]; exact F7.2.2⟩
            exact ⟨fun _ => dead0 e h8 f8 ((P6.tr f7.PL).tr (by rw [e8]; exact PL.br (by omega) (by omega) (by omega))) eR, fun w => absurd w f8.1.ne⟩
        · rw [needP_2 y t4] at eR
          have F3 := f3.FSt (e := (2, plT c n t1)) ⟨(by decide : ¬ (2 : Nat) = 0), (by decide : (2 : Nat) ≤ 9)⟩ s2
          rw [F3.2.1, r35, nI_clamp (n := b + i) (by omega)]
          refine ⟨vp_in_nI (by omega) (by omega), fun h4 e4 => ?_⟩
          have m4 : h4.1 m = h3.1 m := by rw [e4, pI_o _ _ _ _ (by omega)]
          rw [m4, F3.2.1, r36, nI_clamp (n := b + i) (by omega)]
          refine ⟨vp_in_nI (by omega) (by omega), fun h5 e5 => ?_⟩
          have m5 : h5.1 m = h3.1 m := by rw [e5, pI_o _ _ _ _ (by omega), m4]
          have f5 : FSt h5 m sd (2, plT c n t1) (b + i) := ⟨⟨F3.1.1, by rw [m5]; exact F3.1.2.1, by rw [m5]; exact F3.1.2.2⟩, by rw [m5]; exact F3.2.1, by rw [m5]; exact F3.2.2⟩
          refine P_expressionF f5.1 (dead1 (2, plT c n t1) _ ⟨⟨f5.1.1, by rw [pI_n _ _ _ _ (by omega)]; exact f5.1.2.1, by rw [pI_n _ _ _ _ (by omega)]; exact f5.1.2.2⟩, by rw [pI_n _ _ _ _ (by omega)]; exact f5.2.1, by rw [pI_n _ _ _ _ (by omega)]; exact f5.2.2⟩ ((P2.tr f3.PL).tr ?_) eR)
          rw [e5, e4]
          exact ((PL.br (by omega) (by omega) (by omega)).tr (PL.br (by omega) (by omega) (by omega))).tr (PL.fd (by omega))
      · have i4 : i = 4 := (nI_eq (b := 4) (by omega) (by omega)).mp z
        rw [i4, show 4 - 4 = 0 from rfl] at eR
        unfold lwL at eR
        rw [if_pos y] at eR
        refine P_Mfail (k := 2) s2.1 (fun h3 f3 => ?_)
        have F3 := f3.FSt (e := (2, plT c n t1)) ⟨(by decide : ¬ (2 : Nat) = 0), (by decide : (2 : Nat) ≤ 9)⟩ s2
        unfold DJ_Mo_tellLaw_38
        exact ⟨fun w => absurd w F3.1.pos, fun _ => her (2, plT c n t1) eR h3 (P2.tr f3.PL) F3.1⟩
      · have eR2 : R = bnd (lwE (kdT c n) (plT c n) (vaT c n) t1 Ps) (fun p => bnd (needP (kdT c n) (plT c n) 23 p.1) (fun t' => .ok (t', p.2))) := by
          rw [eR]
          cases 4 - i with
          | zero => unfold lwL; rw [if_neg y]
          | succ j => unfold lwL; rw [if_neg y]
        unfold lwE at eR2
        show DJ_Mo_tellLaw_129 r m (nI k) (nI b) h2 Q
        unfold DJ_Mo_tellLaw_129
        rw [s2.2.2.1, r35, nI_clamp (n := b + i) (by omega), n0]
        refine ⟨vp_in_nI (by omega) (by omega), fun h3 e3 => ?_⟩
        have s3 : LSt r h3 m c n J sd t1 (b + i) K1 := by rw [e3]; exact s2.br (by omega)
        have P3 : PL m sd k b K h h3 := P2.tr (by rw [e3]; exact PL.br (by omega) (by omega) (by omega))
        refine P_term (k := k) (b0 := b) (K0 := K) s3 hs hJ hv q2 (by omega) q3 (by omega) (by omega) (fun p hp h4 P4 y1 y2 y3 s4 v4 g4 b4 l4 => ?_) (fun e he h4 P4 f4 => P_mustF f4.1 ⟨fun w => absurd w f4.1.pos, fun _ => her e (by rw [eR2, he]; rfl) h4 (P3.tr P4) f4.1⟩)
        replace eR2 : R = bnd (needP (kdT c n) (plT c n) 23 p.1) (fun t' => .ok (t', Ps ++ [p.2])) := by rw [eR2, hp]; rfl
        refine P_must (k := 23) s4.1 (by omega) (fun t5 n5 => ?_) (fun e he he2 h5 f5 => ?_)
        · rw [n5] at eR2
          obtain ⟨w1, w2, rfl⟩ := needP_ok n5
          have j5 := hJ.2 p.1 s4.1.2.1 (by omega) w2
          have s5 := s4.fd (t' := p.1 + 1) j5
          rw [s5.1.2.2.1, s5.2.2.2.2, r32, r33]
          have ei : (3 : Int32) * nI sd + nI k = nI (3 * sd + k) := by show nI 3 * nI sd + nI k = _; rw [pk_mul, nI_add]
          rw [ei, nI_clamp (n := 3 * sd + k) (by omega)]
          refine ⟨fun _ => ⟨vp_in_nI (by omega) (by omega), fun h6 e6 => ?_⟩, fun w => absurd (Int32.le_refl _) w⟩
          have m6 : h6.1 m = (pI h4 m 11 (nI (p.1 + 1))).1 m := by rw [e6, pI_o _ _ _ _ (by omega)]
          rw [m6, s5.2.2.2.2, s5.2.2.1, ei, nI_clamp (n := 3 * sd + k) (by omega)]
          refine ⟨vp_in_nI (by omega) (by omega), fun h7 e7 => ?_⟩
          have m7 : h7.1 m = (pI h4 m 11 (nI (p.1 + 1))).1 m := by rw [e7, pI_o _ _ _ _ (by omega), m6]
          have a7 : ∀ a, ¬ a = m → ¬ a = m + 19 → ¬ a = m + 20 → h7.1 a = h4.1 a := fun a u v w => by rw [e7, pI_o _ _ _ _ w, e6, pI_o _ _ _ _ v, pI_o _ _ _ _ u]
          have P7 : PL m sd k b K (pI h4 m 11 (nI (p.1 + 1))) h7 := by
            refine ⟨by rw [e7, e6]; exact (Fr.pI (Or.inr (by omega))).tr (Fr.pI (Or.inr (by omega))), fun j _ _ _ _ _ _ _ => by rw [m7], fun x hx => ?_, fun x _ a u v => by rw [e7, pI_o _ _ _ _ (by omega), e6, pI_o _ _ _ _ (by omega)], fun x _ => ⟨by rw [e7, pI_o _ _ _ _ (by omega), e6, pI_o _ _ _ _ (by omega)], by rw [e7, pI_o _ _ _ _ (by omega), e6, pI_o _ _ _ _ (by omega)]⟩⟩
            exact ⟨by rw [e7, pI_o _ _ _ _ (by omega), e6, pI_n _ _ _ _ (by omega)], by rw [e7, pI_n _ _ _ _ (by omega), e6, pI_o _ _ _ _ (by omega)]⟩
          have l7 : h7.2 = h4.2 := by rw [e7, pI_l, e6, pI_l, pI_l]
          refine hok (p.1 + 1, Ps ++ [p.2]) eR2 h7 (b + i + 1) (K1 + p.2.length) (((P3.tr P4).tr (PL.fd (by omega))).tr P7) ⟨⟨s5.1.1.mv (fun a u v => by rw [a7 a (by omega) (by omega) (by omega), l7, pI_o _ _ _ _ (by omega), pI_l]; exact ⟨rfl, rfl⟩), j5, by rw [m7]; exact s5.1.2.2.1, by rw [m7]; exact s5.1.2.2.2⟩, by rw [m7]; exact s5.2.1, by rw [m7]; exact s5.2.2.1, by rw [m7]; exact s5.2.2.2.1, by rw [m7]; exact s5.2.2.2.2⟩ (by show K1 + p.2.length ≤ 420 * sd + (p.1 + 1); omega) (by omega) (by omega) (by show 4 * (b + i + 1 - 130 * sd) ≤ p.1 + 1; omega) ⟨b, i, ?_, ?_, hbb, by omega, Ps, p.2, rfl, ?_, ?_, ?_⟩
          · rw [e7, pI_o _ _ _ _ (by omega), e6, pI_s]
          · rw [e7, pI_s]; rfl
          · refine B2.mv (by omega) (fun x hx a u v => ?_) (fun x hx => ?_)
            · rw [a7 a (by omega) (by omega) (by omega), y1 x (by omega) a u v, e3]
              by_cases w : a = m + 21
              · subst w; rw [pI_n _ _ _ _ (by omega)]
              · rw [pI_o _ _ _ _ w]
            · have := y3 x hx
              rw [a7 _ (by omega) (by omega) (by omega), a7 _ (by omega) (by omega) (by omega), this.1, this.2, e3, pI_o _ _ _ _ (by omega), pI_o _ _ _ _ (by omega)]; exact ⟨rfl, rfl⟩
          · rw [a7 _ (by omega) (by omega) (by omega), y2 _ (by omega) (by omega), e3, pI_s]
          · rw [a7 _ (by omega) (by omega) (by omega), a7 (m + 25) (by omega) (by omega) (by omega)]
            exact g4.mv (Nat.le_refl _) (fun x _ => by rw [a7 _ (by omega) (by omega) (by omega), a7 _ (by omega) (by omega) (by omega)]; exact ⟨rfl, rfl⟩)
        · rw [he] at eR2
          have F5 := f5.FSt he2 s4
          exact ⟨fun w => absurd w F5.1.pos, fun _ => her e eR2 h5 ((P3.tr P4).tr f5.PL) F5.1⟩
    refine lp_for 4 (fun i s' => ∃ h', s' = (nI i, h') ∧ ((∃ t1 Ps K1, LSt r h' m c n J sd t1 (b + i) K1 ∧ PL m sd k b K h h' ∧ BRs h' m sd b i Ps K1 ∧ 4 * (b + i - 130 * sd) + 2 ≤ t1 ∧ K1 ≤ 420 * sd + t1 ∧ K ≤ K1 ∧ R = bnd (lwL (kdT c n) (plT c n) (vaT c n) (4 - i) t1 Ps) (fun p => bnd (needP (kdT c n) (plT c n) 23 p.1) (fun t' => .ok (t', p.2)))) ∨ (∃ (e : Nat × Nat) (b1 : Nat), FSt h' m sd e b1 ∧ PL m sd k b K h h' ∧ b ≤ b1 ∧ b1 ≤ 130 * sd + 102 ∧ R = .error e))) ?_ ?_ _ ⟨h1, rfl, ?_⟩
    · rintro i s' K' hi ⟨h', rfl, st'⟩ hK
      exact core i h' K' (by omega) (fun s'' w _ => hK s'' w) st'
    · rintro s' K' ⟨h', rfl, st'⟩
      exact core 4 h' K' (by omega) (fun s'' w q => by omega) st'
    · rcases st with ⟨t1, s1, P1, q1, q2, eR⟩ | ⟨e, f1, P1, eR⟩
      · exact Or.inl ⟨t1, [], K, s1, P1, ⟨rfl, fun i hi => by omega⟩, q1, q2, Nat.le_refl _, eR⟩
      · exact Or.inr ⟨e, b, f1, P1, Nat.le_refl _, by omega, eR⟩
  unfold D_Mo_tellLaw
  refine P_must (k := 24) s.1 (by omega) (fun t1 hn1 x3 e3 => ?_) (fun e he he2 h1 f1 x3 e3 => ?_)
  · obtain ⟨w1, w2, rfl⟩ := needP_ok hn1
    have s1 := s.fd (t' := t + 1) (hJ.2 t s.1.2.1 (by omega) w2)
    rw [s1.2.2.1] at e3
    subst e3
    rw [hn1] at hL
    exact loop _ (Or.inl ⟨t + 1, s1, PL.fd (by omega), by omega, by omega, hL.symm⟩)
  · have F1 := f1.FSt he2 s
    rw [F1.2.1] at e3
    subst e3
    rw [he] at hL
    exact loop _ (Or.inr ⟨e, F1, f1.PL, hL.symm⟩)
