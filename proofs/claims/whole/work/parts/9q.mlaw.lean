/-! a law: the reference's side -/
def refL (kd pl va : Nat → Nat) (t : Nat) : Except (Nat × Nat) (Nat × List (List Nat)) := bnd (needP kd pl 24 t) (fun t2 => bnd (lwL kd pl va 4 t2 []) (fun p => bnd (needP kd pl 23 p.1) (fun t' => .ok (t', p.2))))
def PL (m sd k b0 K0 : Nat) (h h' : TH) : Prop := Fr (fun a => a = m ∨ (m + 19 ≤ a ∧ a ≤ m + 28)) h h' ∧ (∀ j, ¬ j = 11 → ¬ j = 12 → ¬ j = 13 → ¬ j = 14 → ¬ j = 34 → ¬ j = 40 → ¬ j = 44 → h'.1 m j = h.1 m j) ∧ (∀ x, ¬ x = 3 * sd + k → h'.1 (m + 19) x = h.1 (m + 19) x ∧ h'.1 (m + 20) x = h.1 (m + 20) x) ∧ (∀ x, (x < b0 ∨ 130 * sd + 130 ≤ x) → ∀ a, m + 21 ≤ a → a ≤ m + 25 → h'.1 a x = h.1 a x) ∧ ∀ x, (x < K0 ∨ 420 * sd + 420 ≤ x) → h'.1 (m + 26) x = h.1 (m + 26) x ∧ h'.1 (m + 27) x = h.1 (m + 27) x
theorem PL.rf {m sd k b0 K0 : Nat} {h : TH} : PL m sd k b0 K0 h h := ⟨Fr.rf, fun _ _ _ _ _ _ _ _ => rfl, fun _ _ => ⟨rfl, rfl⟩, fun _ _ _ _ _ => rfl, fun _ _ => ⟨rfl, rfl⟩⟩
theorem PL.tr {m sd k b0 K0 : Nat} {h h1 h2 : TH} (a : PL m sd k b0 K0 h h1) (b : PL m sd k b0 K0 h1 h2) : PL m sd k b0 K0 h h2 := ⟨a.1.tr b.1, fun j x1 x2 x3 x4 x5 x6 x7 => (b.2.1 j x1 x2 x3 x4 x5 x6 x7).trans (a.2.1 j x1 x2 x3 x4 x5 x6 x7), fun x hx => ⟨(b.2.2.1 x hx).1.trans (a.2.2.1 x hx).1, (b.2.2.1 x hx).2.trans (a.2.2.1 x hx).2⟩, fun x hx y p q => (b.2.2.2.1 x hx y p q).trans (a.2.2.2.1 x hx y p q), fun x hx => ⟨(b.2.2.2.2 x hx).1.trans (a.2.2.2.2 x hx).1, (b.2.2.2.2 x hx).2.trans (a.2.2.2.2 x hx).2⟩⟩
theorem PL.fd {m sd k b0 K0 j : Nat} {h : TH} {v : Int32} (hj : j = 11 ∨ j = 12 ∨ j = 13 ∨ j = 14 ∨ j = 34 ∨ j = 40 ∨ j = 44) : PL m sd k b0 K0 h (pI h m j v) := ⟨Fr.pI (Or.inl rfl), fun i _ _ _ _ _ _ _ => pI_n _ _ _ _ (by omega), fun x _ => by rw [pI_o _ _ _ _ (by omega), pI_o _ _ _ _ (by omega)]; exact ⟨rfl, rfl⟩, fun x _ a p q => by rw [pI_o _ _ _ _ (by omega)], fun x _ => by rw [pI_o _ _ _ _ (by omega), pI_o _ _ _ _ (by omega)]; exact ⟨rfl, rfl⟩⟩
theorem PL.br {m sd k b0 K0 a b : Nat} {h : TH} {v : Int32} (ha : m + 21 ≤ a ∧ a ≤ m + 25) (hb : b0 ≤ b) (hb2 : b < 130 * sd + 130) : PL m sd k b0 K0 h (pI h a b v) := ⟨Fr.pI (Or.inr (by omega)), fun i _ _ _ _ _ _ _ => by rw [pI_o _ _ _ _ (by omega)], fun x _ => by rw [pI_o _ _ _ _ (by omega), pI_o _ _ _ _ (by omega)]; exact ⟨rfl, rfl⟩, fun x hx a' p q => pI_n _ _ _ _ (by omega), fun x _ => by rw [pI_o _ _ _ _ (by omega), pI_o _ _ _ _ (by omega)]; exact ⟨rfl, rfl⟩⟩
theorem PL.xf {m sd k b0 K0 K : Nat} {h h' : TH} (hK : K0 ≤ K) (x : XF m K (420 * sd + 420) h h') : PL m sd k b0 K0 h h' := ⟨x.1.mono (fun a ha => by omega), fun j x1 x2 x3 x4 _ x6 x7 => x.2.1 j x1 x2 x3 x4 x6 x7, fun y _ => by rw [(x.1 _ (by omega)).1, (x.1 _ (by omega)).1]; exact ⟨rfl, rfl⟩, fun y _ a p q => by rw [(x.1 a (by omega)).1], fun y hy => x.2.2 y (by omega)⟩
theorem PL.T {r : TR} {m sd k b0 K0 n J : Nat} {c : Nat → Nat} {h h' : TH} (p : PL m sd k b0 K0 h h') (s : RfT r h m c n J) : RfT r h' m c n J := s.mv (fun a x y => p.1 a (by omega))
def SegB (h : TH) (m sd K : Nat) (a b : Int32) (cs : List Nat) : Prop := ∃ s, a = nI s ∧ b = nI (s + cs.length) ∧ 420 * sd ≤ s ∧ s + cs.length ≤ K ∧ (∀ i, i < cs.length → tokM (h.1 (m + 26) (s + i)) (h.1 (m + 27) (s + i)) (cs.getD i 0)) ∧ wfT cs 0 = true
theorem SegB.mv {h h' : TH} {m sd K K' : Nat} {a b : Int32} {cs : List Nat} (hK : K ≤ K') (e : ∀ x, x < K → h'.1 (m + 26) x = h.1 (m + 26) x ∧ h'.1 (m + 27) x = h.1 (m + 27) x) (g : SegB h m sd K a b cs) : SegB h' m sd K' a b cs := by
  obtain ⟨s, g1, g2, g3, g4, g5, g6⟩ := g
  refine ⟨s, g1, g2, g3, by omega, fun i hi => ?_, g6⟩
  rw [(e _ (by omega)).1, (e _ (by omega)).2]; exact g5 i hi
theorem SegB.seg {h : TH} {m sd K : Nat} {a b : Int32} {cs : List Nat} (hs : sd < 2) (hK : K ≤ 420 * sd + 420) (g : SegB h m sd K a b cs) : Seg h m a b cs := by
  obtain ⟨s, g1, g2, g3, g4, g5, g6⟩ := g
  exact ⟨s, g1, g2, by omega, g5, g6⟩
def LSt (r : TR) (h : TH) (m : Nat) (c : Nat → Nat) (n J sd t b K : Nat) : Prop := RfS r h m c n J t ∧ h.1 m 12 = 0 ∧ h.1 m 34 = nI b ∧ h.1 m 40 = nI K ∧ h.1 m 19 = nI sd
def FSt (h : TH) (m sd : Nat) (e : Nat × Nat) (b : Nat) : Prop := RfF h m e.1 e.2 ∧ h.1 m 34 = nI b ∧ h.1 m 19 = nI sd
theorem P_must {r : TR} {h : TH} {m n J t k : Nat} {c : Nat → Nat} {Q : TH → Prop} (s : RfS r h m c n J t) (hk : k ≤ 31) (hok : ∀ t', needP (kdT c n) (plT c n) k t = .ok t' → Q (pI h m 11 (nI t'))) (her : ∀ e, needP (kdT c n) (plT c n) k t = .error e → (¬ e.1 = 0 ∧ e.1 ≤ 9) → ∀ h', FaultM m e.1 e.2 h h' → Q h') : D_Mo_must r m (nI (mkK k)) h Q := by
  unfold D_Mo_must
  refine P_is s hk (fun y => ⟨fun z => absurd z z01, fun _ => P_goesOn s (fun t4 => hok _ (needP_t y t4)) (fun t4 h' f => her (2, plT c n t) (needP_2 y t4) ⟨(by decide : ¬ (2 : Nat) = 0), (by decide : (2 : Nat) ≤ 9)⟩ h' f)⟩) (fun y => ⟨fun _ => P_Mfail (k := 1) s (fun h' f => her (1, plT c n t) (needP_1 y) ⟨(by decide : ¬ (1 : Nat) = 0), (by decide : (1 : Nat) ≤ 9)⟩ h' f), fun z => absurd rfl z⟩)
theorem P_mustF {r : TR} {h : TH} {m k p : Nat} {v : Int32} {Q : TH → Prop} (f : RfF h m k p) (hQ : Q h) : D_Mo_must r m v h Q := by
  unfold D_Mo_must
  exact P_isF f.ne ⟨fun _ => P_MfailF f.pos hQ, fun z => absurd rfl z⟩
theorem P_expressionF {r : TR} {h : TH} {m k p : Nat} {Q : TH → Prop} (f : RfF h m k p) (hQ : Q (pI h m 44 0)) : D_Mo_expression r m h Q := by
  unfold D_Mo_expression
  intro h1 e1 x2 e2
  have ne : ¬ h1.1 m 13 = 0 := by rw [e1, pI_n _ _ _ _ (by omega)]; exact f.ne
  refine ⟨0 + 1, lp_s ?_⟩
  unfold DB_Mo_expression_12
  refine ⟨fun z => absurd z z01, fun _ => ⟨fun _ => ?_, fun z => absurd z ne⟩⟩
  show Q h1
  rw [e1]; exact hQ
theorem LSt.fd {r : TR} {h : TH} {m n J sd t t' b K : Nat} {c : Nat → Nat} (s : LSt r h m c n J sd t b K) (ht : t' ≤ J) : LSt r (pI h m 11 (nI t')) m c n J sd t' b K := ⟨⟨s.1.1.mv (fun a p q => by rw [pI_o _ _ _ _ (by omega), pI_l]; exact ⟨rfl, rfl⟩), ht, by rw [pI_n _ _ _ _ (by omega)]; exact s.1.2.2.1, pI_s _ _ _ _⟩, by rw [pI_n _ _ _ _ (by omega)]; exact s.2.1, by rw [pI_n _ _ _ _ (by omega)]; exact s.2.2.1, by rw [pI_n _ _ _ _ (by omega)]; exact s.2.2.2.1, by rw [pI_n _ _ _ _ (by omega)]; exact s.2.2.2.2⟩
theorem LSt.br {r : TR} {h : TH} {m n J sd t b K a x : Nat} {c : Nat → Nat} {v : Int32} (ha : m + 21 ≤ a ∧ a ≤ m + 25) (s : LSt r h m c n J sd t b K) : LSt r (pI h a x v) m c n J sd t b K := by
  have e : (pI h a x v).1 m = h.1 m := pI_o _ _ _ _ (by omega)
  refine ⟨⟨s.1.1.mv (fun y p q => by rw [pI_o _ _ _ _ (by omega), pI_l]; exact ⟨rfl, rfl⟩), s.1.2.1, ?_, ?_⟩, ?_, ?_, ?_, ?_⟩
  · rw [e]; exact s.1.2.2.1
  · rw [e]; exact s.1.2.2.2
  · rw [e]; exact s.2.1
  · rw [e]; exact s.2.2.1
  · rw [e]; exact s.2.2.2.1
  · rw [e]; exact s.2.2.2.2
theorem FaultM.FSt {r : TR} {h h' : TH} {m n J sd t b K : Nat} {c : Nat → Nat} {e : Nat × Nat} (f : FaultM m e.1 e.2 h h') (he : ¬ e.1 = 0 ∧ e.1 ≤ 9) (s : LSt r h m c n J sd t b K) : FSt h' m sd e b := by
  have F := f.F he
  unfold FaultM at f
  exact ⟨F, by rw [f, pI_n _ _ _ _ (by omega), pI_n _ _ _ _ (by omega)]; exact s.2.2.1, by rw [f, pI_n _ _ _ _ (by omega), pI_n _ _ _ _ (by omega)]; exact s.2.2.2.2⟩
theorem FaultM.PL {m sd k b0 K0 j p : Nat} {h h' : TH} (f : FaultM m j p h h') : PL m sd k b0 K0 h h' := by
  unfold FaultM at f
  rw [f]
  exact (PL.fd (by omega)).tr (PL.fd (by omega))
theorem P_exM {r : TR} {h : TH} {m n J sd t b K : Nat} {c : Nat → Nat} {Q : TH → Prop} (s : LSt r h m c n J sd t b K) (hs : sd < 2) (hJ : Jok (kdT c n) J) (hv : ∀ t, kdT c n t = 3 → vaT c n t ≤ 9999) (hb : K ≤ 420 * sd + t) (hb0 : 420 * sd ≤ K)
    (hok : ∀ p, smQ (kdT c n) (plT c n) (vaT c n) t = .ok p → ∀ h', XF m K (420 * sd + 420) h h' → LSt r h' m c n J sd p.1 b (K + p.2.length) → SegB h' m sd (K + p.2.length) (nI K) (nI (K + p.2.length)) p.2 → K + p.2.length ≤ 420 * sd + p.1 → t < p.1 → Q h')
    (her : ∀ e, smQ (kdT c n) (plT c n) (vaT c n) t = .error e → ∀ h', XF m K (420 * sd + 420) h h' → FSt h' m sd e b → Q h') : D_Mo_expression r m h Q := by
  have me := mc_eq (pl := plT c n) hJ hv s.1.2.1
  refine P_expression (K0 := K) (B := 420 * sd) (hi := 420 * sd + 420) s.1 hJ hv s.2.1 s.2.2.2.1 hb (by omega) (by omega) (fun p hp h' X S o k tk => ?_) (fun e he h' X F => ?_)
  · rw [me] at hp
    have g := smP_gd hJ hv 6 t s.1.2.1 p hp
    exact hok p hp h' X ⟨S, o, by rw [X.2.1 34 (by omega) (by omega) (by omega) (by omega) (by omega) (by omega)]; exact s.2.2.1, k, by rw [X.2.1 19 (by omega) (by omega) (by omega) (by omega) (by omega) (by omega)]; exact s.2.2.2.2⟩ ⟨K, rfl, rfl, hb0, Nat.le_refl _, tk, g.2.2.2.1.fin (by omega)⟩ (by omega) g.1
  · rw [me] at he
    exact her e he h' X ⟨F, by rw [X.2.1 34 (by omega) (by omega) (by omega) (by omega) (by omega) (by omega)]; exact s.2.2.1, by rw [X.2.1 19 (by omega) (by omega) (by omega) (by omega) (by omega) (by omega)]; exact s.2.2.2.2⟩
theorem P_term {r : TR} {h : TH} {m n J sd t b K b0 K0 k : Nat} {c : Nat → Nat} {Q : TH → Prop} (s : LSt r h m c n J sd t b K) (hs : sd < 2) (hJ : Jok (kdT c n) J) (hv : ∀ t, kdT c n t = 3 → vaT c n t ≤ 9999) (hb : K ≤ 420 * sd + t) (hb0 : 420 * sd ≤ K) (hK0 : K0 ≤ K) (hbb : b0 ≤ b) (hb2 : b < 130 * sd + 110)
    (hok : ∀ p, smQ (kdT c n) (plT c n) (vaT c n) t = .ok p → ∀ h', PL m sd k b0 K0 h h' → (∀ x, ¬ x = b → ∀ a, m + 21 ≤ a → a ≤ m + 25 → h'.1 a x = h.1 a x) → (∀ a, m + 21 ≤ a → a ≤ m + 23 → h'.1 a = h.1 a) → (∀ x, x < K → h'.1 (m + 26) x = h.1 (m + 26) x ∧ h'.1 (m + 27) x = h.1 (m + 27) x) → LSt r h' m c n J sd p.1 (b + 1) (K + p.2.length) → h'.1 (m + 24) b = nI K → SegB h' m sd (K + p.2.length) (h'.1 (m + 24) b) (h'.1 (m + 25) b) p.2 → K + p.2.length ≤ 420 * sd + p.1 → t < p.1 → Q h')
    (her : ∀ e, smQ (kdT c n) (plT c n) (vaT c n) t = .error e → ∀ h', PL m sd k b0 K0 h h' → FSt h' m sd e (b + 1) → Q h') : D_Mo_term r m h Q := by
  have hr := s.1.1.1
  have r38 : r m 38 = m + 24 := hr 38 (by decide) (by decide)
  have r39 : r m 39 = m + 25 := hr 39 (by decide) (by decide)
  have last : ∀ (h7 : TH), h7.1 m 34 = nI b → ∀ (X : TH → Prop), (∀ h6, h6 = pI (pI h7 (m + 25) b (h7.1 m 40)) m 34 (nI (b + 1)) → X h6) → DJ_Mo_term_24 r m h7 X := by
    intro h7 e7 X hX
    unfold DJ_Mo_term_24
    rw [e7, r39, nI_clamp (n := b) (by omega)]
    refine ⟨vp_in_nI (by omega) (by omega), fun h5 e5 h6 e6 => hX h6 ?_⟩
    rw [e6, e5, pI_o _ _ _ _ (by omega), e7, nI_1]
  unfold D_Mo_term
  rw [s.2.2.1, r38, nI_clamp (n := b) (by omega), s.2.2.2.1]
  refine ⟨vp_in_nI (by omega) (by omega), fun h2 e2 => ?_⟩
  have s2 : LSt r h2 m c n J sd t b K := by rw [e2]; exact s.br (by omega)
  have P2 : PL m sd k b0 K0 h h2 := by rw [e2]; exact PL.br (by omega) hbb (by omega)
  refine ⟨fun z => absurd s2.1.2.2.1 z, fun _ => ?_⟩
  refine P_exM s2 hs hJ hv hb hb0 (fun p hp h3 X3 s3 g3 b3 l3 => ?_) (fun e he h3 X3 f3 => ?_)
  · refine last h3 s3.2.2.1 _ (fun h6 e6 => ?_)
    rw [s3.2.2.2.1] at e6
    have m6 : ∀ j, ¬ j = 34 → h6.1 m j = h3.1 m j := fun j hj => by rw [e6, pI_n _ _ _ _ (by omega), pI_o _ _ _ _ (by omega)]
    have a6 : ∀ a, ¬ a = m → ¬ a = m + 25 → h6.1 a = h3.1 a := fun a x y => by rw [e6, pI_o _ _ _ _ x, pI_o _ _ _ _ y]
    have l6 : h6.2 = h3.2 := by rw [e6, pI_l, pI_l]
    have x3 : ∀ a, m + 21 ≤ a → a ≤ m + 25 → h3.1 a = h2.1 a := fun a x y => (X3.1 a (by omega)).1
    refine hok p hp h6 ?_ (fun x hx a y z => ?_) (fun a y z => ?_) (fun x hx => ?_) ⟨⟨s3.1.1.mv (fun a y z => by rw [a6 a (by omega) (by omega), l6]; exact ⟨rfl, rfl⟩), s3.1.2.1, by rw [m6 13 (by omega)]; exact s3.1.2.2.1, by rw [m6 11 (by omega)]; exact s3.1.2.2.2⟩, by rw [m6 12 (by omega)]; exact s3.2.1, by rw [e6, pI_s], by rw [m6 40 (by omega)]; exact s3.2.2.2.1, by rw [m6 19 (by omega)]; exact s3.2.2.2.2⟩ ?_ ?_ b3 l3
    · refine (P2.tr (PL.xf hK0 X3)).tr ?_
      rw [e6]
      exact (PL.br (by omega) hbb (by omega)).tr (PL.fd (by omega))
    · by_cases e : a = m + 25
      · subst e
        rw [e6, pI_o _ _ _ _ (by omega), pI_n _ _ _ _ (by omega), x3 _ (by omega) (by omega), e2, pI_o _ _ _ _ (by omega)]
      · rw [a6 a (by omega) e, x3 a y z, e2]
        by_cases e4 : a = m + 24
        · subst e4; rw [pI_n _ _ _ _ (by omega)]
        · rw [pI_o _ _ _ _ e4]
    · rw [a6 a (by omega) (by omega), x3 a y (by omega), e2, pI_o _ _ _ _ (by omega)]
    · have w := X3.2.2 x (Or.inl hx)
      rw [a6 _ (by omega) (by omega), a6 _ (by omega) (by omega), w.1, w.2, e2, pI_o _ _ _ _ (by omega), pI_o _ _ _ _ (by omega)]
      exact ⟨rfl, rfl⟩
    · rw [a6 _ (by omega) (by omega), x3 _ (by omega) (by omega), e2, pI_s]
    · have e24 : h6.1 (m + 24) b = nI K := by rw [a6 _ (by omega) (by omega), x3 _ (by omega) (by omega), e2, pI_s]
      have e25 : h6.1 (m + 25) b = nI (K + p.2.length) := by rw [e6, pI_o _ _ _ _ (by omega), pI_s]
      rw [e24, e25]
      exact g3.mv (Nat.le_refl _) (fun x _ => by rw [a6 _ (by omega) (by omega), a6 _ (by omega) (by omega)]; exact ⟨rfl, rfl⟩)
  · refine last h3 f3.2.1 _ (fun h6 e6 => ?_)
    have m6 : ∀ j, ¬ j = 34 → h6.1 m j = h3.1 m j := fun j hj => by rw [e6, pI_n _ _ _ _ (by omega), pI_o _ _ _ _ (by omega)]
    refine her e he h6 ((P2.tr (PL.xf hK0 X3)).tr (by rw [e6]; exact (PL.br (by omega) hbb (by omega)).tr (PL.fd (by omega)))) ⟨⟨f3.1.1, by rw [m6 13 (by omega)]; exact f3.1.2.1, by rw [m6 14 (by omega)]; exact f3.1.2.2⟩, by rw [e6, pI_s], by rw [m6 19 (by omega)]; exact f3.2.2⟩
theorem P_termF {r : TR} {h : TH} {m sd b b0 K0 k : Nat} {e : Nat × Nat} {Q : TH → Prop} (hr : RMo r m) (f : FSt h m sd e b) (hs : sd < 2) (hbb : b0 ≤ b) (hb2 : b < 130 * sd + 110) (hQ : ∀ h', PL m sd k b0 K0 h h' → FSt h' m sd e (b + 1) → Q h') : D_Mo_term r m h Q := by
  have r38 : r m 38 = m + 24 := hr 38 (by decide) (by decide)
  have r39 : r m 39 = m + 25 := hr 39 (by decide) (by decide)
  unfold D_Mo_term DJ_Mo_term_24
  rw [f.2.1, r38, r39, nI_clamp (n := b) (by omega)]
  refine ⟨vp_in_nI (by omega) (by omega), fun h2 e2 => ?_⟩
  have m2 : h2.1 m = h.1 m := by rw [e2, pI_o _ _ _ _ (by omega)]
  rw [m2, f.2.1, nI_clamp (n := b) (by omega)]
  refine ⟨fun _ => ⟨vp_in_nI (by omega) (by omega), fun h5 e5 h6 e6 => ?_⟩, fun z => absurd z f.1.ne⟩
  have m5 : h5.1 m = h.1 m := by rw [e5, pI_o _ _ _ _ (by omega), m2]
  rw [m5, f.2.1, nI_1] at e6
  refine hQ h6 ?_ ⟨⟨f.1.1, by rw [e6, pI_n _ _ _ _ (by omega), m5]; exact f.1.2.1, by rw [e6, pI_n _ _ _ _ (by omega), m5]; exact f.1.2.2⟩, by rw [e6, pI_s], by rw [e6, pI_n _ _ _ _ (by omega), m5]; exact f.2.2⟩
  rw [e6, e5, e2]
  exact ((PL.br (by omega) hbb (by omega)).tr (PL.br (by omega) hbb (by omega))).tr (PL.fd (by omega))
