/-! what a text tells: the reference's draft -/
def own (m sd a x : Nat) : Prop := ((a = m + 9 ∨ a = m + 10 ∨ a = m + 12 ∨ a = m + 17 ∨ a = m + 18) ∧ x = sd) ∨ (a = m + 11 ∧ 40 * sd ≤ x ∧ x < 40 * sd + 40) ∨ ((m + 13 ≤ a ∧ a ≤ m + 16) ∧ 6 * sd ≤ x ∧ x < 6 * sd + 6) ∨ ((a = m + 19 ∨ a = m + 20) ∧ 3 * sd ≤ x ∧ x < 3 * sd + 3) ∨ ((m + 21 ≤ a ∧ a ≤ m + 25) ∧ 130 * sd ≤ x ∧ x < 130 * sd + 130) ∨ ((a = m + 26 ∨ a = m + 27) ∧ 420 * sd ≤ x ∧ x < 420 * sd + 420)
def fdM (j : Nat) : Prop := j = 11 ∨ j = 12 ∨ j = 13 ∨ j = 14 ∨ j = 15 ∨ j = 16 ∨ j = 20 ∨ j = 34 ∨ j = 40 ∨ j = 44
def PF (m sd : Nat) (h h' : TH) : Prop := Fr (fun a => a = m ∨ (m + 8 ≤ a ∧ a ≤ m + 28)) h h' ∧ (∀ j, ¬ fdM j → h'.1 m j = h.1 m j) ∧ ∀ a x, m + 9 ≤ a → a ≤ m + 27 → ¬ own m sd a x → h'.1 a x = h.1 a x
theorem PF.rf {m sd : Nat} {h : TH} : PF m sd h h := ⟨Fr.rf, fun _ _ => rfl, fun _ _ _ _ _ => rfl⟩
theorem PF.tr {m sd : Nat} {h h1 h2 : TH} (a : PF m sd h h1) (b : PF m sd h1 h2) : PF m sd h h2 := ⟨a.1.tr b.1, fun j x => (b.2.1 j x).trans (a.2.1 j x), fun y x p q o => (b.2.2 y x p q o).trans (a.2.2 y x p q o)⟩
theorem PF.fd {m sd j : Nat} {h : TH} {v : Int32} (hj : fdM j) : PF m sd h (pI h m j v) := ⟨Fr.pI (Or.inl rfl), fun i hi => pI_n _ _ _ _ (fun e => hi (by rw [e.2]; exact hj)), fun a x p q _ => by rw [pI_o _ _ _ _ (by omega)]⟩
theorem PF.wr {m sd a x : Nat} {h : TH} {v : Int32} (ho : own m sd a x) : PF m sd h (pI h a x v) := by
  have ha : m + 9 ≤ a ∧ a ≤ m + 27 := by unfold own at ho; omega
  refine ⟨Fr.pI (Or.inr (by omega)), fun j _ => by rw [pI_o _ _ _ _ (by omega)], fun y z p q o => ?_⟩
  by_cases e : y = a
  · subst e
    exact pI_n _ _ _ _ (fun w => o (by rw [w.2]; exact ho))
  · rw [pI_o _ _ _ _ e]
theorem PF.nm {m sd x : Nat} {h : TH} {v : Int64} : PF m sd h (pL h (m + 8) x v) := ⟨Fr.pL (Or.inr (by omega)), fun j _ => by rw [pL_i], fun y z p q o => by rw [pL_i]⟩
theorem PL.F {m sd k b K : Nat} {h h' : TH} (hk : k < 3) (hb : 130 * sd ≤ b) (hK : 420 * sd ≤ K) (p : PL m sd k b K h h') : PF m sd h h' := by
  refine ⟨p.1.mono (fun a x => by omega), fun j hj => ?_, fun a x y z o => ?_⟩
  · unfold fdM at hj
    exact p.2.1 j (by omega) (by omega) (by omega) (by omega) (by omega) (by omega) (by omega)
  · unfold own at o
    by_cases e1 : a < m + 19
    · rw [(p.1 a (by omega)).1]
    · by_cases e2 : a = m + 19
      · subst e2; exact (p.2.2.1 x (by omega)).1
      · by_cases e3 : a = m + 20
        · subst e3; exact (p.2.2.1 x (by omega)).2
        · by_cases e4 : a ≤ m + 25
          · exact p.2.2.2.1 x (by omega) a (by omega) (by omega)
          · by_cases e5 : a = m + 26
            · subst e5; exact (p.2.2.2.2 x (by omega)).1
            · have e6 : a = m + 27 := by omega
              subst e6; exact (p.2.2.2.2 x (by omega)).2
def FlM (h : TH) (m : Nat) (fl : Option (Nat × Nat)) : Prop := (fl = none → h.1 m 15 = 0) ∧ ∀ k p, fl = some (k, p) → (¬ k = 0 ∧ k ≤ 9) ∧ p ≤ 2000 ∧ h.1 m 15 = nI k ∧ h.1 m 16 = nI p
theorem FlM.mv {h h' : TH} {m : Nat} {fl : Option (Nat × Nat)} (e : h'.1 m 15 = h.1 m 15) (e2 : h'.1 m 16 = h.1 m 16) (g : FlM h m fl) : FlM h' m fl := ⟨fun w => by rw [e]; exact g.1 w, fun k p w => by rw [e, e2]; exact g.2 k p w⟩
/-- flaws so far lie before a token, or at it and are no later ones -/
def Wk (c : Nat → Nat) (n t k : Nat) (fl : Option (Nat × Nat)) : Prop := ∀ k' p', fl = some (k', p') → p' < plT c n t ∨ (p' = plT c n t ∧ k' ≤ k)
def Fb (c : Nat → Nat) (n t : Nat) (fl : Option (Nat × Nat)) : Prop := ∀ k p, fl = some (k, p) → p < plT c n t
theorem Fb.W {c : Nat → Nat} {n t k : Nat} {fl : Option (Nat × Nat)} (g : Fb c n t fl) : Wk c n t k fl := fun a b e => Or.inl (g a b e)
theorem Wk.add {c : Nat → Nat} {n t k : Nat} {bad : Bool} {fl : Option (Nat × Nat)} (g : Wk c n t k fl) : Wk c n t k (addF bad k (plT c n t) fl) := by
  intro a b e
  cases fl with
  | some x => exact g a b e
  | none =>
    cases bad with
    | false => cases e
    | true =>
      have e' : (k, plT c n t) = (a, b) := Option.some.inj e
      cases e'
      exact Or.inr ⟨rfl, Nat.le_refl _⟩
theorem pl_lt {c : Nat → Nat} {n t : Nat} (h : ¬ kdT c n t = 0) : plT c n t < plT c n (t + 1) := by
  have hp := (posT_le (c := c) (n := n) t).2
  have lt : plT c n t < n := by
    rcases Nat.lt_or_ge (plT c n t) n with z | z
    · exact z
    · exfalso
      apply h
      unfold kdT tkK
      rw [if_pos z]
  have e : posT c n (t + 1) = tkE c n (plT c n t) := rfl
  have g : plT c n t < tkE c n (plT c n t) := by
    unfold tkE
    rw [if_neg (by omega)]
    split
    · omega
    · split <;> omega
  have b : posT c n (t + 1) ≤ plT c n (t + 1) := by
    show posT c n (t + 1) ≤ blE c n (posT c n (t + 1))
    unfold blE
    exact runTo_p.1
  omega
theorem Wk.on {c : Nat → Nat} {n t k : Nat} {fl : Option (Nat × Nat)} (h : ¬ kdT c n t = 0) (g : Wk c n t k fl) : Fb c n (t + 1) fl := fun a b e => by
  have := pl_lt h
  rcases g a b e with z | z <;> omega
theorem P_wrong {r : TR} {h : TH} {m n J t k : Nat} {c : Nat → Nat} {fl : Option (Nat × Nat)} {Q : TH → Prop} (s : RfT r h m c n J) (z13 : h.1 m 13 = 0) (ht : t ≤ J) (hk : ¬ k = 0 ∧ k ≤ 9) (g : FlM h m fl) (hw : Wk c n t k fl) (hQ : ∀ h', (h' = h ∨ h' = pI (pI h m 15 (nI k)) m 16 (nI (plT c n t))) → FlM h' m (addF true k (plT c n t) fl) → Q h') : D_Mo_wrong r m (nI k) (nI t) h Q := by
  have hp := (posT_le (c := c) (n := n) t).2
  have j4 := s.2.2.1
  have n2 := s.2.2.2
  have r6 : r m 6 = m + 4 := s.1 6 (by decide) (by decide)
  unfold D_Mo_wrong
  rw [r6, nI_clamp (n := t) (by omega), (s.2.1 t ht).2.1, z13]
  refine ⟨vp_in_nI (by omega) (by omega), fun x2 e2 => ⟨fun z => absurd z (by decide), fun _ => ?_⟩⟩
  subst e2
  cases fl with
  | none =>
    refine ⟨fun _ h5 e5 h6 e6 => hQ h6 (Or.inr (by rw [e6, e5])) ⟨fun w => (by cases w), fun a b w => ?_⟩, fun z => absurd (g.1 rfl) z⟩
    have w' : (k, plT c n t) = (a, b) := Option.some.inj w
    cases w'
    exact ⟨hk, by omega, by rw [e6, pI_n _ _ _ _ (by omega), e5, pI_s], by rw [e6, pI_s]⟩
  | some x =>
    obtain ⟨g1, g2, g3, g4⟩ := g.2 x.1 x.2 rfl
    rw [g3, g4]
    refine ⟨fun z => absurd z (nI_ne0 (by omega) (by omega)), fun _ => ?_⟩
    rcases hw x.1 x.2 rfl with w | ⟨w, w2⟩
    · exact ⟨fun _ => hQ h (Or.inl rfl) g, fun z => absurd (nI_lt w (by omega)) z⟩
    · refine ⟨fun _ => hQ h (Or.inl rfl) g, fun _ => ⟨fun z => absurd (by rw [w]) z, fun _ => ⟨fun z => ?_, fun _ => hQ h (Or.inl rfl) g⟩⟩⟩
      exact absurd ((nI_ltI (by omega) (by omega)).mp z) (by omega)
/-- the draft -/
def DMb (h : TH) (m sd : Nat) (P : PSt) : Prop := (h.1 (m + 10) sd = nI (bW (dB P)) ∧ h.1 (m + 9) sd = nI (bH (dB P)) ∧ h.1 (m + 12) sd = nI (bN (dB P)) ∧ h.1 m 20 = nI (bN (dB P)) ∧ h.1 (m + 17) sd = nI (bCo (dB P)) ∧ h.1 (m + 18) sd = nI (bSe (dB P))) ∧ (∀ k, k < bN (dB P) → h.1 (m + 13) (6 * sd + k) = nI (bX (dB P) k) ∧ h.1 (m + 14) (6 * sd + k) = nI (bY (dB P) k) ∧ h.1 (m + 15) (6 * sd + k) = nI (bS (dB P) k) ∧ h.1 (m + 16) (6 * sd + k) = nI (bNo (dB P) k) ∧ h.2 (m + 8) k = lN (bse 27 (dM P k)) ∧ bX (dB P) k ≤ 9999 ∧ bY (dB P) k ≤ 9999 ∧ (dM P k).length ≤ 8 ∧ ltL (dM P k)) ∧ (dF P = none → ∀ c, c % 8 < bW (dB P) → c / 8 < bH (dB P) → h.1 (m + 11) (40 * sd + c) = nI (bK (dB P) c))
theorem DMb.mv {h h' : TH} {m sd : Nat} {P : PSt} (e : ∀ a, m + 9 ≤ a → a ≤ m + 18 → h'.1 a = h.1 a) (e8 : h'.2 (m + 8) = h.2 (m + 8)) (e20 : h'.1 m 20 = h.1 m 20) (g : DMb h m sd P) : DMb h' m sd P := by
  unfold DMb
  rw [e _ (by omega) (by omega), e (m + 9) (by omega) (by omega), e (m + 12) (by omega) (by omega), e (m + 17) (by omega) (by omega), e (m + 18) (by omega) (by omega), e (m + 13) (by omega) (by omega), e (m + 14) (by omega) (by omega), e (m + 15) (by omega) (by omega), e (m + 16) (by omega) (by omega), e (m + 11) (by omega) (by omega), e8, e20]
  exact g
def DM1 (h : TH) (m sd k pn : Nat) (Ps : List (List Nat)) (b K : Nat) : Prop := LawN h m sd k Ps b K ∨ (h.1 (m + 19) (3 * sd + k) = 0 ∧ h.1 (m + 20) (3 * sd + k) = 0 ∧ Ps = [[pn]])
theorem LawN.mv {h h' : TH} {m sd k b b' K K' : Nat} {Ps : List (List Nat)} (hb : b ≤ b') (hK : K ≤ K') (e19 : h'.1 (m + 19) (3 * sd + k) = h.1 (m + 19) (3 * sd + k)) (e20 : h'.1 (m + 20) (3 * sd + k) = h.1 (m + 20) (3 * sd + k)) (e : ∀ x, x < b → ∀ a, m + 21 ≤ a → a ≤ m + 25 → h'.1 a x = h.1 a x) (e2 : ∀ x, x < K → h'.1 (m + 26) x = h.1 (m + 26) x ∧ h'.1 (m + 27) x = h.1 (m + 27) x) (g : LawN h m sd k Ps b K) : LawN h' m sd k Ps b' K' := by
  obtain ⟨f, j, g1, g2, g3, g4, Q, a, g5, g6, g7, g8⟩ := g
  refine ⟨f, j, by rw [e19]; exact g1, by rw [e20]; exact g2, g3, by omega, Q, a, g5, g6.mv hK (fun x hx => e x (by omega)) e2, by rw [e _ (by omega) _ (by omega) (by omega)]; exact g7, ?_⟩
  rw [e _ (by omega) (m + 24) (by omega) (by omega), e _ (by omega) (m + 25) (by omega) (by omega)]
  exact g8.mv hK e2
theorem DM1.mv {h h' : TH} {m sd k pn b b' K K' : Nat} {Ps : List (List Nat)} (hb : b ≤ b') (hK : K ≤ K') (e19 : h'.1 (m + 19) (3 * sd + k) = h.1 (m + 19) (3 * sd + k)) (e20 : h'.1 (m + 20) (3 * sd + k) = h.1 (m + 20) (3 * sd + k)) (e : ∀ x, x < b → ∀ a, m + 21 ≤ a → a ≤ m + 25 → h'.1 a x = h.1 a x) (e2 : ∀ x, x < K → h'.1 (m + 26) x = h.1 (m + 26) x ∧ h'.1 (m + 27) x = h.1 (m + 27) x) (g : DM1 h m sd k pn Ps b K) : DM1 h' m sd k pn Ps b' K' := by
  rcases g with g | g
  · exact Or.inl (g.mv hb hK e19 e20 e e2)
  · exact Or.inr ⟨by rw [e19]; exact g.1, by rw [e20]; exact g.2.1, g.2.2⟩
def DMl (h : TH) (m sd : Nat) (P : PSt) (b K : Nat) : Prop := DM1 h m sd 0 0 (bPW (dB P)) b K ∧ DM1 h m sd 1 1 (bPS (dB P)) b K ∧ DM1 h m sd 2 1 (bPL (dB P)) b K
theorem DMl.mv {h h' : TH} {m sd b K : Nat} {P : PSt} (e : ∀ a, m + 19 ≤ a → a ≤ m + 27 → h'.1 a = h.1 a) (g : DMl h m sd P b K) : DMl h' m sd P b K := by
  have x19 := e (m + 19) (by omega) (by omega)
  have x20 := e (m + 20) (by omega) (by omega)
  have y : ∀ x, x < b → ∀ a, m + 21 ≤ a → a ≤ m + 25 → h'.1 a x = h.1 a x := fun x _ a p q => by rw [e a (by omega) (by omega)]
  have z : ∀ x, x < K → h'.1 (m + 26) x = h.1 (m + 26) x ∧ h'.1 (m + 27) x = h.1 (m + 27) x := fun x _ => by rw [e (m + 26) (by omega) (by omega), e (m + 27) (by omega) (by omega)]; exact ⟨rfl, rfl⟩
  exact ⟨g.1.mv (Nat.le_refl _) (Nat.le_refl _) (by rw [x19]) (by rw [x20]) y z, g.2.1.mv (Nat.le_refl _) (Nat.le_refl _) (by rw [x19]) (by rw [x20]) y z, g.2.2.mv (Nat.le_refl _) (Nat.le_refl _) (by rw [x19]) (by rw [x20]) y z⟩
def Bds (sd t b K : Nat) : Prop := K ≤ 420 * sd + t ∧ 420 * sd ≤ K ∧ 130 * sd ≤ b ∧ 4 * (b - 130 * sd) ≤ t
/-- a state of the reference's reading -/
def MD (r : TR) (h0 h : TH) (m sd : Nat) (c : Nat → Nat) (n J t b K : Nat) (P : PSt) : Prop := LSt r h m c n J sd t b K ∧ PF m sd h0 h ∧ DMb h m sd P ∧ DMl h m sd P b K ∧ FlM h m (dF P) ∧ Bds sd t b K
def erM (m sd : Nat) (e : Nat × Nat) (h0 h : TH) : Prop := PF m sd h0 h ∧ RfF h m e.1 e.2 ∧ h.1 m 19 = nI sd
theorem MD.on {r : TR} {h0 h : TH} {m sd n J t b K : Nat} {c : Nat → Nat} {P : PSt} (s : MD r h0 h m sd c n J t b K P) (ht : t + 1 ≤ J) : MD r h0 (pI h m 11 (nI (t + 1))) m sd c n J (t + 1) b K P := by
  obtain ⟨s1, s2, s3, s4, s5, s6⟩ := s
  refine ⟨s1.fd ht, s2.tr (PF.fd (by unfold fdM; omega)), s3.mv (fun a x y => by rw [pI_o _ _ _ _ (by omega)]) (by rw [pI_l]) (by rw [pI_n _ _ _ _ (by omega)]), s4.mv (fun a x y => by rw [pI_o _ _ _ _ (by omega)]), s5.mv (by rw [pI_n _ _ _ _ (by omega)]) (by rw [pI_n _ _ _ _ (by omega)]), ?_⟩
  unfold Bds at s6 ⊢
  omega
theorem FaultM.er {r : TR} {h0 h h' : TH} {m sd n J t b K : Nat} {c : Nat → Nat} {P : PSt} {e : Nat × Nat} (f : FaultM m e.1 e.2 h h') (he : ¬ e.1 = 0 ∧ e.1 ≤ 9) (s : MD r h0 h m sd c n J t b K P) : erM m sd e h0 h' := by
  have F := f.F he
  unfold FaultM at f
  refine ⟨s.2.1.tr (by rw [f]; exact (PF.fd (by unfold fdM; omega)).tr (PF.fd (by unfold fdM; omega))), F, ?_⟩
  rw [f, pI_n _ _ _ _ (by omega), pI_n _ _ _ _ (by omega)]; exact s.1.2.2.2.2
theorem P_mustM {r : TR} {h0 h : TH} {m sd n J t b K k : Nat} {c : Nat → Nat} {P : PSt} {Q : TH → Prop} (hJ : Jok (kdT c n) J) (s : MD r h0 h m sd c n J t b K P) (hk : 2 ≤ k) (hk2 : k ≤ 31) (hok : ∀ t', needP (kdT c n) (plT c n) k t = .ok t' → ∀ h', h' = pI h m 11 (nI t') → MD r h0 h' m sd c n J t' b K P → Q h') (her : ∀ e, needP (kdT c n) (plT c n) k t = .error e → ∀ h', erM m sd e h0 h' → Q h') : D_Mo_must r m (nI (mkK k)) h Q := by
  refine P_must s.1.1 hk2 (fun t' hn => ?_) (fun e hn he h' f => her e hn h' (f.er he s))
  obtain ⟨a1, a2, rfl⟩ := needP_ok hn
  exact hok _ hn _ rfl (s.on (hJ.2 t s.1.1.2.1 (by omega) a2))
theorem erM.must {r : TR} {h0 h : TH} {m sd : Nat} {e : Nat × Nat} {v : Int32} {Q : TH → Prop} (g : erM m sd e h0 h) (hQ : Q h) : D_Mo_must r m v h Q := P_mustF g.2.1 hQ
theorem erM.wr {h0 h : TH} {m sd a x : Nat} {v : Int32} {e : Nat × Nat} (g : erM m sd e h0 h) (ho : own m sd a x) : erM m sd e h0 (pI h a x v) := by
  have ha : ¬ m = a := by unfold own at ho; omega
  refine ⟨g.1.tr (PF.wr ho), ⟨g.2.1.1, ?_, ?_⟩, ?_⟩
  · rw [pI_o _ _ _ _ ha]; exact g.2.1.2.1
  · rw [pI_o _ _ _ _ ha]; exact g.2.1.2.2
  · rw [pI_o _ _ _ _ ha]; exact g.2.2
/-- a flaw is written -/
theorem MD.fl {r : TR} {h0 h h1 : TH} {m sd n J t b K k p : Nat} {c : Nat → Nat} {P : PSt} {fl : Option (Nat × Nat)} (s : MD r h0 h m sd c n J t b K P) (w1 : h1 = h ∨ h1 = pI (pI h m 15 (nI k)) m 16 (nI p)) (F : FlM h1 m fl) (hf : fl = none → dF P = none) : MD r h0 h1 m sd c n J t b K (dB P, dM P, fl) ∧ (∀ a, ¬ a = m → h1.1 a = h.1 a) ∧ h1.2 = h.2 ∧ ∀ j, ¬ j = 15 → ¬ j = 16 → h1.1 m j = h.1 m j := by
  have o1 : ∀ a, ¬ a = m → h1.1 a = h.1 a := fun a ha => by
    rcases w1 with v | v
    · rw [v]
    · rw [v, pI_o _ _ _ _ ha, pI_o _ _ _ _ ha]
  have l1 : h1.2 = h.2 := by
    rcases w1 with v | v
    · rw [v]
    · rw [v, pI_l, pI_l]
  have m1 : ∀ j, ¬ j = 15 → ¬ j = 16 → h1.1 m j = h.1 m j := fun j x y => by
    rcases w1 with v | v
    · rw [v]
    · rw [v, pI_n _ _ _ _ (by omega), pI_n _ _ _ _ (by omega)]
  have X1 : PF m sd h h1 := by
    rcases w1 with v | v
    · rw [v]; exact PF.rf
    · rw [v]; exact (PF.fd (by unfold fdM; omega)).tr (PF.fd (by unfold fdM; omega))
  obtain ⟨⟨s1, s1a, s1b, s1c, s1d⟩, s2, s3, s4, s5, s6⟩ := s
  have B := s3.mv (h' := h1) (fun a x y => o1 a (by omega)) (by rw [l1]) (m1 20 (by omega) (by omega))
  exact ⟨⟨⟨⟨s1.1.mv (fun a x y => ⟨o1 a (by omega), by rw [l1]⟩), s1.2.1, by rw [m1 13 (by omega) (by omega)]; exact s1.2.2.1, by rw [m1 11 (by omega) (by omega)]; exact s1.2.2.2⟩, by rw [m1 12 (by omega) (by omega)]; exact s1a, by rw [m1 34 (by omega) (by omega)]; exact s1b, by rw [m1 40 (by omega) (by omega)]; exact s1c, by rw [m1 19 (by omega) (by omega)]; exact s1d⟩, s2.tr X1, ⟨B.1, B.2.1, fun w => B.2.2 (hf w)⟩, s4.mv (fun a x y => o1 a (by omega)), F, s6⟩, o1, l1, m1⟩
theorem addF_none {b : Bool} {k p : Nat} {fl : Option (Nat × Nat)} (h : addF b k p fl = none) : fl = none := (addF_n h).1
theorem P_boundedF {r : TR} {h0 h : TH} {m sd : Nat} {e : Nat × Nat} {a1 a2 : Int32} {Q : Int32 → TH → Prop} (g : erM m sd e h0 h) (hQ : Q a1 h) : D_Mo_bounded r m a1 a2 h Q := by
  unfold D_Mo_bounded
  refine ⟨fun _ => P_MfailF g.2.1.pos hQ, fun z => absurd ?_ z⟩
  obtain ⟨⟨k0, k9⟩, e13, -⟩ := g.2.1
  rw [e13]
  exact nI_lt (a := 0) (by omega) (by omega)
theorem P_bounded {r : TR} {h0 h : TH} {m sd n J t b K mx : Nat} {c : Nat → Nat} {P : PSt} {Q : Int32 → TH → Prop} (hJ : Jok (kdT c n) J) (hv : ∀ t, kdT c n t = 3 → vaT c n t ≤ 9999) (s : MD r h0 h m sd c n J t b K P) (hf : Fb c n t (dF P)) (hm : mx ≤ 9999) (hok : ∀ t', needP (kdT c n) (plT c n) 3 t = .ok t' → ∀ h', MD r h0 h' m sd c n J t' b K (dB P, dM P, addF (decide (mx < vaT c n t)) 5 (plT c n t) (dF P)) → Fb c n t' (addF (decide (mx < vaT c n t)) 5 (plT c n t) (dF P)) → (∀ a, ¬ a = m → h'.1 a = h.1 a) → vaT c n t ≤ 9999 → Q (nI (vaT c n t)) h') (her : ∀ e, needP (kdT c n) (plT c n) 3 t = .error e → ∀ h', erM m sd e h0 h' → (∀ a, ¬ a = m → h'.1 a = h.1 a) → ∀ v, Q v h') : D_Mo_bounded r m 0 (nI mx) h Q := by
  have hr := s.1.1.1.1
  have tJ := s.1.1.2.1
  have j4 := hJ.1
  have r7 : r m 7 = m + 5 := hr 7 (by decide) (by decide)
  unfold D_Mo_bounded
  rw [s.1.1.2.2.1]
  refine ⟨fun z => absurd z (by decide), fun _ => ?_⟩
  refine P_is (k := 3) s.1.1 (by omega) (fun y => ⟨fun _ i8 e8 => ?_, fun z => absurd z z01⟩) (fun y => ⟨fun z => absurd rfl z, fun _ => P_Mfail (k := 1) s.1.1 (fun h' f => her (1, plT c n t) (needP_1 y) h' (FaultM.er (e := (1, plT c n t)) f ⟨(by decide : ¬ (1 : Nat) = 0), (by decide : (1 : Nat) ≤ 9)⟩ s) (fun a ha => ?_) 0)⟩)
  · rw [s.1.1.2.2.2] at e8
    subst e8
    have v9 := hv t y
    rw [r7, nI_clamp (n := t) (by omega), (s.1.1.1.2.1 t tJ).2.2.1 y]
    refine ⟨vp_in_nI (by omega) (by omega), fun x9 e9 => ?_⟩
    subst e9
    have go : ∀ (fl : Option (Nat × Nat)) (h1 : TH), MD r h0 h1 m sd c n J t b K (dB P, dM P, fl) → fl = addF (decide (mx < vaT c n t)) 5 (plT c n t) (dF P) → (∀ a, ¬ a = m → h1.1 a = h.1 a) → D_Mo_goesOn r m h1 (fun h13 => Q (nI (vaT c n t)) h13) := by
      intro fl h1 s1 ef o1
      subst ef
      refine P_goesOn s1.1.1 (fun t4 => ?_) (fun t4 h' f => ?_)
      · refine hok (t + 1) (needP_t y t4) _ (s1.on (hJ.2 t tJ (by omega) t4)) ((hf.W.add).on (by omega)) (fun a ha => by rw [pI_o _ _ _ _ ha, o1 a ha]) v9
      · refine her (2, plT c n t) (needP_2 y t4) h' (FaultM.er (e := (2, plT c n t)) f ⟨(by decide : ¬ (2 : Nat) = 0), (by decide : (2 : Nat) ≤ 9)⟩ s1) (fun a ha => ?_) _
        unfold FaultM at f
        rw [f, pI_o _ _ _ _ ha, pI_o _ _ _ _ ha, o1 a ha]
    have flaw : mx < vaT c n t → DJ_Mo_bounded_42 r m (nI (vaT c n t)) h Q := by
      intro w
      unfold DJ_Mo_bounded_42
      rw [s.1.1.2.2.2]
      refine P_wrong (k := 5) s.1.1.1 s.1.1.2.2.1 tJ ⟨by omega, by omega⟩ s.2.2.2.2.1 hf.W (fun h1 w1 F1 => ?_)
      obtain ⟨s1, o1, -, -⟩ := s.fl w1 F1 addF_none
      exact go _ h1 s1 (by rw [decide_eq_true w]) o1
    refine ⟨fun z => absurd z (nI_pos (by omega)), fun _ => ⟨fun z => ?_, fun z => flaw ?_⟩⟩
    · have z' := (nI_leI (by omega) (by omega)).mp z
      refine go (dF P) h s ?_ (fun _ _ => rfl)
      rw [decide_eq_false (by omega), addF_f]
    · rcases Nat.lt_or_ge mx (vaT c n t) with w | w
      · exact w
      · exact absurd (nI_le w (by omega)) z
  · unfold FaultM at f
    rw [f, pI_o _ _ _ _ ha, pI_o _ _ _ _ ha]
