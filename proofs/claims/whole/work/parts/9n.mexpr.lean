/-! terms: the reference's side -/
def RfT (r : TR) (h : TH) (m : Nat) (c : Nat → Nat) (n J : Nat) : Prop := RMo r m ∧ TkM h m c n J ∧ J ≤ 400 ∧ n ≤ 2000
def RfS (r : TR) (h : TH) (m : Nat) (c : Nat → Nat) (n J t : Nat) : Prop := RfT r h m c n J ∧ t ≤ J ∧ h.1 m 13 = 0 ∧ h.1 m 11 = nI t
def RfF (h : TH) (m k p : Nat) : Prop := (¬ k = 0 ∧ k ≤ 9) ∧ h.1 m 13 = nI k ∧ h.1 m 14 = nI p
theorem RfF.ne {h : TH} {m k p : Nat} (f : RfF h m k p) : ¬ h.1 m 13 = 0 := by rw [f.2.1]; exact nI_ne0 (by have := f.1.1; omega) (by have := f.1.2; omega)
theorem RfF.pos {h : TH} {m k p : Nat} (f : RfF h m k p) : ¬ h.1 m 13 ≤ 0 := by rw [f.2.1]; exact nI_nle (by have := f.1.1; omega) (by have := f.1.2; omega)
theorem RfT.mv {r : TR} {h h' : TH} {m n J : Nat} {c : Nat → Nat} (e : ∀ a, m + 3 ≤ a → a ≤ m + 6 → h'.1 a = h.1 a ∧ h'.2 a = h.2 a) (s : RfT r h m c n J) : RfT r h' m c n J := by
  refine ⟨s.1, fun j hj => ?_, s.2.2⟩
  rw [(e _ (by omega) (by omega)).1, (e _ (by omega) (by omega)).1, (e _ (by omega) (by omega)).1, (e _ (by omega) (by omega)).2]
  exact s.2.1 j hj
theorem mkK_lt : ∀ k : Fin 32, mkK k.1 ≤ 38 := by decide
theorem mkK_inj : ∀ a b : Fin 32, mkK a.1 = mkK b.1 → a = b := by decide
theorem mk_eq {k j : Nat} (hk : k ≤ 31) (hj : j ≤ 31) : nI (mkK k) = nI (mkK j) ↔ k = j := by
  have a := mkK_lt ⟨k, by omega⟩
  have b := mkK_lt ⟨j, by omega⟩
  simp only [] at a b
  rw [nI_eq (by omega) (by omega)]
  exact ⟨fun e => by have := congrArg Fin.val (mkK_inj ⟨k, by omega⟩ ⟨j, by omega⟩ e); exact this, fun e => by rw [e]⟩
theorem P_is {r : TR} {h : TH} {m n J t k : Nat} {c : Nat → Nat} {Q : Int32 → TH → Prop} (s : RfS r h m c n J t) (hk : k ≤ 31) (h1 : kdT c n t = k → Q 1 h) (h0 : ¬ kdT c n t = k → Q 0 h) : D_Mo_is r m (nI (mkK k)) h Q := by
  obtain ⟨⟨hr, tk, j4, -⟩, tJ, f0, et⟩ := s
  have r5 : r m 5 = m + 3 := hr 5 (by decide) (by decide)
  have kl := kdT_lt c n t
  unfold D_Mo_is
  refine ⟨fun z => absurd f0 z, fun _ i3 e3 => ?_⟩
  rw [et] at e3
  subst e3
  rw [r5, nI_clamp (n := t) (by omega), (tk t tJ).1]
  exact ⟨vp_in_nI (by omega) (by omega), fun z => h0 (fun e => z ((mk_eq kl hk).mpr e)), fun z => h1 ((mk_eq kl hk).mp z)⟩
theorem P_isF {r : TR} {h : TH} {m : Nat} {k : Int32} {Q : Int32 → TH → Prop} (f : ¬ h.1 m 13 = 0) (hQ : Q 0 h) : D_Mo_is r m k h Q := by
  unfold D_Mo_is
  exact ⟨fun _ => hQ, fun z => absurd z f⟩
def FaultM (m k p : Nat) (h h' : TH) : Prop := h' = pI (pI h m 13 (nI k)) m 14 (nI p)
theorem P_Mfail {r : TR} {h : TH} {m n J t k : Nat} {c : Nat → Nat} {Q : TH → Prop} (s : RfS r h m c n J t) (hQ : ∀ h', FaultM m k (plT c n t) h h' → Q h') : D_Mo_fail r m (nI k) h Q := by
  obtain ⟨⟨hr, tk, j4, -⟩, tJ, f0, et⟩ := s
  have r6 : r m 6 = m + 4 := hr 6 (by decide) (by decide)
  unfold D_Mo_fail
  rw [f0]
  refine ⟨fun _ h2 e2 i4 e4 => ?_, fun z => absurd (Int32.le_refl _) z⟩
  rw [e2, pI_n _ _ _ _ (by omega), et] at e4
  subst e4
  refine ⟨vp_in_nI (by omega) (by omega), fun h5 e5 => hQ h5 ?_⟩
  rw [r6, nI_clamp (n := t) (by omega), e2, pI_o _ _ _ _ (by omega), (tk t tJ).2.1] at e5
  exact e5
theorem P_MfailF {r : TR} {h : TH} {m : Nat} {k : Int32} {Q : TH → Prop} (f : ¬ h.1 m 13 ≤ 0) (hQ : Q h) : D_Mo_fail r m k h Q := by
  unfold D_Mo_fail
  exact ⟨fun z => absurd z f, fun _ => hQ⟩
theorem FaultM.F {m k p : Nat} {h h' : TH} (f : FaultM m k p h h') (hk : ¬ k = 0 ∧ k ≤ 9) : RfF h' m k p := by
  unfold FaultM at f
  exact ⟨hk, by rw [f, pI_n _ _ _ _ (by omega), pI_s], by rw [f, pI_s]⟩
theorem P_goesOn {r : TR} {h : TH} {m n J t : Nat} {c : Nat → Nat} {Q : TH → Prop} (s : RfS r h m c n J t) (hok : t < 400 → Q (pI h m 11 (nI (t + 1)))) (her : ¬ t < 400 → ∀ h', FaultM m 2 (plT c n t) h h' → Q h') : D_Mo_goesOn r m h Q := by
  have j4 := s.1.2.2.1
  have tJ := s.2.1
  unfold D_Mo_goesOn
  rw [s.2.2.2]
  refine ⟨fun z h2 e2 => ?_, fun z => P_Mfail (k := 2) s (her ?_)⟩
  · rw [nI_1] at e2
    rw [e2]
    refine hok ?_
    rcases Nat.lt_or_ge t 400 with w | w
    · exact w
    · exact absurd (show nI t = 400 by rw [show t = 400 by omega]; rfl) z
  · have := (nI_eq (b := 400) (by omega) (by omega)).mp z
    omega
/-- the waiting signs, the codes put out -/
def stk (h : TH) (m : Nat) : List Nat → Prop
  | [] => True
  | x :: s => h.1 (m + 28) s.length = nI (mkK x) ∧ stk h m s
def XS (h : TH) (m K0 : Nat) (s cs : List Nat) : Prop := h.1 m 44 = nI s.length ∧ stk h m s ∧ h.1 m 40 = nI (K0 + cs.length) ∧ ∀ i, i < cs.length → tokM (h.1 (m + 26) (K0 + i)) (h.1 (m + 27) (K0 + i)) (cs.getD i 0)
def XF (m K0 hi : Nat) (h h' : TH) : Prop := Fr (fun a => a = m ∨ a = m + 26 ∨ a = m + 27 ∨ a = m + 28) h h' ∧ (∀ j, ¬ j = 11 → ¬ j = 12 → ¬ j = 13 → ¬ j = 14 → ¬ j = 40 → ¬ j = 44 → h'.1 m j = h.1 m j) ∧ ∀ x, (x < K0 ∨ hi ≤ x) → h'.1 (m + 26) x = h.1 (m + 26) x ∧ h'.1 (m + 27) x = h.1 (m + 27) x
theorem XF.rf {m K0 hi : Nat} {h : TH} : XF m K0 hi h h := ⟨Fr.rf, fun _ _ _ _ _ _ _ => rfl, fun _ _ => ⟨rfl, rfl⟩⟩
theorem XF.tr {m K0 hi : Nat} {h h1 h2 : TH} (a : XF m K0 hi h h1) (b : XF m K0 hi h1 h2) : XF m K0 hi h h2 := ⟨a.1.tr b.1, fun j x1 x2 x3 x4 x5 x6 => (b.2.1 j x1 x2 x3 x4 x5 x6).trans (a.2.1 j x1 x2 x3 x4 x5 x6), fun x hx => ⟨(b.2.2 x hx).1.trans (a.2.2 x hx).1, (b.2.2 x hx).2.trans (a.2.2 x hx).2⟩⟩
theorem XF.fd {m K0 hi j : Nat} {h : TH} {v : Int32} (hj : j = 11 ∨ j = 12 ∨ j = 13 ∨ j = 14 ∨ j = 40 ∨ j = 44) : XF m K0 hi h (pI h m j v) := ⟨Fr.pI (Or.inl rfl), fun i _ _ _ _ _ _ => pI_n _ _ _ _ (by omega), fun x _ => by rw [pI_o _ _ _ _ (by omega), pI_o _ _ _ _ (by omega)]; exact ⟨rfl, rfl⟩⟩
theorem stk_mv {h h' : TH} {m : Nat} : ∀ s : List Nat, (∀ x, x < s.length → h'.1 (m + 28) x = h.1 (m + 28) x) → stk h m s → stk h' m s := by
  intro s
  induction s with
  | nil => intro _ _; trivial
  | cons x s ih => intro e g; exact ⟨by rw [e _ (by simp)]; exact g.1, ih (fun y hy => e y (by simp; omega)) g.2⟩
theorem XS.fd {h : TH} {m K0 j : Nat} {v : Int32} {s cs : List Nat} (hj : ¬ j = 40 ∧ ¬ j = 44) (x : XS h m K0 s cs) : XS (pI h m j v) m K0 s cs := by
  refine ⟨by rw [pI_n _ _ _ _ (by omega)]; exact x.1, stk_mv s (fun y _ => by rw [pI_o _ _ _ _ (by omega)]) x.2.1, by rw [pI_n _ _ _ _ (by omega)]; exact x.2.2.1, fun i hi => by rw [pI_o _ _ _ _ (by omega), pI_o _ _ _ _ (by omega)]; exact x.2.2.2 i hi⟩
/-- a code is put out -/
theorem P_emit {r : TR} {h : TH} {m K0 hi : Nat} {k v : Int32} {s cs : List Nat} {cd : Nat} {Q : TH → Prop} (hr : RMo r m) (x : XS h m K0 s cs) (hb : K0 + cs.length < 840) (hh : K0 + cs.length < hi) (hc : tokM k v cd) (hQ : ∀ h', XF m K0 hi h h' → (∀ j, ¬ j = 40 → h'.1 m j = h.1 m j) → h'.1 (m + 28) = h.1 (m + 28) → XS h' m K0 s (cs ++ [cd]) → Q h') : D_Mo_emit r m k v h Q := by
  have r41 : r m 41 = m + 26 := hr 41 (by decide) (by decide)
  have r42 : r m 42 = m + 27 := hr 42 (by decide) (by decide)
  obtain ⟨x1, x2, x3, x4⟩ := x
  unfold D_Mo_emit
  rw [x3, r41, r42, nI_clamp (n := K0 + cs.length) (by omega)]
  refine ⟨vp_in_nI hb (by omega), fun h2 e2 => ?_⟩
  have f2 : h2.1 m 40 = nI (K0 + cs.length) := by rw [e2, pI_o _ _ _ _ (by omega)]; exact x3
  rw [f2, nI_clamp (n := K0 + cs.length) (by omega)]
  refine ⟨vp_in_nI hb (by omega), fun h4 e4 h5 e5 => ?_⟩
  have f4 : h4.1 m 40 = nI (K0 + cs.length) := by rw [e4, pI_o _ _ _ _ (by omega)]; exact f2
  rw [f4, nI_1] at e5
  have a26 : h5.1 (m + 26) = (pI h (m + 26) (K0 + cs.length) k).1 (m + 26) := by rw [e5, pI_o _ _ _ _ (by omega), e4, pI_o _ _ _ _ (by omega), e2]
  have a27 : h5.1 (m + 27) = (pI h (m + 27) (K0 + cs.length) v).1 (m + 27) := by
    funext j
    rw [e5, pI_o _ _ _ _ (by omega), e4]
    by_cases z : j = K0 + cs.length
    · subst z; rw [pI_s, pI_s]
    · rw [pI_n _ _ _ _ (by omega), pI_n _ _ _ _ (by omega), e2, pI_o _ _ _ _ (by omega)]
  have a28 : h5.1 (m + 28) = h.1 (m + 28) := by rw [e5, pI_o _ _ _ _ (by omega), e4, pI_o _ _ _ _ (by omega), e2, pI_o _ _ _ _ (by omega)]
  have fm : ∀ j, ¬ j = 40 → h5.1 m j = h.1 m j := fun j hj => by rw [e5, pI_n _ _ _ _ (by omega), e4, pI_o _ _ _ _ (by omega), e2, pI_o _ _ _ _ (by omega)]
  refine hQ h5 ⟨?_, fun j _ _ _ _ j5 _ => fm j j5, fun y hy => ?_⟩ fm a28 ⟨?_, ?_, ?_, fun i hi' => ?_⟩
  · rw [e5, e4, e2]
    exact ((Fr.pI (Or.inr (Or.inl rfl))).tr (Fr.pI (Or.inr (Or.inr (Or.inl rfl))))).tr (Fr.pI (Or.inl rfl))
  · rw [a26, a27, pI_n _ _ _ _ (by omega), pI_n _ _ _ _ (by omega)]; exact ⟨rfl, rfl⟩
  · rw [fm 44 (by omega)]; exact x1
  · exact stk_mv s (fun y _ => by rw [a28]) x2
  · rw [e5, pI_s, List.length_append]; rfl
  · rw [List.length_append] at hi'
    have hi2 : i < cs.length + 1 := hi'
    rw [getD_ap, a26, a27]
    by_cases z : i < cs.length
    · rw [if_pos z, pI_n _ _ _ _ (by omega), pI_n _ _ _ _ (by omega)]; exact x4 i z
    · have : i = cs.length := by omega
      subst this
      rw [if_neg z, pI_s, pI_s, Nat.sub_self]; exact hc
/-- which signs may lie on which -/
def shp : List Nat → Prop
  | [] => True
  | x :: s => shp s ∧ (x = 30 ∨ ((x = 25 ∨ x = 26) ∧ topO s) ∨ ((x = 27 ∨ x = 28) ∧ topW s))
theorem shp_len : ∀ s : List Nat, shp s → s.length ≤ 3 * cntO s + 2 ∧ (topW s → s.length ≤ 3 * cntO s + 1) ∧ (topO s → s.length ≤ 3 * cntO s) := by
  intro s
  induction s with
  | nil => intro _; exact ⟨by show 0 ≤ _; omega, fun _ => by show 0 ≤ _; omega, fun _ => by show 0 ≤ _; omega⟩
  | cons x s ih =>
    rintro ⟨h1, h2⟩
    obtain ⟨i1, i2, i3⟩ := ih h1
    have c : cntO (x :: s) = (if x = 30 then 1 else 0) + cntO s := rfl
    have l : (x :: s).length = s.length + 1 := rfl
    rw [c, l]
    rcases h2 with rfl | ⟨hx, ht⟩ | ⟨hx, ht⟩
    · rw [if_pos rfl]; exact ⟨by omega, fun _ => by omega, fun _ => by omega⟩
    · have := i3 ht
      rw [if_neg (by omega)]
      refine ⟨by omega, fun _ => by omega, fun w => ?_⟩
      rcases w with w | ⟨u, w⟩
      · cases w
      · cases w; omega
    · have := i2 ht
      rw [if_neg (by omega)]
      refine ⟨by omega, fun w => absurd hx (w x s rfl), fun w => ?_⟩
      rcases w with w | ⟨u, w⟩
      · cases w
      · cases w; omega
theorem rsW_sh : ∀ s : List Nat, shp s → shp (rsW s) ∧ topO (rsW s) ∧ cntO (rsW s) = cntO s ∧ (rsW s).length + (flW s).length = s.length ∧ shp (rsW s).tail ∧ (0 < cntO s → cntO (rsW s).tail + 1 = cntO s ∧ (rsW s).tail.length + 1 = (rsW s).length) := by
  intro s
  induction s with
  | nil => intro _; exact ⟨trivial, Or.inl rfl, rfl, rfl, trivial, fun z => by have : cntO [] = 0 := rfl; omega⟩
  | cons x s ih =>
    rintro ⟨h1, h2⟩
    obtain ⟨a1, a2, a3, a4, a5, a6⟩ := ih h1
    by_cases e : x = 30
    · subst e
      have r : rsW (30 :: s) = 30 :: s := by unfold rsW; rw [if_pos rfl]
      have f : flW (30 :: s) = [] := by unfold flW; rw [if_pos rfl]
      rw [r, f]
      refine ⟨⟨h1, Or.inl rfl⟩, Or.inr ⟨s, rfl⟩, rfl, rfl, h1, fun _ => ⟨?_, rfl⟩⟩
      show cntO s + 1 = (if (30 : Nat) = 30 then 1 else 0) + cntO s
      rw [if_pos rfl]; omega
    · have r : rsW (x :: s) = rsW s := by conv => lhs; unfold rsW
                                          rw [if_neg e]
      have f : flW (x :: s) = (10075 + x) :: flW s := by conv => lhs; unfold flW
                                                         rw [if_neg e]
      have c : cntO (x :: s) = cntO s := by show (if x = 30 then 1 else 0) + cntO s = _; rw [if_neg e]; omega
      rw [r, f, c]
      exact ⟨a1, a2, a3, by show (rsW s).length + ((flW s).length + 1) = s.length + 1; omega, a5, a6⟩
theorem rsS_sh {s : List Nat} (h : shp s) : shp (rsS s) ∧ topW (rsS s) ∧ cntO (rsS s) = cntO s ∧ (rsS s).length + (flS s).length = s.length := by
  induction s with
  | nil => exact ⟨trivial, fun x u e => (by cases e), rfl, rfl⟩
  | cons x s ih =>
    obtain ⟨h1, h2⟩ := h
    obtain ⟨a1, a2, a3, a4⟩ := ih h1
    by_cases e : x = 27 ∨ x = 28
    · have r : rsS (x :: s) = rsS s := by conv => lhs; unfold rsS
                                          rw [if_pos e]
      have f : flS (x :: s) = (10075 + x) :: flS s := by conv => lhs; unfold flS
                                                         rw [if_pos e]
      have c : cntO (x :: s) = cntO s := by show (if x = 30 then 1 else 0) + cntO s = _; rw [if_neg (by omega)]; omega
      rw [r, f, c]
      exact ⟨a1, a2, a3, by show (rsS s).length + ((flS s).length + 1) = s.length + 1; omega⟩
    · have r : rsS (x :: s) = x :: s := by conv => lhs; unfold rsS
                                           rw [if_neg e]
      have f : flS (x :: s) = [] := by conv => lhs; unfold flS
                                       rw [if_neg e]
      rw [r, f]
      exact ⟨⟨h1, h2⟩, fun y u w => by cases w; exact e, rfl, rfl⟩
def flB (st : Bool) (s : List Nat) : List Nat := if st = true then flS s else flW s
def rsB (st : Bool) (s : List Nat) : List Nat := if st = true then rsS s else rsW s
theorem P_comesOut {r : TR} {h : TH} {m K0 hi : Nat} {st : Bool} {s cs : List Nat} {Q : TH → Prop} (hr : RMo r m) (x : XS h m K0 s cs) (hs : shp s) (hl : s.length ≤ 60) (hb : K0 + cs.length + s.length < 840) (hh : K0 + cs.length + s.length < hi) (hQ : ∀ h', XF m K0 hi h h' → (∀ j, ¬ j = 40 → ¬ j = 44 → h'.1 m j = h.1 m j) → XS h' m K0 (rsB st s) (cs ++ flB st s) → Q h') : D_Mo_comesOut r m (bi st) h Q := by
  have r43 : r m 43 = m + 28 := hr 43 (by decide) (by decide)
  unfold D_Mo_comesOut
  refine lp_inv (fun h' => ∃ s' cs', XF m K0 hi h h' ∧ (∀ j, ¬ j = 40 → ¬ j = 44 → h'.1 m j = h.1 m j) ∧ XS h' m K0 s' cs' ∧ shp s' ∧ s'.length ≤ 60 ∧ K0 + cs'.length + s'.length < 840 ∧ K0 + cs'.length + s'.length < hi ∧ rsB st s = rsB st s' ∧ cs ++ flB st s = cs' ++ flB st s') (fun h' => (h'.1 m 44).toNatClampNeg) ?_ _ ⟨s, cs, XF.rf, fun _ _ _ => rfl, x, hs, hl, hb, hh, rfl, rfl⟩
  rintro K h' ⟨s', cs', f', k', x', sh', l', b', hh', er, ef⟩ hK
  obtain ⟨x1, x2, x3, x4⟩ := id x'
  have fin : rsB st s' = s' → flB st s' = [] → Q h' := fun a b => hQ h' f' k' (by rw [er, ef, a, b, List.append_nil]; exact x')
  unfold DB_Mo_comesOut_0
  rw [x1]
  cases s' with
  | nil =>
    refine ⟨fun _ => fin ?_ ?_, fun z => absurd (Int32.le_refl _) z⟩
    · unfold rsB; split <;> rfl
    · unfold flB; split <;> rfl
  | cons y u =>
    have ly : (y :: u).length = u.length + 1 := rfl
    have lu : u.length ≤ 59 := by rw [ly] at l'; omega
    refine ⟨fun z => absurd z (nI_nle (by rw [ly]; omega) (by rw [ly]; omega)), fun _ i3 e3 => ?_⟩
    have e3' : i3 = nI u.length := by rw [e3, ly]; exact nI_pred _
    subst e3'
    refine ⟨vp_in_nI (by omega) (by omega), fun x4' e4 => ?_⟩
    rw [r43, nI_clamp (n := u.length) (by omega), x2.1] at e4
    subst e4
    have y31 : y ≤ 31 := by rcases sh'.2 with w | w | w <;> omega
    have m6 : nI (mkK y) = 6 ↔ y = 30 := mk_eq (k := y) (j := 30) y31 (by omega)
    have m8 : nI (mkK y) = 8 ↔ y = 25 := mk_eq (k := y) (j := 25) y31 (by omega)
    have m9 : nI (mkK y) = 9 ↔ y = 26 := mk_eq (k := y) (j := 26) y31 (by omega)
    have m10 : nI (mkK y) = 10 ↔ y = 27 := mk_eq (k := y) (j := 27) y31 (by omega)
    have go : ¬ y = 30 → rsB st (y :: u) = rsB st u → flB st (y :: u) = (10075 + y) :: flB st u → DJ_Mo_comesOut_42 r m (bi st) (nI (mkK y)) h' (fun h21 => K h21) (fun h22 => Q h22) Q := by
      intro n30 e1 e2
      unfold DJ_Mo_comesOut_42
      intro h7 e7
      rw [x1, ly, nI_pred] at e7
      have x7 : XS h7 m K0 u cs' := by
        rw [e7]
        exact ⟨pI_s _ _ _ _, stk_mv u (fun w _ => by rw [pI_o _ _ _ _ (by omega)]) x2.2, by rw [pI_n _ _ _ _ (by omega)]; exact x3, fun i hi' => by rw [pI_o _ _ _ _ (by omega), pI_o _ _ _ _ (by omega)]; exact x4 i hi'⟩
      have f7 : XF m K0 hi h' h7 := by rw [e7]; exact XF.fd (by omega)
      have em : ∀ k : Int32, k = nI (y - 23) → D_Mo_emit r m k 0 h7 (fun h11 => K h11) := by
        intro k ek
        refine P_emit (hi := hi) hr x7 (by rw [ly] at b'; omega) (by rw [ly] at hh'; omega) (cd := 10075 + y) ?_ (fun h8 f8 k8 w8 x8 => ?_)
        · refine Or.inr (Or.inr ⟨?_, ?_, ?_⟩)
          · rcases sh'.2 with w | w | w <;> omega
          · rcases sh'.2 with w | w | w <;> omega
          · rw [ek, show 10075 + y - 10098 = y - 23 by omega]
        · refine hK _ ⟨u, cs' ++ [10075 + y], (f'.tr f7).tr f8, fun j j1 j2 => ?_, x8, sh'.1, by omega, ?_, ?_, by rw [er, e1], ?_⟩ ?_
          · rw [k8 j j1, e7, pI_n _ _ _ _ (by omega)]; exact k' j j1 j2
          · rw [List.length_append]; rw [ly] at b'; show K0 + (cs'.length + 1) + u.length < 840; omega
          · rw [List.length_append]; rw [ly] at hh'; show K0 + (cs'.length + 1) + u.length < hi; omega
          · rw [ef, e2, List.append_assoc]; rfl
          · show (h8.1 m 44).toNatClampNeg < (h'.1 m 44).toNatClampNeg
            rw [x8.1, x1, ly, nI_clamp (by omega), nI_clamp (by omega)]; omega
      refine ⟨fun a => ⟨fun b => ⟨fun d => em 5 ?_, fun d => em 4 ?_⟩, fun b => em 3 ?_⟩, fun a => em 2 ?_⟩
      · have : y = 28 := by
          have q1 : ¬ y = 25 := fun w => a (m8.mpr w)
          have q2 : ¬ y = 26 := fun w => b (m9.mpr w)
          have q3 : ¬ y = 27 := fun w => d (m10.mpr w)
          rcases sh'.2 with w | w | w <;> omega
        subst this; rfl
      · rw [m10.mp d]; rfl
      · rw [m9.mp b]; rfl
      · rw [m8.mp a]; rfl
    have w30 : ∀ v, rsW (y :: v) = (if y = 30 then y :: v else rsW v) := fun _ => rfl
    have f30 : ∀ v, flW (y :: v) = (if y = 30 then [] else (10075 + y) :: flW v) := fun _ => rfl
    have wS : ∀ v, rsS (y :: v) = (if y = 27 ∨ y = 28 then rsS v else y :: v) := fun _ => rfl
    have fS : ∀ v, flS (y :: v) = (if y = 27 ∨ y = 28 then (10075 + y) :: flS v else []) := fun _ => rfl
    refine ⟨fun z => fin ?_ ?_, fun z => ⟨fun z0 => ?_, fun z0 => ⟨fun z1 => fin ?_ ?_, fun z1 => ⟨fun z2 => ?_, fun z2 => fin ?_ ?_⟩⟩⟩⟩
    · have := m6.mp z
      unfold rsB; split
      · rw [wS, if_neg (by omega)]
      · rw [w30, if_pos this]
    · have := m6.mp z
      unfold flB; split
      · rw [fS, if_neg (by omega)]
      · rw [f30, if_pos this]
    · have n30 : ¬ y = 30 := fun w => z (m6.mpr w)
      have sf := bi0 z0
      refine go n30 ?_ ?_
      · unfold rsB; rw [sf, if_neg (by decide), if_neg (by decide), w30, if_neg n30]
      · unfold flB; rw [sf, if_neg (by decide), if_neg (by decide), f30, if_neg n30]
    · unfold rsB; rw [bi1 z0, if_pos rfl, wS, if_neg (by have := m8.mp z1; omega)]
    · unfold flB; rw [bi1 z0, if_pos rfl, fS, if_neg (by have := m8.mp z1; omega)]
    · have n30 : ¬ y = 30 := fun w => z (m6.mpr w)
      have y2 : y = 27 ∨ y = 28 := by
        have q1 : ¬ y = 25 := fun w => z1 (m8.mpr w)
        have q2 : ¬ y = 26 := fun w => z2 (m9.mpr w)
        rcases sh'.2 with w | w | w <;> omega
      refine go n30 ?_ ?_
      · unfold rsB; rw [bi1 z0, if_pos rfl, if_pos rfl, wS, if_pos y2]
      · unfold flB; rw [bi1 z0, if_pos rfl, if_pos rfl, fS, if_pos y2]
    · unfold rsB; rw [bi1 z0, if_pos rfl, wS, if_neg (by have := m9.mp z2; omega)]
    · unfold flB; rw [bi1 z0, if_pos rfl, fS, if_neg (by have := m9.mp z2; omega)]
