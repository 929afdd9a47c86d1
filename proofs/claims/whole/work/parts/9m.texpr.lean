/-! terms: the class's side -/
def RdT (r : TR) (h : TH) (q : Nat) (c : Nat → Nat) (n J : Nat) : Prop := (r (q + 1) 7 = q + 26 ∧ r (q + 1) 8 = q + 27 ∧ r (q + 1) 9 = q + 28) ∧ TkX h q c n J ∧ J ≤ 400 ∧ n ≤ 2000
def RdS (r : TR) (h : TH) (q : Nat) (c : Nat → Nat) (n J t : Nat) : Prop := RdT r h q c n J ∧ t ≤ J ∧ h.1 (q + 1) 4 = 0 ∧ h.1 (q + 1) 10 = nI t
def RdF (h : TH) (q k p : Nat) : Prop := (¬ k = 0 ∧ k ≤ 9) ∧ h.1 (q + 1) 4 = nI k ∧ h.1 (q + 1) 3 = nI p ∧ ∃ t, t ≤ 400 ∧ h.1 (q + 1) 10 = nI t
theorem RdF.ne {h : TH} {q k p : Nat} (f : RdF h q k p) : ¬ h.1 (q + 1) 4 = 0 := by rw [f.2.1]; exact nI_ne0 (by have := f.1.1; omega) (by have := f.1.2; omega)
theorem RdT.mv {r : TR} {h h' : TH} {q n J : Nat} {c : Nat → Nat} (e : ∀ a, q + 26 ≤ a → a ≤ q + 28 → h'.1 a = h.1 a) (s : RdT r h q c n J) : RdT r h' q c n J := by
  refine ⟨s.1, fun j hj => ?_, s.2.2⟩
  rw [e _ (by omega) (by omega), e _ (by omega) (by omega), e _ (by omega) (by omega)]
  exact s.2.1 j hj
def Fault (q k p : Nat) (h h' : TH) : Prop := h' = pI (pI h (q + 1) 4 (nI k)) (q + 1) 3 (nI p)
theorem Fault.F {q k p t : Nat} {h h' : TH} (f : Fault q k p h h') (hk : ¬ k = 0 ∧ k ≤ 9) (ht : t ≤ 400) (e : h.1 (q + 1) 10 = nI t) : RdF h' q k p := by
  unfold Fault at f
  refine ⟨hk, ?_, ?_, t, ht, ?_⟩
  · rw [f, pI_n _ _ _ _ (by omega), pI_s]
  · rw [f, pI_s]
  · rw [f, pI_n _ _ _ _ (by omega), pI_n _ _ _ _ (by omega)]; exact e
theorem P_need {r : TR} {h : TH} {q n J t k : Nat} {c : Nat → Nat} {Q : Int32 → TH → Prop} (s : RdS r h q c n J t) (hk : k ≤ 31) (hok : ∀ t', needP (kdT c n) (plT c n) k t = .ok t' → Q 1 (pI h (q + 1) 10 (nI t'))) (her : ∀ e, needP (kdT c n) (plT c n) k t = .error e → (¬ e.1 = 0 ∧ e.1 ≤ 9) → ∀ h', Fault q e.1 e.2 h h' → Q 0 h') : D_Rd_need r (q + 1) (nI k) h Q := by
  obtain ⟨⟨⟨r7, r8, r9⟩, tk, j4, -⟩, tJ, f0, et⟩ := s
  have kl := kdT_lt c n t
  obtain ⟨t1, t2, -⟩ := tk t tJ
  have bad : ∀ e : Nat × Nat, needP (kdT c n) (plT c n) k t = .error e → DJ_Rd_need_42 r (q + 1) (nI k) h Q := by
    intro e he
    unfold DJ_Rd_need_42
    rw [et, r7]
    refine ⟨fun z => absurd f0 z, fun _ i4 e4 => ?_⟩
    subst e4
    rw [nI_clamp (n := t) (by omega), t1]
    refine ⟨vp_in_nI (by omega) (by omega), fun z => ?_, fun z => ?_⟩
    · have zk : ¬ kdT c n t = k := fun w => z (by rw [w])
      rw [needP_1 zk] at he
      cases he
      unfold DJ_Rd_need_68
      intro h6 e6 i8 e8
      rw [e6, pI_n _ _ _ _ (by omega), et] at e8
      subst e8
      refine ⟨vp_in_nI (by omega) (by omega), fun h9 e9 => her (1, plT c n t) (needP_1 zk) ⟨(by decide : ¬ (1 : Nat) = 0), (by decide : (1 : Nat) ≤ 9)⟩ h9 ?_⟩
      rw [r8, nI_clamp (n := t) (by omega), e6, pI_o _ _ _ _ (by omega), t2] at e9
      exact e9
    · have zk : kdT c n t = k := (nI_eq (by omega) (by omega)).mp z
      by_cases t4 : t < 400
      · rw [needP_t zk t4] at he; cases he
      · rw [needP_2 zk t4] at he
        cases he
        unfold DJ_Rd_need_68
        intro h6 e6 i8 e8
        rw [e6, pI_n _ _ _ _ (by omega), et] at e8
        subst e8
        refine ⟨vp_in_nI (by omega) (by omega), fun h9 e9 => her (2, plT c n t) (needP_2 zk t4) ⟨(by decide : ¬ (2 : Nat) = 0), (by decide : (2 : Nat) ≤ 9)⟩ h9 ?_⟩
        rw [r8, nI_clamp (n := t) (by omega), e6, pI_o _ _ _ _ (by omega), t2] at e9
        exact e9
  unfold D_Rd_need
  refine ⟨fun z => absurd f0 z, fun _ i11 e11 => ?_⟩
  rw [et] at e11
  subst e11
  rw [r7, et, nI_clamp (n := t) (by omega), t1]
  refine ⟨vp_in_nI (by omega) (by omega), fun z => bad (1, plT c n t) (needP_1 (fun w => z (by rw [w]))), fun z => ⟨fun y => bad (2, plT c n t) (needP_2 ((nI_eq (by omega) (by omega)).mp z) (by have := (nI_leI (a := 400) (by omega) (by omega)).mp y; omega)), fun y h14 e14 => ?_⟩⟩
  have y' : t < 400 := by
    rcases Nat.lt_or_ge t 400 with w | w
    · exact w
    · exact absurd (nI_le (a := 400) w (by omega)) y
  rw [nI_1] at e14
  rw [e14]
  exact hok (t + 1) (needP_t ((nI_eq (by omega) (by omega)).mp z) y')
theorem P_needF {r : TR} {h : TH} {q : Nat} {k : Int32} {Q : Int32 → TH → Prop} (f : ¬ h.1 (q + 1) 4 = 0) (hQ : Q 0 h) : D_Rd_need r (q + 1) k h Q := by
  unfold D_Rd_need DJ_Rd_need_42
  exact ⟨fun _ => ⟨fun _ => hQ, fun z => absurd z f⟩, fun z => absurd z f⟩
theorem P_RdFail {r : TR} {h : TH} {q n J t k : Nat} {c : Nat → Nat} {Q : TH → Prop} (s : RdS r h q c n J t) (hQ : ∀ h', Fault q k (plT c n t) h h' → Q h') : D_Rd_fail r (q + 1) (nI k) h Q := by
  obtain ⟨⟨⟨r7, r8, r9⟩, tk, j4, -⟩, tJ, f0, et⟩ := s
  obtain ⟨t1, t2, -⟩ := tk t tJ
  unfold D_Rd_fail
  refine ⟨fun z => absurd f0 z, fun _ h2 e2 i4 e4 => ?_⟩
  rw [e2, pI_n _ _ _ _ (by omega), et] at e4
  subst e4
  refine ⟨vp_in_nI (by omega) (by omega), fun h5 e5 => hQ h5 ?_⟩
  rw [r8, nI_clamp (n := t) (by omega), e2, pI_o _ _ _ _ (by omega), t2] at e5
  exact e5
theorem P_RdFailF {r : TR} {h : TH} {q : Nat} {k : Int32} {Q : TH → Prop} (f : ¬ h.1 (q + 1) 4 = 0) (hQ : Q h) : D_Rd_fail r (q + 1) k h Q := by
  unfold D_Rd_fail
  exact ⟨fun _ => hQ, fun z => absurd z f⟩
/-- codes are put behind those of a law -/
def okX (q o l t' : Nat) (ds : List Nat) (h h' : TH) : Prop := Fr (fun a => a = q + 1 ∨ a = o ∨ a = o + 2) h h' ∧ (∀ x, ¬ x = 10 → h'.1 (q + 1) x = h.1 (q + 1) x) ∧ h'.1 (q + 1) 10 = nI t' ∧ (∀ x, ¬ x = 4 → h'.1 o x = h.1 o x) ∧ h'.1 o 4 = nI (l + ds.length) ∧ (∀ x, x < l → h'.1 (o + 2) x = h.1 (o + 2) x) ∧ ∀ i, i < ds.length → h'.1 (o + 2) (l + i) = nI (ds.getD i 0)
def erX (q o k p : Nat) (h h' : TH) : Prop := Fr (fun a => a = q + 1 ∨ a = o ∨ a = o + 2) h h' ∧ (∀ x, ¬ x = 10 → ¬ x = 4 → ¬ x = 3 → h'.1 (q + 1) x = h.1 (q + 1) x) ∧ RdF h' q k p ∧ (∀ x, ¬ x = 4 → h'.1 o x = h.1 o x) ∧ ∃ l, l ≤ 400 ∧ h'.1 o 4 = nI l
def apo (q o : Nat) : Prop := (q + 3 ≤ o ∧ o + 4 ≤ q + 25) ∨ q + 29 ≤ o
theorem okX.S {r : TR} {q o l t' n J t : Nat} {c : Nat → Nat} {ds : List Nat} {h h' : TH} (ho : apo q o) (k : okX q o l t' ds h h') (s : RdS r h q c n J t) (ht : t' ≤ J) : RdS r h' q c n J t' := ⟨s.1.mv (fun a x y => (k.1 a (by unfold apo at ho; omega)).1), ht, (k.2.1 4 (by omega)).trans s.2.2.1, k.2.2.1⟩
theorem getD_ap (d1 d2 : List Nat) (i : Nat) : (d1 ++ d2).getD i 0 = if i < d1.length then d1.getD i 0 else d2.getD (i - d1.length) 0 := by
  simp only [List.getD_eq_getElem?_getD]
  split
  · next z => rw [List.getElem?_append_left z]
  · next z => rw [List.getElem?_append_right (by omega)]
theorem okX.tr {q o l t1 t2 : Nat} {d1 d2 : List Nat} {h h1 h2 : TH} (a : okX q o l t1 d1 h h1) (b : okX q o (l + d1.length) t2 d2 h1 h2) : okX q o l t2 (d1 ++ d2) h h2 := by
  obtain ⟨a1, a2, a3, a4, a5, a6, a7⟩ := a
  obtain ⟨b1, b2, b3, b4, b5, b6, b7⟩ := b
  refine ⟨a1.tr b1, fun x hx => (b2 x hx).trans (a2 x hx), b3, fun x hx => (b4 x hx).trans (a4 x hx), by rw [b5, List.length_append, Nat.add_assoc], fun x hx => (b6 x (by omega)).trans (a6 x hx), fun i hi => ?_⟩
  rw [getD_ap]
  rw [List.length_append] at hi
  by_cases z : i < d1.length
  · rw [if_pos z, b6 _ (by omega)]; exact a7 i z
  · rw [if_neg z]
    have := b7 (i - d1.length) (by omega)
    rw [show l + d1.length + (i - d1.length) = l + i by omega] at this
    exact this
theorem okX.er {q o l t1 k p : Nat} {d1 : List Nat} {h h1 h2 : TH} (a : okX q o l t1 d1 h h1) (b : erX q o k p h1 h2) : erX q o k p h h2 := by
  obtain ⟨a1, a2, a3, a4, a5, a6, a7⟩ := a
  obtain ⟨b1, b2, b3, b4, b5⟩ := b
  exact ⟨a1.tr b1, fun x x1 x2 x3 => (b2 x x1 x2 x3).trans (a2 x x1), b3, fun x hx => (b4 x hx).trans (a4 x hx), b5⟩
theorem okX.at {q o l t' : Nat} {h : TH} (ho : apo q o) (el : h.1 o 4 = nI l) : okX q o l t' [] h (pI h (q + 1) 10 (nI t')) := by
  refine ⟨Fr.pI (Or.inl rfl), fun x hx => pI_n _ _ _ _ (by omega), pI_s _ _ _ _, fun x hx => by rw [pI_o _ _ _ _ (by unfold apo at ho; omega)], by rw [pI_o _ _ _ _ (by unfold apo at ho; omega)]; exact el, fun x hx => by rw [pI_o _ _ _ _ (by unfold apo at ho; omega)], fun i hi => absurd hi (Nat.not_lt_zero _)⟩
theorem Fault.er {r : TR} {q o l n J t k p : Nat} {c : Nat → Nat} {h h' : TH} (ho : apo q o) (f : Fault q k p h h') (hk : ¬ k = 0 ∧ k ≤ 9) (s : RdS r h q c n J t) (el : h.1 o 4 = nI l) (hl : l ≤ 400) : erX q o k p h h' := by
  have F := f.F hk (by have := s.1.2.2.1; have := s.2.1; omega) s.2.2.2
  unfold Fault at f
  unfold apo at ho
  refine ⟨by rw [f]; exact (Fr.pI (Or.inl rfl)).tr (Fr.pI (Or.inl rfl)), fun x x1 x2 x3 => by rw [f, pI_n _ _ _ _ (by omega), pI_n _ _ _ _ (by omega)], F, fun x hx => by rw [f, pI_o _ _ _ _ (by omega), pI_o _ _ _ _ (by omega)], l, hl, by rw [f, pI_o _ _ _ _ (by omega), pI_o _ _ _ _ (by omega)]; exact el⟩
theorem P_addCode {r : TR} {q o l t v : Nat} {h : TH} {Q : TH → Prop} (ho : apo q o) (r1 : r o 1 = o + 2) (el : h.1 o 4 = nI l) (hl : l < 400) (et : h.1 (q + 1) 10 = nI t) (hQ : ∀ h', okX q o l t [v] h h' → Q h') : D_Law_addCode r o (nI v) h Q := by
  unfold apo at ho
  unfold D_Law_addCode
  rw [el, r1, nI_clamp (n := l) (by omega)]
  refine ⟨fun z => absurd ((nI_leI (a := 400) (by omega) (by omega)).mp z) (by omega), fun _ => ⟨vp_in_nI hl (by omega), fun h3 e3 h4 e4 => hQ h4 ?_⟩⟩
  have e4' : h4 = pI h3 o 4 (nI (l + 1)) := by rw [e4, e3, pI_o _ _ _ _ (by omega), el, nI_1]
  refine ⟨by rw [e4', e3]; exact (Fr.pI (Or.inr (Or.inr rfl))).tr (Fr.pI (Or.inr (Or.inl rfl))), fun x hx => by rw [e4', pI_o _ _ _ _ (by omega), e3, pI_o _ _ _ _ (by omega)], by rw [e4', pI_o _ _ _ _ (by omega), e3, pI_o _ _ _ _ (by omega)]; exact et, fun x hx => by rw [e4', pI_n _ _ _ _ (by omega), e3, pI_o _ _ _ _ (by omega)], by rw [e4', pI_s]; rfl, fun x hx => by rw [e4', pI_o _ _ _ _ (by omega), e3, pI_n _ _ _ _ (by omega)], fun i hi => ?_⟩
  have : i = 0 := by simp at hi; exact hi
  subst this
  rw [e4', pI_o _ _ _ _ (by omega), e3]
  show (pI h (o + 2) l (nI v)).1 (o + 2) l = nI v
  exact pI_s _ _ _ _
theorem P_addCodeF {r : TR} {q o k p : Nat} {v : Int32} {h0 h : TH} {Q : TH → Prop} (ho : apo q o) (r1 : r o 1 = o + 2) (e : erX q o k p h0 h) (hQ : ∀ h', erX q o k p h0 h' → Q h') : D_Law_addCode r o v h Q := by
  unfold apo at ho
  obtain ⟨b1, b2, ⟨b3, b4, b5, t, b6, b7⟩, b8, l, b9, b10⟩ := id e
  unfold D_Law_addCode
  rw [b10, r1, nI_clamp (n := l) (by omega)]
  refine ⟨fun _ => hQ h e, fun z => ?_⟩
  have hl : l < 400 := by
    rcases Nat.lt_or_ge l 400 with w | w
    · exact w
    · exact absurd (nI_le (a := 400) w (by omega)) z
  refine ⟨vp_in_nI hl (by omega), fun h3 e3 h4 e4 => hQ h4 ?_⟩
  have e4' : h4 = pI h3 o 4 (nI (l + 1)) := by rw [e4, e3, pI_o _ _ _ _ (by omega), b10, nI_1]
  have q1 : h4.1 (q + 1) = h.1 (q + 1) := by rw [e4', pI_o _ _ _ _ (by omega), e3, pI_o _ _ _ _ (by omega)]
  refine ⟨b1.tr (by rw [e4', e3]; exact (Fr.pI (Or.inr (Or.inr rfl))).tr (Fr.pI (Or.inr (Or.inl rfl)))), fun x x1 x2 x3 => by rw [q1]; exact b2 x x1 x2 x3, ⟨b3, by rw [q1]; exact b4, by rw [q1]; exact b5, t, b6, by rw [q1]; exact b7⟩, fun x hx => by rw [e4', pI_n _ _ _ _ (by omega), e3, pI_o _ _ _ _ (by omega)]; exact b8 x hx, l + 1, by omega, by rw [e4', pI_s]⟩
/-- a reading by the class: f reads as R -/
def CE (r : TR) (q o n J : Nat) (c : Nat → Nat) (f : TH → (TH → Prop) → Prop) (R : Nat → Except (Nat × Nat) (Nat × List Nat)) : Prop := ∀ h t l Q, RdS r h q c n J t → h.1 o 4 = nI l → l ≤ t → (∀ p, R t = .ok p → ∀ h', okX q o l p.1 p.2 h h' → Q h') → (∀ e, R t = .error e → ∀ h', erX q o e.1 e.2 h h' → Q h') → f h Q
/-- behind a fault nothing is read -/
def CF (q : Nat) (f : TH → (TH → Prop) → Prop) : Prop := ∀ h k p (Q : TH → Prop), RdF h q k p → Q h → f h Q
theorem P_unitF {r : TR} {q o : Nat} {S : Nat → Nat → Int32 → TH → (TH → Prop) → Prop} {d : Int32} : CF q (fun h Q => D_Rd_unit r S (q + 1) o d h Q) := by
  intro h k p Q f hQ
  have ne := f.ne
  obtain ⟨f1, f2, f3, t, f4, f5⟩ := f
  show D_Rd_unit r S (q + 1) o d h Q
  unfold D_Rd_unit
  intro x1 e1
  rw [f5] at e1
  subst e1
  exact ⟨vp_in_nI (by omega) (by omega), fun x3 e3 => ⟨fun z => absurd z ne, fun _ => hQ⟩⟩
theorem P_unit {r : TR} {q o n J d : Nat} {c : Nat → Nat} {S : Nat → Nat → Int32 → TH → (TH → Prop) → Prop} {R : Nat → Except (Nat × Nat) (Nat × List Nat)} (ho : apo q o) (r1 : r o 1 = o + 2) (hJ : Jok (kdT c n) J) (hd : d ≤ 6) (hS : d < 6 → CE r q o n J c (fun h Q => S (q + 1) o (nI (d + 1)) h Q) R) (hF : d < 6 → CF q (fun h Q => S (q + 1) o (nI (d + 1)) h Q)) (hg : ∀ t, t ≤ J → ∀ p, R t = .ok p → t < p.1 ∧ p.1 ≤ J ∧ p.2.length + t ≤ p.1) : CE r q o n J c (fun h Q => D_Rd_unit r S (q + 1) o (nI d) h Q) (unP (kdT c n) (plT c n) (vaT c n) R d) := by
  intro h t l Q s el hl hok her
  obtain ⟨⟨⟨r7, r8, r9⟩, tk, j4, -⟩, tJ, f0, et⟩ := id s
  have kl := kdT_lt c n t
  obtain ⟨t1, t2, t3⟩ := tk t tJ
  show D_Rd_unit r S (q + 1) o (nI d) h Q
  unfold D_Rd_unit
  intro x1 e1
  rw [et] at e1
  subst e1
  refine ⟨vp_in_nI (by omega) (by omega), fun x3 e3 => ?_⟩
  rw [r7, nI_clamp (n := t) (by omega), t1] at e3
  subst e3
  refine ⟨fun _ => ?_, fun z => absurd f0 z⟩
  have ek : ∀ k : Nat, k ≤ 31 → (nI (kdT c n t) = nI k ↔ kdT c n t = k) := fun k hk => nI_eq (by omega) (by omega)
  have nxt : ∀ h1 t1, okX q o l t1 [] h h1 → t1 ≤ J → RdS r h1 q c n J t1 := fun h1 t1 k1 h1' => k1.S ho s h1'
  refine ⟨fun n30 => ?_, fun k30 => ⟨fun d6 => ?_, fun d6 => ?_⟩⟩
  · have k30 : ¬ kdT c n t = 30 := fun w => n30 ((ek 30 (by omega)).mpr w)
    have u111 : ¬ (14 ≤ kdT c n t ∧ kdT c n t < 23) → DJ_Rd_unit_111 r S (q + 1) o (nI t) h Q := by
      intro kv
      have eu : unP (kdT c n) (plT c n) (vaT c n) R d t = match needP (kdT c n) (plT c n) 3 t with
        | .error e => .error e
        | .ok t1 => .ok (t1, [vaT c n t]) := by unfold unP; rw [if_neg k30, if_neg kv]; rfl
      unfold DJ_Rd_unit_111
      refine P_need s (k := 3) (by omega) (fun t' hn => ⟨fun z => absurd z z01, fun _ => ?_⟩) (fun e hn he h' f => ⟨fun _ => ?_, fun z => absurd rfl z⟩)
      · obtain ⟨a1, a2, rfl⟩ := needP_ok hn
        have k0 := okX.at (t' := t + 1) ho el
        refine ⟨vp_in_nI (by omega) (by omega), ?_⟩
        rw [r9, nI_clamp (n := t) (by omega), pI_o _ _ _ _ (by omega), t3 (by omega) (by omega)]
        refine P_addCode (l := l) (t := t + 1) ho r1 (by have := k0.2.2.2.2.1; simpa using this) (by omega) k0.2.2.1 (fun h' k' => ?_)
        rw [hn] at eu
        exact hok _ eu h' (by have := k0.tr (d2 := [vaT c n t]) (t2 := t + 1) (h2 := h') (by simpa using k'); simpa using this)
      · rw [hn] at eu
        exact her _ eu h' (f.er ho he s el (by omega))
    unfold DJ_Rd_unit_42
    refine ⟨fun _ => ⟨fun z => u111 ?_, fun z => ⟨fun y => u111 ?_, fun y => ?_⟩⟩, fun z => absurd z n30⟩
    · have := (nI_ltI (b := 14) (by omega) (by omega)).mp z
      omega
    · have := (nI_leI (a := 23) (by omega) (by omega)).mp y
      omega
    · have kv : 14 ≤ kdT c n t ∧ kdT c n t < 23 := by
        constructor
        · rcases Nat.lt_or_ge (kdT c n t) 14 with w | w
          · exact absurd (nI_lt (b := 14) w (by omega)) z
          · exact w
        · rcases Nat.lt_or_ge (kdT c n t) 23 with w | w
          · exact w
          · exact absurd (nI_le (a := 23) w (by omega)) y
      have eu : unP (kdT c n) (plT c n) (vaT c n) R d t = match needP (kdT c n) (plT c n) (kdT c n t) t with
        | .error e => .error e
        | .ok t1 => .ok (t1, [9986 + kdT c n t]) := by unfold unP; rw [if_neg k30, if_pos kv]; rfl
      have ecd : ((10000 : Int32) + nI (kdT c n t)) - 14 = nI (9986 + kdT c n t) := by
        show nI 10000 + nI (kdT c n t) - nI 14 = _
        rw [nI_add, pk_sub (by omega)]; congr 1; omega
      refine P_need s (by omega) (fun t' hn => ?_) (fun e hn he h' f => ?_)
      · obtain ⟨a1, a2, rfl⟩ := needP_ok hn
        have k0 := okX.at (t' := t + 1) ho el
        rw [ecd]
        refine P_addCode (l := l) (t := t + 1) ho r1 (by have := k0.2.2.2.2.1; simpa using this) (by omega) k0.2.2.1 (fun h' k' => ?_)
        rw [hn] at eu
        exact hok _ eu h' (by have := k0.tr (d2 := [9986 + kdT c n t]) (t2 := t + 1) (h2 := h') (by simpa using k'); simpa using this)
      · rw [hn] at eu
        exact P_addCodeF ho r1 (f.er ho he s el (by omega)) (fun h2 e2 => her _ eu h2 e2)
  · have k30' := (ek 30 (by omega)).mp k30
    have d6' : d < 6 := (nI_ltI (b := 6) (by omega) (by omega)).mp d6
    have eu : unP (kdT c n) (plT c n) (vaT c n) R d t = (match needP (kdT c n) (plT c n) 30 t with
      | .error e => .error e
      | .ok t1 => match R t1 with
        | .error e => .error e
        | .ok p => match needP (kdT c n) (plT c n) 31 p.1 with
          | .error e => .error e
          | .ok t3 => .ok (t3, p.2)) := by unfold unP; rw [if_pos k30', if_pos d6']; rfl
    unfold DJ_Rd_unit_42
    refine ⟨fun z => absurd k30 z, fun _ => ?_⟩
    rw [nI_1]
    refine P_need s (k := 30) (by omega) (fun t' hn => ?_) (fun e hn he h' f => ?_)
    · obtain ⟨a1, a2, rfl⟩ := needP_ok hn
      have k0 := okX.at (t' := t + 1) ho el
      have j1 := hJ.2 t tJ (by omega) a2
      have s0 := nxt _ _ k0 j1
      rw [hn] at eu
      simp only [] at eu
      refine hS d6' _ (t + 1) l _ s0 (by have := k0.2.2.2.2.1; simpa using this) (by omega) (fun p hp h1 k1 => ?_) (fun e he h1 e1 => ?_)
      · have k01 : okX q o l p.1 p.2 h h1 := by have := k0.tr (d2 := p.2) (t2 := p.1) (h2 := h1) (by simpa using k1); simpa using this
        have g := hg (t + 1) j1 p hp
        have s1 := k01.S ho s g.2.1
        rw [hp] at eu
        simp only [] at eu
        refine P_need s1 (k := 31) (by omega) (fun t3 hn3 => ?_) (fun e hn3 he h' f => ?_)
        · rw [hn3] at eu
          have k3 := okX.at (t' := t3) ho k01.2.2.2.2.1
          exact hok _ eu _ (by have := k01.tr k3; simpa using this)
        · rw [hn3] at eu
          exact her _ eu h' (k01.er (f.er ho he s1 k01.2.2.2.2.1 (by omega)))
      · rw [he] at eu
        exact P_needF e1.2.2.1.ne (her _ eu h1 (k0.er e1))
    · rw [hn] at eu
      have F := f.er ho he s el (by omega)
      exact hF d6' h' _ _ _ F.2.2.1 (P_needF F.2.2.1.ne (her _ eu h' F))
  · have k30' := (ek 30 (by omega)).mp k30
    have d6' : ¬ d < 6 := fun w => d6 (nI_lt (b := 6) w (by omega))
    have eu : unP (kdT c n) (plT c n) (vaT c n) R d t = .error (2, plT c n t) := by unfold unP; rw [if_pos k30', if_neg d6']
    exact P_RdFail (k := 2) s (fun h' f => her _ eu h' (f.er ho ⟨(by decide : ¬ (2 : Nat) = 0), (by decide : (2 : Nat) ≤ 9)⟩ s el (by omega)))
theorem P_productF {r : TR} {q o : Nat} {S : Nat → Nat → Int32 → TH → (TH → Prop) → Prop} {d : Int32} : CF q (fun h Q => D_Rd_product r S (q + 1) o d h Q) := by
  intro h k p Q f hQ
  show D_Rd_product r S (q + 1) o d h Q
  unfold D_Rd_product
  refine P_unitF h k p _ f ⟨0 + 1, lp_s ?_⟩
  unfold DB_Rd_product_8
  exact ⟨fun z => absurd (show (400 : Int32) ≤ 0 from z) (by decide), fun _ => ⟨fun _ => hQ, fun z => absurd z f.ne⟩⟩
theorem P_product {r : TR} {q o n J d : Nat} {c : Nat → Nat} {S : Nat → Nat → Int32 → TH → (TH → Prop) → Prop} {U : Nat → Except (Nat × Nat) (Nat × List Nat)} (ho : apo q o) (r1 : r o 1 = o + 2) (hJ : Jok (kdT c n) J) (hU : CE r q o n J c (fun h Q => D_Rd_unit r S (q + 1) o (nI d) h Q) U) (hg : ∀ t, t ≤ J → ∀ p, U t = .ok p → t < p.1 ∧ p.1 ≤ J ∧ p.2.length + t ≤ p.1) : CE r q o n J c (fun h Q => D_Rd_product r S (q + 1) o (nI d) h Q) (fun t => match U t with
  | .error e => .error e
  | .ok p => opL (kdT c n) (plT c n) 27 U 400 p.1 p.2) := by
  intro h t l Q s el hl hok her
  have j4 := hJ.1
  show D_Rd_product r S (q + 1) o (nI d) h Q
  unfold D_Rd_product
  have loop : ∀ h1, (∃ t1 ds, okX q o l t1 ds h h1 ∧ t < t1 ∧ t1 ≤ J ∧ ds.length + t ≤ t1 ∧ (match U t with | .error e => Except.error e | .ok p => opL (kdT c n) (plT c n) 27 U 400 p.1 p.2) = opL (kdT c n) (plT c n) 27 U 400 t1 ds) ∨ (∃ e, erX q o e.1 e.2 h h1 ∧ (match U t with | .error e => Except.error e | .ok p => opL (kdT c n) (plT c n) 27 U 400 p.1 p.2) = .error e) → ∃ n, lp (fun (K : Int32 × TH → Prop) (s : Int32 × TH) => DB_Rd_product_8 r S (q + 1) o (nI d) s.1 s.2 (fun y22 h23 => K (y22, h23)) (fun h24 => Q h24) Q) n (0, h1) := by
    intro h1 st
    refine lp_for 400 (fun i s => ∃ h', s = (nI i, h') ∧ ((∃ t1 ds, okX q o l t1 ds h h' ∧ t + i < t1 ∧ t1 ≤ J ∧ ds.length + t ≤ t1 ∧ (match U t with | .error e => Except.error e | .ok p => opL (kdT c n) (plT c n) 27 U 400 p.1 p.2) = opL (kdT c n) (plT c n) 27 U (400 - i) t1 ds) ∨ (∃ e, erX q o e.1 e.2 h h' ∧ (match U t with | .error e => Except.error e | .ok p => opL (kdT c n) (plT c n) 27 U 400 p.1 p.2) = .error e))) ?_ ?_ _ ⟨h1, rfl, by simpa using st⟩
    · rintro i s' K hi ⟨h', rfl, st'⟩ hK
      unfold DB_Rd_product_8
      refine ⟨fun z => absurd ((nI_leI (a := 400) (by omega) (by omega)).mp z) (by omega), fun _ => ?_⟩
      rcases st' with ⟨t1, ds, k1, b1, b2, b3, eR⟩ | ⟨e, k1, eR⟩
      · have s1 := k1.S ho s b2
        obtain ⟨⟨⟨r7, r8, r9⟩, tk, -, -⟩, tJ, f0, et⟩ := id s1
        have kl := kdT_lt c n t1
        obtain ⟨u1, u2, -⟩ := tk t1 tJ
        rw [show 400 - i = (400 - (i + 1)) + 1 by omega] at eR
        have op : (kdT c n t1 = 27 ∨ kdT c n t1 = 27 + 1) → DJ_Rd_product_50 r S (q + 1) o (nI d) (nI i) h' (fun y22 h23 => K (y22, h23)) (fun h24 => Q h24) Q := by
          intro kk
          have eR' : (match U t with | .error e => Except.error e | .ok p => opL (kdT c n) (plT c n) 27 U 400 p.1 p.2) = (match needP (kdT c n) (plT c n) (kdT c n t1) t1 with
            | .error e => .error e
            | .ok t2 => match U t2 with
              | .error e => .error e
              | .ok p => opL (kdT c n) (plT c n) 27 U (400 - (i + 1)) p.1 (ds ++ (p.2 ++ [10075 + kdT c n t1]))) := by
            rw [eR]; conv => lhs; unfold opL
            rw [if_pos kk]; rfl
          have ecd : ((10100 : Int32) + nI (kdT c n t1)) - 25 = nI (10075 + kdT c n t1) := by
            show nI 10100 + nI (kdT c n t1) - nI 25 = _
            rw [nI_add, pk_sub (by omega)]; congr 1; omega
          unfold DJ_Rd_product_50
          intro i10 e10
          rw [et] at e10
          subst e10
          refine ⟨vp_in_nI (by omega) (by omega), fun x11 e11 => ?_⟩
          rw [r7, nI_clamp (n := t1) (by omega), u1] at e11
          subst e11
          have er : ∀ (e : Nat × Nat) (h2 : TH), erX q o e.1 e.2 h h2 → (match U t with | .error e => Except.error e | .ok p => opL (kdT c n) (plT c n) 27 U 400 p.1 p.2) = .error e → ∀ v : Int32, D_Law_addCode r o v h2 (fun h16 => ∀ x18 : Int32, x18 = nI i + 1 → K (x18, h16)) := by
            intro e h2 k2 eE v
            refine P_addCodeF ho r1 k2 (fun h3 k3 x18 e18 => ?_)
            rw [nI_1] at e18; subst e18
            exact hK _ ⟨h3, rfl, Or.inr ⟨e, k3, eE⟩⟩
          refine P_need s1 (by omega) (fun t2 hn => ?_) (fun e hn he h2 f => ?_)
          · rw [hn] at eR'
            simp only [] at eR'
            obtain ⟨a1, a2, rfl⟩ := needP_ok hn
            have k0 := okX.at (t' := t1 + 1) ho k1.2.2.2.2.1
            have j1 := hJ.2 t1 b2 (by omega) a2
            have k01 : okX q o l (t1 + 1) ds h (pI h' (q + 1) 10 (nI (t1 + 1))) := by have := k1.tr k0; simpa using this
            have s2 := k01.S ho s j1
            refine hU _ (t1 + 1) (l + ds.length) _ s2 k01.2.2.2.2.1 (by omega) (fun p hp h3 k3 => ?_) (fun e he h3 e3 => ?_)
            · rw [hp] at eR'
              simp only [] at eR'
              have g := hg (t1 + 1) j1 p hp
              have k13 := k01.tr k3
              rw [ecd]
              have ll : (ds ++ p.2).length = ds.length + p.2.length := List.length_append
              refine P_addCode (l := l + (ds ++ p.2).length) (t := p.1) ho r1 k13.2.2.2.2.1 (by omega) k13.2.2.1 (fun h4 k4 x18 e18 => ?_)
              rw [nI_1] at e18; subst e18
              have k14 := k13.tr k4
              rw [List.append_assoc] at k14
              refine hK _ ⟨h4, rfl, Or.inl ⟨p.1, _, k14, by omega, g.2.1, ?_, eR'⟩⟩
              rw [List.length_append, List.length_append]
              show ds.length + (p.2.length + 1) + t ≤ p.1
              omega
            · rw [he] at eR'
              exact er e h3 (k01.er e3) eR' _
          · rw [hn] at eR'
            have F := f.er ho he s1 k1.2.2.2.2.1 (by omega)
            exact P_unitF h2 _ _ _ F.2.2.1 (er e h2 (k1.er F) eR' _)
        refine ⟨fun z => absurd f0 z, fun _ i7 e7 => ?_⟩
        rw [et] at e7
        subst e7
        rw [r7, nI_clamp (n := t1) (by omega), u1]
        refine ⟨vp_in_nI (by omega) (by omega), fun z => op (Or.inl ((nI_eq (b := 27) (by omega) (by omega)).mp z)), fun z i20 e20 => ?_⟩
        rw [et] at e20
        subst e20
        rw [nI_clamp (n := t1) (by omega), u1]
        refine ⟨vp_in_nI (by omega) (by omega), fun y => ?_, fun y => op (Or.inr ((nI_eq (b := 28) (by omega) (by omega)).mp y))⟩
        have nk : ¬ (kdT c n t1 = 27 ∨ kdT c n t1 = 27 + 1) := by
          rintro (w | w)
          · exact z (by rw [w]; rfl)
          · exact y (by rw [w]; rfl)
        refine hok (t1, ds) ?_ h' k1
        show (match U t with | .error e => Except.error e | .ok p => opL (kdT c n) (plT c n) 27 U 400 p.1 p.2) = _
        rw [eR]; conv => lhs; unfold opL
        rw [if_neg nk]
      · exact ⟨fun _ => her e eR h' k1, fun z => absurd z k1.2.2.1.ne⟩
    · rintro s' K ⟨h', rfl, st'⟩
      unfold DB_Rd_product_8
      refine ⟨fun _ => ?_, fun z => absurd (show (400 : Int32) ≤ nI 400 from Int32.le_refl _) z⟩
      rcases st' with ⟨t1, ds, k1, b1, b2, b3, eR⟩ | ⟨e, k1, eR⟩
      · omega
      · exact her e eR h' k1
  refine hU h t l _ s el hl (fun p hp h1 k1 => loop h1 (Or.inl ?_)) (fun e he h1 e1 => loop h1 (Or.inr ⟨e, e1, by rw [he]⟩))
  have g := hg t s.2.1 p hp
  exact ⟨p.1, p.2, k1, g.1, g.2.1, g.2.2, by rw [hp]⟩
theorem P_sumF {r : TR} {q o : Nat} {S : Nat → Nat → Int32 → TH → (TH → Prop) → Prop} {d : Int32} : CF q (fun h Q => D_Rd_sum r S (q + 1) o d h Q) := by
  intro h k p Q f hQ
  show D_Rd_sum r S (q + 1) o d h Q
  unfold D_Rd_sum
  refine P_productF h k p _ f ⟨0 + 1, lp_s ?_⟩
  unfold DB_Rd_sum_8
  exact ⟨fun z => absurd (show (400 : Int32) ≤ 0 from z) (by decide), fun _ => ⟨fun _ => hQ, fun z => absurd z f.ne⟩⟩
theorem P_sum {r : TR} {q o n J d : Nat} {c : Nat → Nat} {S : Nat → Nat → Int32 → TH → (TH → Prop) → Prop} {U : Nat → Except (Nat × Nat) (Nat × List Nat)} (ho : apo q o) (r1 : r o 1 = o + 2) (hJ : Jok (kdT c n) J) (hU : CE r q o n J c (fun h Q => D_Rd_product r S (q + 1) o (nI d) h Q) U) (hg : ∀ t, t ≤ J → ∀ p, U t = .ok p → t < p.1 ∧ p.1 ≤ J ∧ p.2.length + t ≤ p.1) : CE r q o n J c (fun h Q => D_Rd_sum r S (q + 1) o (nI d) h Q) (fun t => match U t with
  | .error e => .error e
  | .ok p => opL (kdT c n) (plT c n) 25 U 400 p.1 p.2) := by
  intro h t l Q s el hl hok her
  have j4 := hJ.1
  show D_Rd_sum r S (q + 1) o (nI d) h Q
  unfold D_Rd_sum
  have loop : ∀ h1, (∃ t1 ds, okX q o l t1 ds h h1 ∧ t < t1 ∧ t1 ≤ J ∧ ds.length + t ≤ t1 ∧ (match U t with | .error e => Except.error e | .ok p => opL (kdT c n) (plT c n) 25 U 400 p.1 p.2) = opL (kdT c n) (plT c n) 25 U 400 t1 ds) ∨ (∃ e, erX q o e.1 e.2 h h1 ∧ (match U t with | .error e => Except.error e | .ok p => opL (kdT c n) (plT c n) 25 U 400 p.1 p.2) = .error e) → ∃ n, lp (fun (K : Int32 × TH → Prop) (s : Int32 × TH) => DB_Rd_sum_8 r S (q + 1) o (nI d) s.1 s.2 (fun y22 h23 => K (y22, h23)) (fun h24 => Q h24) Q) n (0, h1) := by
    intro h1 st
    refine lp_for 400 (fun i s => ∃ h', s = (nI i, h') ∧ ((∃ t1 ds, okX q o l t1 ds h h' ∧ t + i < t1 ∧ t1 ≤ J ∧ ds.length + t ≤ t1 ∧ (match U t with | .error e => Except.error e | .ok p => opL (kdT c n) (plT c n) 25 U 400 p.1 p.2) = opL (kdT c n) (plT c n) 25 U (400 - i) t1 ds) ∨ (∃ e, erX q o e.1 e.2 h h' ∧ (match U t with | .error e => Except.error e | .ok p => opL (kdT c n) (plT c n) 25 U 400 p.1 p.2) = .error e))) ?_ ?_ _ ⟨h1, rfl, by simpa using st⟩
    · rintro i s' K hi ⟨h', rfl, st'⟩ hK
      unfold DB_Rd_sum_8
      refine ⟨fun z => absurd ((nI_leI (a := 400) (by omega) (by omega)).mp z) (by omega), fun _ => ?_⟩
      rcases st' with ⟨t1, ds, k1, b1, b2, b3, eR⟩ | ⟨e, k1, eR⟩
      · have s1 := k1.S ho s b2
        obtain ⟨⟨⟨r7, r8, r9⟩, tk, -, -⟩, tJ, f0, et⟩ := id s1
        have kl := kdT_lt c n t1
        obtain ⟨u1, u2, -⟩ := tk t1 tJ
        rw [show 400 - i = (400 - (i + 1)) + 1 by omega] at eR
        have op : (kdT c n t1 = 25 ∨ kdT c n t1 = 25 + 1) → DJ_Rd_sum_50 r S (q + 1) o (nI d) (nI i) h' (fun y22 h23 => K (y22, h23)) (fun h24 => Q h24) Q := by
          intro kk
          have eR' : (match U t with | .error e => Except.error e | .ok p => opL (kdT c n) (plT c n) 25 U 400 p.1 p.2) = (match needP (kdT c n) (plT c n) (kdT c n t1) t1 with
            | .error e => .error e
            | .ok t2 => match U t2 with
              | .error e => .error e
              | .ok p => opL (kdT c n) (plT c n) 25 U (400 - (i + 1)) p.1 (ds ++ (p.2 ++ [10075 + kdT c n t1]))) := by
            rw [eR]; conv => lhs; unfold opL
            rw [if_pos kk]; rfl
          have ecd : ((10100 : Int32) + nI (kdT c n t1)) - 25 = nI (10075 + kdT c n t1) := by
            show nI 10100 + nI (kdT c n t1) - nI 25 = _
            rw [nI_add, pk_sub (by omega)]; congr 1; omega
          unfold DJ_Rd_sum_50
          intro i10 e10
          rw [et] at e10
          subst e10
          refine ⟨vp_in_nI (by omega) (by omega), fun x11 e11 => ?_⟩
          rw [r7, nI_clamp (n := t1) (by omega), u1] at e11
          subst e11
          have er : ∀ (e : Nat × Nat) (h2 : TH), erX q o e.1 e.2 h h2 → (match U t with | .error e => Except.error e | .ok p => opL (kdT c n) (plT c n) 25 U 400 p.1 p.2) = .error e → ∀ v : Int32, D_Law_addCode r o v h2 (fun h16 => ∀ x18 : Int32, x18 = nI i + 1 → K (x18, h16)) := by
            intro e h2 k2 eE v
            refine P_addCodeF ho r1 k2 (fun h3 k3 x18 e18 => ?_)
            rw [nI_1] at e18; subst e18
            exact hK _ ⟨h3, rfl, Or.inr ⟨e, k3, eE⟩⟩
          refine P_need s1 (by omega) (fun t2 hn => ?_) (fun e hn he h2 f => ?_)
          · rw [hn] at eR'
            simp only [] at eR'
            obtain ⟨a1, a2, rfl⟩ := needP_ok hn
            have k0 := okX.at (t' := t1 + 1) ho k1.2.2.2.2.1
            have j1 := hJ.2 t1 b2 (by omega) a2
            have k01 : okX q o l (t1 + 1) ds h (pI h' (q + 1) 10 (nI (t1 + 1))) := by have := k1.tr k0; simpa using this
            have s2 := k01.S ho s j1
            refine hU _ (t1 + 1) (l + ds.length) _ s2 k01.2.2.2.2.1 (by omega) (fun p hp h3 k3 => ?_) (fun e he h3 e3 => ?_)
            · rw [hp] at eR'
              simp only [] at eR'
              have g := hg (t1 + 1) j1 p hp
              have k13 := k01.tr k3
              rw [ecd]
              have ll : (ds ++ p.2).length = ds.length + p.2.length := List.length_append
              refine P_addCode (l := l + (ds ++ p.2).length) (t := p.1) ho r1 k13.2.2.2.2.1 (by omega) k13.2.2.1 (fun h4 k4 x18 e18 => ?_)
              rw [nI_1] at e18; subst e18
              have k14 := k13.tr k4
              rw [List.append_assoc] at k14
              refine hK _ ⟨h4, rfl, Or.inl ⟨p.1, _, k14, by omega, g.2.1, ?_, eR'⟩⟩
              rw [List.length_append, List.length_append]
              show ds.length + (p.2.length + 1) + t ≤ p.1
              omega
            · rw [he] at eR'
              exact er e h3 (k01.er e3) eR' _
          · rw [hn] at eR'
            have F := f.er ho he s1 k1.2.2.2.2.1 (by omega)
            exact P_productF h2 _ _ _ F.2.2.1 (er e h2 (k1.er F) eR' _)
        refine ⟨fun z => absurd f0 z, fun _ i7 e7 => ?_⟩
        rw [et] at e7
        subst e7
        rw [r7, nI_clamp (n := t1) (by omega), u1]
        refine ⟨vp_in_nI (by omega) (by omega), fun z => op (Or.inl ((nI_eq (b := 25) (by omega) (by omega)).mp z)), fun z i20 e20 => ?_⟩
        rw [et] at e20
        subst e20
        rw [nI_clamp (n := t1) (by omega), u1]
        refine ⟨vp_in_nI (by omega) (by omega), fun y => ?_, fun y => op (Or.inr ((nI_eq (b := 26) (by omega) (by omega)).mp y))⟩
        have nk : ¬ (kdT c n t1 = 25 ∨ kdT c n t1 = 25 + 1) := by
          rintro (w | w)
          · exact z (by rw [w]; rfl)
          · exact y (by rw [w]; rfl)
        refine hok (t1, ds) ?_ h' k1
        show (match U t with | .error e => Except.error e | .ok p => opL (kdT c n) (plT c n) 25 U 400 p.1 p.2) = _
        rw [eR]; conv => lhs; unfold opL
        rw [if_neg nk]
      · exact ⟨fun _ => her e eR h' k1, fun z => absurd z k1.2.2.1.ne⟩
    · rintro s' K ⟨h', rfl, st'⟩
      unfold DB_Rd_sum_8
      refine ⟨fun _ => ?_, fun z => absurd (show (400 : Int32) ≤ nI 400 from Int32.le_refl _) z⟩
      rcases st' with ⟨t1, ds, k1, b1, b2, b3, eR⟩ | ⟨e, k1, eR⟩
      · omega
      · exact her e eR h' k1
  refine hU h t l _ s el hl (fun p hp h1 k1 => loop h1 (Or.inl ?_)) (fun e he h1 e1 => loop h1 (Or.inr ⟨e, e1, by rw [he]⟩))
  have g := hg t s.2.1 p hp
  exact ⟨p.1, p.2, k1, g.1, g.2.1, g.2.2, by rw [hp]⟩
theorem P_SumNF {r : TR} {q o : Nat} {d : Int32} : ∀ n, CF q (fun h Q => SumN r (n + 1) (q + 1) o d h Q) := fun n h k p Q f hQ => P_sumF (S := SumN r n) h k p Q f hQ
theorem P_SumN {r : TR} {q o n J : Nat} {c : Nat → Nat} (ho : apo q o) (r1 : r o 1 = o + 2) (hJ : Jok (kdT c n) J) (hv : ∀ t, kdT c n t = 3 → vaT c n t ≤ 9999) : ∀ g, g ≤ 6 → ∀ m, g ≤ m → CE r q o n J c (fun h Q => SumN r (m + 1) (q + 1) o (nI (6 - g)) h Q) (smP (kdT c n) (plT c n) (vaT c n) g) := by
  intro g
  induction g with
  | zero =>
    intro _ m _
    have R0 : ∀ t, t ≤ J → Rgd (kdT c n) J 1 t ((fun _ => .error (9, 9) : Nat → Except (Nat × Nat) (Nat × List Nat)) t) := fun t _ p hp => by cases hp
    have u := P_unit (S := SumN r m) (R := fun _ => .error (9, 9)) (d := 6) ho r1 hJ (Nat.le_refl _) (fun z => by omega) (fun z => by omega) (fun t _ p hp => by cases hp)
    have p1 := P_product ho r1 hJ u (fun t ht p hp => by obtain ⟨x1, x2, x3, -⟩ := unP_gd (b := 1) hJ ht (by omega) hv R0 p hp; exact ⟨x1, x2, x3⟩)
    exact P_sum ho r1 hJ p1 (fun t ht p hp => by obtain ⟨x1, x2, x3, -⟩ := prP_gd (b := 1) hJ ht (by omega) hv R0 p hp; exact ⟨x1, x2, x3⟩)
  | succ g ih =>
    intro hg m hm
    obtain ⟨m', rfl⟩ : ∃ m', m = m' + 1 := ⟨m - 1, by omega⟩
    have i := ih (by omega) m' (by omega)
    have R0 : ∀ t, t ≤ J → Rgd (kdT c n) J (3 + 2 * g) t (smP (kdT c n) (plT c n) (vaT c n) g t) := fun t ht p hp => by obtain ⟨x1, x2, x3, x4, -⟩ := smP_gd hJ hv g t ht p hp; exact ⟨x1, x2, x3, x4⟩
    have e6 : 5 - g + 1 = 6 - g := by omega
    have u := P_unit (S := SumN r (m' + 1)) (R := smP (kdT c n) (plT c n) (vaT c n) g) (d := 5 - g) ho r1 hJ (by omega) (fun _ => by rw [e6]; exact i) (fun _ => P_SumNF m') (fun t ht p hp => by obtain ⟨x1, x2, x3, -⟩ := R0 t ht p hp; exact ⟨x1, x2, x3⟩)
    have p1 := P_product ho r1 hJ u (fun t ht p hp => by obtain ⟨x1, x2, x3, -⟩ := unP_gd (b := 3 + 2 * g) hJ ht (by omega) hv R0 p hp; exact ⟨x1, x2, x3⟩)
    have p2 := P_sum ho r1 hJ p1 (fun t ht p hp => by obtain ⟨x1, x2, x3, -⟩ := prP_gd (b := 3 + 2 * g) hJ ht (by omega) hv R0 p hp; exact ⟨x1, x2, x3⟩)
    rw [show 6 - (g + 1) = 5 - g by omega]
    exact p2
