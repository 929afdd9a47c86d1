/-! a law: the class's side -/
def bnd {α β : Type} (x : Except (Nat × Nat) α) (f : α → Except (Nat × Nat) β) : Except (Nat × Nat) β := match x with
  | .error e => .error e
  | .ok a => f a
theorem bnd_ok {α β : Type} {x : Except (Nat × Nat) α} {f : α → Except (Nat × Nat) β} {b : β} (h : bnd x f = .ok b) : ∃ a, x = .ok a ∧ f a = .ok b := by
  cases x with
  | error e => cases h
  | ok a => exact ⟨a, rfl, h⟩
def smQ (kd pl va : Nat → Nat) (t : Nat) : Except (Nat × Nat) (Nat × List Nat) := smP kd pl va 6 t
def lwE (kd pl va : Nat → Nat) (t : Nat) (Ps : List (List Nat)) : Except (Nat × Nat) (Nat × List (List Nat)) := bnd (smQ kd pl va t) (fun p => .ok (p.1, Ps ++ [p.2]))
def lwL (kd pl va : Nat → Nat) : Nat → Nat → List (List Nat) → Except (Nat × Nat) (Nat × List (List Nat))
  | 0, t, Ps => if kd t = 11 then .error (2, pl t) else lwE kd pl va t Ps
  | k + 1, t, Ps => if kd t = 11 then bnd (needP kd pl 11 t) (fun t1 => bnd (smQ kd pl va t1) (fun a => bnd (needP kd pl 29 a.1) (fun t3 => bnd (smQ kd pl va t3) (fun b => bnd (needP kd pl 12 b.1) (fun t5 => bnd (smQ kd pl va t5) (fun d => bnd (needP kd pl 13 d.1) (fun t7 => lwL kd pl va k t7 (Ps ++ [a.2] ++ [b.2] ++ [d.2])))))))) else lwE kd pl va t Ps
def lawP (kd pl va : Nat → Nat) (t : Nat) : Except (Nat × Nat) (Nat × List (List Nat)) := bnd (needP kd pl (kd t) t) (fun t1 => bnd (needP kd pl 24 t1) (fun t2 => lwL kd pl va 4 t2 []))
def LW (h : TH) (o : Nat) (Ps : List (List Nat)) : Prop := LawOK h o Ps ∧ h.1 o 4 = nI (offs Ps Ps.length)
def okW (q o t' : Nat) (Ps : List (List Nat)) (h h' : TH) : Prop := Fr (fun a => a = q + 1 ∨ a = o ∨ a = o + 2 ∨ a = o + 3) h h' ∧ (∀ x, ¬ x = 10 → h'.1 (q + 1) x = h.1 (q + 1) x) ∧ h'.1 (q + 1) 10 = nI t' ∧ LW h' o Ps
def erW (q o k p : Nat) (h h' : TH) : Prop := Fr (fun a => a = q + 1 ∨ a = o ∨ a = o + 2 ∨ a = o + 3) h h' ∧ (∀ x, ¬ x = 10 → ¬ x = 4 → ¬ x = 3 → h'.1 (q + 1) x = h.1 (q + 1) x) ∧ RdF h' q k p ∧ (∃ l, l ≤ 400 ∧ h'.1 o 4 = nI l) ∧ ∃ l, l ≤ 13 ∧ h'.1 o 5 = nI l
theorem getD_l (Ps : List (List Nat)) (a : List Nat) : (Ps ++ [a]).getD Ps.length [] = a := by
  simp only [List.getD_eq_getElem?_getD]
  rw [List.getElem?_append_right (Nat.le_refl _)]; simp
theorem getD_i (Ps : List (List Nat)) (a : List Nat) (i : Nat) (h : i < Ps.length) : (Ps ++ [a]).getD i [] = Ps.getD i [] := by
  simp only [List.getD_eq_getElem?_getD]
  rw [List.getElem?_append_left h]
theorem offs_i (Ps : List (List Nat)) (a : List Nat) (k : Nat) (h : k ≤ Ps.length) : offs (Ps ++ [a]) k = offs Ps k := by
  unfold offs
  rw [List.take_append_of_le_length h]
theorem offs_l (Ps : List (List Nat)) (a : List Nat) : offs (Ps ++ [a]) (Ps.length + 1) = offs Ps Ps.length + a.length := by
  rw [offs_s _ (by simp), offs_i _ _ _ (Nat.le_refl _), getD_l]
theorem P_endPiece {r : TR} {q o t' : Nat} {ds : List Nat} {Ps : List (List Nat)} {h h1 : TH} {Q : TH → Prop} (ho : apo q o) (r2 : r o 2 = o + 3) (w : LW h o Ps) (k : okX q o (offs Ps Ps.length) t' ds h h1) (hw : wfT ds 0 = true) (hl : offs Ps Ps.length + ds.length ≤ 400) (h13 : Ps.length < 13) (hQ : ∀ h', Fr (fun a => a = o ∨ a = o + 3) h1 h' → LW h' o (Ps ++ [ds]) → Q h') : D_Law_endPiece r o h1 Q := by
  obtain ⟨⟨w1, w2, w3, w4, w5, w6⟩, w7⟩ := w
  obtain ⟨k1, k2, k3, k4, k5, k6, k7⟩ := k
  have e5 : h1.1 o 5 = nI Ps.length := by rw [k4 5 (by omega)]; exact w1
  have e3 : h1.1 (o + 3) = h.1 (o + 3) := (k1 _ (by unfold apo at ho; omega)).1
  unfold D_Law_endPiece
  rw [e5, r2, nI_clamp (n := Ps.length) (by omega), k5]
  refine ⟨fun z => absurd ((nI_leI (a := 13) (by omega) (by omega)).mp z) (by omega), fun _ => ⟨vp_in_nI h13 (by omega), fun h3 g3 h4 g4 => ?_⟩⟩
  have g4' : h4 = pI h3 o 5 (nI (Ps.length + 1)) := by rw [g4, g3, pI_o _ _ _ _ (by omega), e5, nI_1]
  have c2 : h4.1 (o + 2) = h1.1 (o + 2) := by rw [g4', pI_o _ _ _ _ (by omega), g3, pI_o _ _ _ _ (by omega)]
  have c3 : h4.1 (o + 3) = (pI h1 (o + 3) Ps.length (nI (offs Ps Ps.length + ds.length))).1 (o + 3) := by rw [g4', pI_o _ _ _ _ (by omega), g3]
  have ll : (Ps ++ [ds]).length = Ps.length + 1 := by simp
  refine hQ h4 (by rw [g4', g3]; exact (Fr.pI (Or.inr rfl)).tr (Fr.pI (Or.inl rfl))) ⟨⟨by rw [g4', pI_s, ll], by rw [ll]; omega, fun p hp => ?_, by rw [ll, offs_l]; exact hl, fun p hp i hi => ?_, fun p hp => ?_⟩, ?_⟩
  · rw [ll] at hp
    rw [c3]
    by_cases e : p = Ps.length
    · subst e; rw [pI_s, offs_l]
    · rw [pI_n _ _ _ _ (by omega), offs_i _ _ _ (by omega), e3]; exact w3 p (by omega)
  · rw [ll] at hp
    rw [c2, offs_i _ _ _ (by omega)]
    by_cases e : p = Ps.length
    · subst e
      rw [getD_l] at hi ⊢
      exact k7 i hi
    · rw [getD_i _ _ _ (by omega)] at hi ⊢
      have b := offs_le Ps (k := p + 1) (m := Ps.length) (by omega) (Nat.le_refl _)
      rw [offs_s Ps (by omega)] at b
      rw [k6 _ (by omega)]
      exact w5 p (by omega) i hi
  · rw [ll] at hp
    by_cases e : p = Ps.length
    · subst e; rw [getD_l]; exact hw
    · rw [getD_i _ _ _ (by omega)]; exact w6 p (by omega)
  · rw [ll, offs_l, g4', pI_n _ _ _ _ (by omega), g3, pI_o _ _ _ _ (by omega)]; exact k5
theorem P_endPieceF {r : TR} {q o k p : Nat} {h0 h : TH} {Q : TH → Prop} (ho : apo q o) (r2 : r o 2 = o + 3) (e : erW q o k p h0 h) (hQ : ∀ h', erW q o k p h0 h' → Q h') : D_Law_endPiece r o h Q := by
  unfold apo at ho
  obtain ⟨b1, b2, ⟨b3, b4, b5, t, b6, b7⟩, ⟨l, c1, c2⟩, l5, d1, d2⟩ := id e
  unfold D_Law_endPiece
  rw [d2, r2, nI_clamp (n := l5) (by omega)]
  refine ⟨fun _ => hQ h e, fun z => ?_⟩
  have hl : l5 < 13 := by
    rcases Nat.lt_or_ge l5 13 with w | w
    · exact w
    · exact absurd (nI_le (a := 13) w (by omega)) z
  refine ⟨vp_in_nI hl (by omega), fun h3 g3 h4 g4 => hQ h4 ?_⟩
  have g4' : h4 = pI h3 o 5 (nI (l5 + 1)) := by rw [g4, g3, pI_o _ _ _ _ (by omega), d2, nI_1]
  have q1 : h4.1 (q + 1) = h.1 (q + 1) := by rw [g4', pI_o _ _ _ _ (by omega), g3, pI_o _ _ _ _ (by omega)]
  refine ⟨b1.tr (by rw [g4', g3]; exact (Fr.pI (Or.inr (Or.inr (Or.inr rfl)))).tr (Fr.pI (Or.inr (Or.inl rfl)))), fun x x1 x2 x3 => by rw [q1]; exact b2 x x1 x2 x3, ⟨b3, by rw [q1]; exact b4, by rw [q1]; exact b5, t, b6, by rw [q1]; exact b7⟩, ⟨l, c1, by rw [g4', pI_n _ _ _ _ (by omega), g3, pI_o _ _ _ _ (by omega)]; exact c2⟩, l5 + 1, by omega, by rw [g4', pI_s]⟩
theorem okW.S {r : TR} {q o t' n J t : Nat} {c : Nat → Nat} {Ps : List (List Nat)} {h h' : TH} (ho : apo q o) (k : okW q o t' Ps h h') (s : RdS r h q c n J t) (ht : t' ≤ J) : RdS r h' q c n J t' := ⟨s.1.mv (fun a x y => (k.1 a (by unfold apo at ho; omega)).1), ht, (k.2.1 4 (by omega)).trans s.2.2.1, k.2.2.1⟩
theorem LW.mv {h h' : TH} {o : Nat} {Ps : List (List Nat)} (e : h'.1 o = h.1 o) (e2 : h'.1 (o + 2) = h.1 (o + 2)) (e3 : h'.1 (o + 3) = h.1 (o + 3)) (w : LW h o Ps) : LW h' o Ps := ⟨w.1.mv (by rw [e]) e2 e3, by rw [e]; exact w.2⟩
theorem LW.five {h : TH} {o : Nat} {Ps : List (List Nat)} (w : LW h o Ps) : ∃ l, l ≤ 13 ∧ h.1 o 5 = nI l := ⟨Ps.length, w.1.2.1, w.1.1⟩
theorem LW.four {h : TH} {o : Nat} {Ps : List (List Nat)} (w : LW h o Ps) : ∃ l, l ≤ 400 ∧ h.1 o 4 = nI l := ⟨_, w.1.2.2.2.1, w.2⟩
theorem okW.erX {q o t k p : Nat} {Ps : List (List Nat)} {h0 h1 h2 : TH} (ho : apo q o) (a : okW q o t Ps h0 h1) (b : erX q o k p h1 h2) : erW q o k p h0 h2 := by
  obtain ⟨a1, a2, a3, a4⟩ := a
  obtain ⟨b1, b2, b3, b4, b5⟩ := b
  refine ⟨a1.tr (b1.mono (fun x hx => by omega)), fun x x1 x2 x3 => (b2 x x1 x2 x3).trans (a2 x x1), b3, b5, ?_⟩
  obtain ⟨l, l1, l2⟩ := a4.five
  exact ⟨l, l1, by rw [b4 5 (by omega)]; exact l2⟩
theorem P_needW {r : TR} {q o n J t k : Nat} {c : Nat → Nat} {Ps : List (List Nat)} {h0 h1 : TH} {Q : TH → Prop} (ho : apo q o) (hJ : Jok (kdT c n) J) (a : okW q o t Ps h0 h1) (s : RdS r h1 q c n J t) (hk : 2 ≤ k) (hk2 : k ≤ 31) (hok : ∀ t', needP (kdT c n) (plT c n) k t = .ok t' → ∀ h2, okW q o t' Ps h0 h2 → RdS r h2 q c n J t' → Q h2) (her : ∀ e, needP (kdT c n) (plT c n) k t = .error e → ∀ h2, erW q o e.1 e.2 h0 h2 → Q h2) : D_Rd_need r (q + 1) (nI k) h1 (fun _ h2 => Q h2) := by
  have ho' := ho
  unfold apo at ho'
  refine P_need s hk2 (fun t' hn => ?_) (fun e hn he h' f => ?_)
  · obtain ⟨a1, a2, rfl⟩ := needP_ok hn
    have k1 : okW q o (t + 1) Ps h0 (pI h1 (q + 1) 10 (nI (t + 1))) := ⟨a.1.tr (Fr.pI (Or.inl rfl)), fun x hx => by rw [pI_n _ _ _ _ (by omega)]; exact a.2.1 x hx, pI_s _ _ _ _, a.2.2.2.mv (pI_o _ _ _ _ (by omega)) (pI_o _ _ _ _ (by omega)) (pI_o _ _ _ _ (by omega))⟩
    exact hok _ hn _ k1 ⟨s.1.mv (fun x p q => pI_o _ _ _ _ (by omega)), hJ.2 t s.2.1 (by omega) a2, by rw [pI_n _ _ _ _ (by omega)]; exact s.2.2.1, pI_s _ _ _ _⟩
  · exact her e hn h' (a.erX ho (f.er ho he s a.2.2.2.2 a.2.2.2.1.2.2.2.1))
theorem P_needWF {r : TR} {q o k p : Nat} {v : Int32} {h0 h1 : TH} {Q : TH → Prop} (e : erW q o k p h0 h1) (hQ : ∀ h2, erW q o k p h0 h2 → Q h2) : D_Rd_need r (q + 1) v h1 (fun _ h2 => Q h2) := P_needF e.2.2.1.ne (hQ h1 e)
theorem P_sumEnd {r : TR} {q o n J t : Nat} {c : Nat → Nat} {Ps : List (List Nat)} {h0 h1 : TH} {Q : TH → Prop} (ho : apo q o) (rl : RLw r o) (hJ : Jok (kdT c n) J) (hv : ∀ t, kdT c n t = 3 → vaT c n t ≤ 9999) (a : okW q o t Ps h0 h1) (s : RdS r h1 q c n J t) (hl : offs Ps Ps.length ≤ t) (h13 : Ps.length < 13) (hok : ∀ p, smQ (kdT c n) (plT c n) (vaT c n) t = .ok p → ∀ h3, okW q o p.1 (Ps ++ [p.2]) h0 h3 → RdS r h3 q c n J p.1 → offs (Ps ++ [p.2]) (Ps ++ [p.2]).length ≤ p.1 → Q h3) (her : ∀ e, smQ (kdT c n) (plT c n) (vaT c n) t = .error e → ∀ h3, erW q o e.1 e.2 h0 h3 → Q h3) : SumN r 8 (q + 1) o 0 h1 (fun h17 => D_Law_endPiece r o h17 (fun h19 => Q h19)) := by
  have ho' := ho
  unfold apo at ho'
  have tJ := s.2.1
  refine P_SumN ho rl.2.1 hJ hv 6 (Nat.le_refl _) 7 (by omega) h1 t _ _ s a.2.2.2.2 hl (fun p hp h2 k2 => ?_) (fun e he h2 e2 => ?_)
  · have g := smP_gd hJ hv 6 t tJ p hp
    have gl : offs Ps Ps.length + p.2.length ≤ p.1 := by omega
    refine P_endPiece ho rl.2.2.1 a.2.2.2 k2 (g.2.2.2.1.fin (by omega)) (by have := hJ.1; omega) h13 (fun h3 f3 w3 => ?_)
    have q3 : h3.1 (q + 1) = h2.1 (q + 1) := (f3 _ (by omega)).1
    have k3 : okW q o p.1 (Ps ++ [p.2]) h0 h3 := ⟨(a.1.tr (k2.1.mono (fun x hx => by omega))).tr (f3.mono (fun x hx => by omega)), fun x hx => by rw [q3, k2.2.1 x hx]; exact a.2.1 x hx, by rw [q3]; exact k2.2.2.1, w3⟩
    refine hok p hp h3 k3 ⟨s.1.mv (fun x y z => by rw [(f3 x (by omega)).1, (k2.1 x (by omega)).1]), g.2.1, by rw [q3, k2.2.1 4 (by omega)]; exact s.2.2.1, k3.2.2.1⟩ ?_
    rw [show (Ps ++ [p.2]).length = Ps.length + 1 by simp, offs_l]; exact gl
  · exact P_endPieceF ho rl.2.2.1 (a.erX ho e2) (fun h3 e3 => her e he h3 e3)
theorem P_sumEndF {r : TR} {q o k p : Nat} {h0 h1 : TH} {Q : TH → Prop} (ho : apo q o) (rl : RLw r o) (e : erW q o k p h0 h1) (hQ : ∀ h3, erW q o k p h0 h3 → Q h3) : SumN r 8 (q + 1) o 0 h1 (fun h17 => D_Law_endPiece r o h17 (fun h19 => Q h19)) := P_SumNF 7 h1 k p _ e.2.2.1 (P_endPieceF ho rl.2.2.1 e hQ)
theorem P_tellLaw {r : TR} {q o n J t : Nat} {c : Nat → Nat} {h : TH} {Q : TH → Prop} (ho : apo q o) (rl : RLw r o) (hJ : Jok (kdT c n) J) (hv : ∀ t, kdT c n t = 3 → vaT c n t ≤ 9999) (s : RdS r h q c n J t) (hk : 2 ≤ kdT c n t) (hw : ∃ Ps, LW h o Ps) (hok : ∀ p, lawP (kdT c n) (plT c n) (vaT c n) t = .ok p → ∀ h', okW q o p.1 p.2 h h' → RdS r h' q c n J p.1 → Q h') (her : ∀ e, lawP (kdT c n) (plT c n) (vaT c n) t = .error e → ∀ h', erW q o e.1 e.2 h h' → Q h') : D_Rd_tellLaw r (q + 1) o h Q := by
  have ho' := ho
  unfold apo at ho'
  obtain ⟨⟨⟨r7, r8, r9⟩, tk, j4, -⟩, tJ, f0, et⟩ := id s
  have kl := kdT_lt c n t
  obtain ⟨P0, w0⟩ := hw
  have a0 : okW q o t P0 h h := ⟨Fr.rf, fun _ _ => rfl, et, w0⟩
  unfold D_Rd_tellLaw
  intro i2 e2
  rw [et] at e2
  subst e2
  rw [r7, nI_clamp (n := t) (by omega), (tk t tJ).1]
  refine ⟨vp_in_nI (by omega) (by omega), ?_⟩
  generalize hL : lawP (kdT c n) (plT c n) (vaT c n) t = R at hok her
  unfold lawP at hL
  /- the loop, from a state or behind a fault -/
  have fin : ∀ h1, (∃ t1 Ps, okW q o t1 Ps h h1 ∧ RdS r h1 q c n J t1 ∧ offs Ps Ps.length ≤ t1 ∧ Ps.length < 13 ∧ ¬ kdT c n t1 = 11 ∧ R = lwE (kdT c n) (plT c n) (vaT c n) t1 Ps) ∨ (∃ t1 Ps, okW q o t1 Ps h h1 ∧ RdS r h1 q c n J t1 ∧ kdT c n t1 = 11 ∧ R = .error (2, plT c n t1)) ∨ (∃ e : Nat × Nat, erW q o e.1 e.2 h h1 ∧ R = .error e) → DJ_Rd_tellLaw_117 r (q + 1) o h1 Q := by
    intro h1 st
    unfold DJ_Rd_tellLaw_117
    rcases st with ⟨t1, Ps, a1, s1, l1, p1, k1, eR⟩ | ⟨t1, Ps, a1, s1, k1, eR⟩ | ⟨e, e1, eR⟩
    · intro i40 e40
      rw [s1.2.2.2] at e40
      subst e40
      have kl1 := kdT_lt c n t1
      have tJ1 := s1.2.1
      rw [r7, nI_clamp (n := t1) (by omega), (s1.1.2.1 t1 s1.2.1).1]
      refine ⟨vp_in_nI (by omega) (by omega), fun _ => ?_, fun z => absurd ((nI_eq (b := 11) (by omega) (by omega)).mp z) k1⟩
      unfold lwE at eR
      refine P_sumEnd ho rl hJ hv a1 s1 l1 p1 (fun p hp h3 k3 s3 l3 => ?_) (fun e he h3 e3 => ?_)
      · rw [hp] at eR; exact hok (p.1, Ps ++ [p.2]) eR h3 k3 s3
      · rw [he] at eR; exact her e eR h3 e3
    · intro i40 e40
      rw [s1.2.2.2] at e40
      subst e40
      have kl1 := kdT_lt c n t1
      have tJ1 := s1.2.1
      rw [r7, nI_clamp (n := t1) (by omega), (s1.1.2.1 t1 s1.2.1).1]
      refine ⟨vp_in_nI (by omega) (by omega), fun z => absurd (by rw [k1]; rfl) z, fun _ => ?_⟩
      refine P_RdFail (k := 2) s1 (fun h2 f2 => ?_)
      have E2 := a1.erX ho (f2.er ho ⟨(by decide : ¬ (2 : Nat) = 0), (by decide : (2 : Nat) ≤ 9)⟩ s1 a1.2.2.2.2 a1.2.2.2.1.2.2.2.1)
      exact P_sumEndF ho rl E2 (fun h3 e3 => her (2, plT c n t1) eR h3 e3)
    · obtain ⟨f1, f2, f3, t1, f4, f5⟩ := e1.2.2.1
      intro i40 e40
      rw [f5] at e40
      subst e40
      exact ⟨vp_in_nI (by omega) (by omega), fun _ => P_sumEndF ho rl e1 (fun h3 e3 => her e eR h3 e3), fun _ => P_RdFailF e1.2.2.1.ne (P_sumEndF ho rl e1 (fun h3 e3 => her e eR h3 e3))⟩
  have loop : ∀ h1, (∃ t1, okW q o t1 [] h h1 ∧ RdS r h1 q c n J t1 ∧ R = lwL (kdT c n) (plT c n) (vaT c n) 4 t1 []) ∨ (∃ e : Nat × Nat, erW q o e.1 e.2 h h1 ∧ R = .error e) → ∃ n, lp (fun (K : Int32 × TH → Prop) (s : Int32 × TH) => DB_Rd_tellLaw_27 r (q + 1) o s.1 s.2 (fun y36 h37 => K (y36, h37)) (fun h38 => DJ_Rd_tellLaw_117 r (q + 1) o h38 Q) Q) n (0, h1) := by
    intro h1 st
    refine lp_for 4 (fun i s => ∃ h', s = (nI i, h') ∧ ((∃ t1 Ps, okW q o t1 Ps h h' ∧ RdS r h' q c n J t1 ∧ offs Ps Ps.length ≤ t1 ∧ Ps.length = 3 * i ∧ R = lwL (kdT c n) (plT c n) (vaT c n) (4 - i) t1 Ps) ∨ (∃ e : Nat × Nat, erW q o e.1 e.2 h h' ∧ R = .error e))) ?_ ?_ _ ⟨h1, rfl, ?_⟩
    · rintro i s' K hi ⟨h', rfl, st'⟩ hK
      unfold DB_Rd_tellLaw_27
      refine ⟨fun z => absurd ((nI_leI (a := 4) (by omega) (by omega)).mp z) (by omega), fun _ => ?_⟩
      have bad : ∀ (e : Nat × Nat) h2, erW q o e.1 e.2 h h2 → R = .error e → K (nI (i + 1), h2) := fun e h2 e2 eR => hK _ ⟨h2, rfl, Or.inr ⟨e, e2, eR⟩⟩
      rcases st' with ⟨t1, Ps, a1, s1, l1, p1, eR⟩ | ⟨e, e1, eR⟩
      · have kl1 := kdT_lt c n t1
        have tJ1 := s1.2.1
        rw [show 4 - i = (4 - (i + 1)) + 1 by omega] at eR
        unfold lwL at eR
        refine ⟨fun z => absurd s1.2.2.1 z, fun _ i13 e13 => ?_⟩
        rw [s1.2.2.2] at e13
        subst e13
        rw [r7, nI_clamp (n := t1) (by omega), (s1.1.2.1 t1 s1.2.1).1]
        refine ⟨vp_in_nI (by omega) (by omega), fun z => fin h' (Or.inl ⟨t1, Ps, a1, s1, l1, by omega, fun w => z (by rw [w]; rfl), ?_⟩), fun z => ?_⟩
        · rw [if_neg (fun w => z (by rw [w]; rfl))] at eR; exact eR
        · rw [if_pos ((nI_eq (b := 11) (by omega) (by omega)).mp z)] at eR
          have end7 : ∀ (e : Nat × Nat) h2, erW q o e.1 e.2 h h2 → R = .error e → D_Rd_need r (q + 1) 13 h2 (fun x34 h33 => ∀ x35 : Int32, x35 = nI i + 1 → K (x35, h33)) := fun e h2 e2 eR => P_needWF e2 (fun h3 e3 x35 e35 => by rw [nI_1] at e35; subst e35; exact bad e h3 e3 eR)
          have end6 : ∀ (e : Nat × Nat) h2, erW q o e.1 e.2 h h2 → R = .error e → SumN r 8 (q + 1) o 0 h2 (fun h29 => D_Law_endPiece r o h29 (fun h31 => D_Rd_need r (q + 1) 13 h31 (fun x34 h33 => ∀ x35 : Int32, x35 = nI i + 1 → K (x35, h33)))) := fun e h2 e2 eR => P_sumEndF ho rl e2 (fun h3 e3 => end7 e h3 e3 eR)
          have end5 : ∀ (e : Nat × Nat) h2, erW q o e.1 e.2 h h2 → R = .error e → D_Rd_need r (q + 1) 12 h2 (fun x28 h27 => SumN r 8 (q + 1) o 0 h27 (fun h29 => D_Law_endPiece r o h29 (fun h31 => D_Rd_need r (q + 1) 13 h31 (fun x34 h33 => ∀ x35 : Int32, x35 = nI i + 1 → K (x35, h33))))) := fun e h2 e2 eR => P_needWF e2 (fun h3 e3 => end6 e h3 e3 eR)
          have end4 : ∀ (e : Nat × Nat) h2, erW q o e.1 e.2 h h2 → R = .error e → SumN r 8 (q + 1) o 0 h2 (fun h23 => D_Law_endPiece r o h23 (fun h25 => D_Rd_need r (q + 1) 12 h25 (fun x28 h27 => SumN r 8 (q + 1) o 0 h27 (fun h29 => D_Law_endPiece r o h29 (fun h31 => D_Rd_need r (q + 1) 13 h31 (fun x34 h33 => ∀ x35 : Int32, x35 = nI i + 1 → K (x35, h33))))))) := fun e h2 e2 eR => P_sumEndF ho rl e2 (fun h3 e3 => end5 e h3 e3 eR)
          have end3 : ∀ (e : Nat × Nat) h2, erW q o e.1 e.2 h h2 → R = .error e → D_Rd_need r (q + 1) 29 h2 (fun x22 h21 => SumN r 8 (q + 1) o 0 h21 (fun h23 => D_Law_endPiece r o h23 (fun h25 => D_Rd_need r (q + 1) 12 h25 (fun x28 h27 => SumN r 8 (q + 1) o 0 h27 (fun h29 => D_Law_endPiece r o h29 (fun h31 => D_Rd_need r (q + 1) 13 h31 (fun x34 h33 => ∀ x35 : Int32, x35 = nI i + 1 → K (x35, h33)))))))) := fun e h2 e2 eR => P_needWF e2 (fun h3 e3 => end4 e h3 e3 eR)
          have end2 : ∀ (e : Nat × Nat) h2, erW q o e.1 e.2 h h2 → R = .error e → SumN r 8 (q + 1) o 0 h2 (fun h17 => D_Law_endPiece r o h17 (fun h19 => D_Rd_need r (q + 1) 29 h19 (fun x22 h21 => SumN r 8 (q + 1) o 0 h21 (fun h23 => D_Law_endPiece r o h23 (fun h25 => D_Rd_need r (q + 1) 12 h25 (fun x28 h27 => SumN r 8 (q + 1) o 0 h27 (fun h29 => D_Law_endPiece r o h29 (fun h31 => D_Rd_need r (q + 1) 13 h31 (fun x34 h33 => ∀ x35 : Int32, x35 = nI i + 1 → K (x35, h33)))))))))) := fun e h2 e2 eR => P_sumEndF ho rl e2 (fun h3 e3 => end3 e h3 e3 eR)
          refine P_needW (k := 11) ho hJ a1 s1 (by omega) (by omega) (fun t2 n2 h2 a2 s2 => ?_) (fun e he h2 e2 => end2 e h2 e2 (by rw [he] at eR; exact eR))
          rw [n2] at eR
          have q2 := needP_ok n2
          refine P_sumEnd ho rl hJ hv a2 s2 (by omega) (by omega) (fun pa ha h3 a3 s3 l3 => ?_) (fun e he h3 e3 => end3 e h3 e3 (by unfold bnd at eR; simp only [he] at eR; exact eR))
          replace eR : R = bnd (needP (kdT c n) (plT c n) 29 pa.1) (fun t3 => bnd (smQ (kdT c n) (plT c n) (vaT c n) t3) (fun b => bnd (needP (kdT c n) (plT c n) 12 b.1) (fun t5 => bnd (smQ (kdT c n) (plT c n) (vaT c n) t5) (fun d => bnd (needP (kdT c n) (plT c n) 13 d.1) (fun t7 => lwL (kdT c n) (plT c n) (vaT c n) (4 - (i + 1)) t7 (Ps ++ [pa.2] ++ [b.2] ++ [d.2])))))) := by rw [eR]; show bnd (smQ _ _ _ t2) _ = _; rw [ha]; rfl
          refine P_needW (k := 29) ho hJ a3 s3 (by omega) (by omega) (fun t4 n4 h4 a4 s4 => ?_) (fun e he h4 e4 => end4 e h4 e4 (by rw [he] at eR; exact eR))
          rw [n4] at eR
          have q4 := needP_ok n4
          refine P_sumEnd ho rl hJ hv a4 s4 (by omega) (by simp; omega) (fun pb hb h5 a5 s5 l5 => ?_) (fun e he h5 e5 => end5 e h5 e5 (by rw [eR]; show bnd (smQ _ _ _ t4) _ = _; rw [he]; rfl))
          replace eR : R = bnd (needP (kdT c n) (plT c n) 12 pb.1) (fun t5 => bnd (smQ (kdT c n) (plT c n) (vaT c n) t5) (fun d => bnd (needP (kdT c n) (plT c n) 13 d.1) (fun t7 => lwL (kdT c n) (plT c n) (vaT c n) (4 - (i + 1)) t7 (Ps ++ [pa.2] ++ [pb.2] ++ [d.2])))) := by rw [eR]; show bnd (smQ _ _ _ t4) _ = _; rw [hb]; rfl
          refine P_needW (k := 12) ho hJ a5 s5 (by omega) (by omega) (fun t6 n6 h6 a6 s6 => ?_) (fun e he h6 e6 => end6 e h6 e6 (by rw [he] at eR; exact eR))
          rw [n6] at eR
          have q6 := needP_ok n6
          refine P_sumEnd ho rl hJ hv a6 s6 (by omega) (by simp; omega) (fun pd hd h7 a7 s7 l7 => ?_) (fun e he h7 e7 => end7 e h7 e7 (by rw [eR]; show bnd (smQ _ _ _ t6) _ = _; rw [he]; rfl))
          replace eR : R = bnd (needP (kdT c n) (plT c n) 13 pd.1) (fun t7 => lwL (kdT c n) (plT c n) (vaT c n) (4 - (i + 1)) t7 (Ps ++ [pa.2] ++ [pb.2] ++ [pd.2])) := by rw [eR]; show bnd (smQ _ _ _ t6) _ = _; rw [hd]; rfl
          refine P_needW (k := 13) ho hJ a7 s7 (by omega) (by omega) (fun t8 n8 h8 a8 s8 x35 e35 => ?_) (fun e he h8 e8 x35 e35 => ?_)
          · rw [n8] at eR
            have q8 := needP_ok n8
            rw [nI_1] at e35; subst e35
            exact hK _ ⟨h8, rfl, Or.inl ⟨t8, _, a8, s8, by omega, by simp; omega, eR⟩⟩
          · rw [he] at eR
            rw [nI_1] at e35; subst e35
            exact bad e h8 e8 eR
      · exact ⟨fun _ => fin h' (Or.inr (Or.inr ⟨e, e1, eR⟩)), fun z => absurd z e1.2.2.1.ne⟩
    · rintro s' K ⟨h', rfl, st'⟩
      unfold DB_Rd_tellLaw_27
      refine ⟨fun _ => fin h' ?_, fun z => absurd (show (4 : Int32) ≤ nI 4 from Int32.le_refl _) z⟩
      rcases st' with ⟨t1, Ps, a1, s1, l1, p1, eR⟩ | ⟨e, e1, eR⟩
      · rw [show 4 - 4 = 0 from rfl] at eR
        unfold lwL at eR
        by_cases k11 : kdT c n t1 = 11
        · rw [if_pos k11] at eR; exact Or.inr (Or.inl ⟨t1, Ps, a1, s1, k11, eR⟩)
        · rw [if_neg k11] at eR; exact Or.inl ⟨t1, Ps, a1, s1, l1, by omega, k11, eR⟩
      · exact Or.inr (Or.inr ⟨e, e1, eR⟩)
    · rcases st with ⟨t1, a1, s1, eR⟩ | ⟨e, e1, eR⟩
      · exact Or.inl ⟨t1, [], a1, s1, Nat.zero_le _, rfl, eR⟩
      · exact Or.inr ⟨e, e1, eR⟩
  have clr : ∀ h1, (∃ t1 Ps, okW q o t1 Ps h h1 ∧ RdS r h1 q c n J t1 ∧ R = lwL (kdT c n) (plT c n) (vaT c n) 4 t1 []) ∨ (∃ e : Nat × Nat, erW q o e.1 e.2 h h1 ∧ R = .error e) → D_Law_clear r o h1 (fun h7 => ∃ n, lp (fun (K : Int32 × TH → Prop) (s : Int32 × TH) => DB_Rd_tellLaw_27 r (q + 1) o s.1 s.2 (fun y36 h37 => K (y36, h37)) (fun h38 => DJ_Rd_tellLaw_117 r (q + 1) o h38 Q) Q) n (0, h7)) := by
    intro h1 st
    unfold D_Law_clear
    intro g1 e1 g2 e2
    have q1 : g2.1 (q + 1) = h1.1 (q + 1) := by rw [e2, pI_o _ _ _ _ (by omega), e1, pI_o _ _ _ _ (by omega)]
    have F : Fr (fun a => a = q + 1 ∨ a = o ∨ a = o + 2 ∨ a = o + 3) h1 g2 := by rw [e2, e1]; exact (Fr.pI (Or.inr (Or.inl rfl))).tr (Fr.pI (Or.inr (Or.inl rfl)))
    have z4 : g2.1 o 4 = nI 0 := by rw [e2, pI_n _ _ _ _ (by omega), e1, pI_s]; rfl
    have z5 : g2.1 o 5 = nI 0 := by rw [e2, pI_s]; rfl
    refine loop g2 ?_
    rcases st with ⟨t1, Ps, a1, s1, eR⟩ | ⟨e, b1, eR⟩
    · refine Or.inl ⟨t1, ⟨a1.1.tr F, fun x hx => by rw [q1]; exact a1.2.1 x hx, by rw [q1]; exact a1.2.2.1, ⟨z5, by show (0 : Nat) ≤ 13; omega, fun p hp => absurd hp (Nat.not_lt_zero _), by show (0 : Nat) ≤ 400; omega, fun p hp => absurd hp (Nat.not_lt_zero _), fun p hp => absurd hp (Nat.not_lt_zero _)⟩, z4⟩, ⟨s1.1.mv (fun x y z => (F x (by omega)).1), s1.2.1, by rw [q1]; exact s1.2.2.1, by rw [q1]; exact s1.2.2.2⟩, eR⟩
    · obtain ⟨c1, c2, ⟨c3, c4, c5, t1, c6, c7⟩, -, -⟩ := b1
      exact Or.inr ⟨e, ⟨c1.tr F, fun x x1 x2 x3 => by rw [q1]; exact c2 x x1 x2 x3, ⟨c3, by rw [q1]; exact c4, by rw [q1]; exact c5, t1, c6, by rw [q1]; exact c7⟩, ⟨0, by omega, z4⟩, 0, by omega, z5⟩, eR⟩
  refine P_needW ho hJ a0 s hk kl (fun t1 n1 h1 a1 s1 => ?_) (fun e he h1 e1 => P_needWF e1 (fun h2 e2 => clr h2 (Or.inr ⟨e, e2, by rw [he] at hL; exact hL.symm⟩)))
  rw [n1] at hL
  refine P_needW (k := 24) ho hJ a1 s1 (by omega) (by omega) (fun t2 n2 h2 a2 s2 => clr h2 (Or.inl ⟨t2, P0, a2, s2, ?_⟩)) (fun e he h2 e2 => clr h2 (Or.inr ⟨e, e2, ?_⟩))
  · rw [← hL]; show bnd (needP _ _ 24 t1) _ = _; rw [n2]; rfl
  · rw [← hL]; show bnd (needP _ _ 24 t1) _ = _; rw [he]; rfl
