/-! what a text tells: the pure draft, and the class's side of rows, boats, numbers -/
abbrev PSt : Type := By × (Nat → List Nat) × Option (Nat × Nat)
abbrev dB (P : PSt) : By := P.1
abbrev dM (P : PSt) : Nat → List Nat := P.2.1
abbrev dF (P : PSt) : Option (Nat × Nat) := P.2.2
def addF (bad : Bool) (k p : Nat) (fl : Option (Nat × Nat)) : Option (Nat × Nat) := match fl with
  | some x => some x
  | none => if bad = true then some (k, p) else none
def draft0 : PSt := ((0, 0, 0, 0, 0, (fun _ => 3), (fun _ => 0), (fun _ => 0), (fun _ => 0), (fun _ => 0), [[0]], [[1]], [[1]]), (fun _ => []), none)
def lkd (x : Nat) : Nat := if x = 15 then 0 else if x = 18 then 1 else 2
def lok (x : Nat) : Bool := (x == 15) || ((x == 18) || (x == 13))
def rowW (ls : List Nat) (B : By) : Nat := if bH B = 0 then ls.length else bW B
def rowOk (ls : List Nat) (B : By) : Bool := decide (ls.length = rowW ls B) && !exF (fun i => !lok (ls.getD i 0)) ls.length
def rowS (ls : List Nat) (p : Nat) (P : PSt) : PSt := ((rowW ls (dB P), bH (dB P) + 1, bN (dB P), bCo (dB P), bSe (dB P), (fun c => if c / 8 = bH (dB P) ∧ c % 8 < ls.length then lkd (ls.getD (c % 8) 0) else bK (dB P) c), bX (dB P), bY (dB P), bS (dB P), bNo (dB P), bPW (dB P), bPS (dB P), bPL (dB P)), dM P, addF (!rowOk ls (dB P)) 6 p (dF P))
def upN (f : Nat → Nat) (k v : Nat) : Nat → Nat := fun i => if i = k then v else f i
def boatS (ls : List Nat) (p : Nat) (x y s o px py ps po : Nat) (P : PSt) : PSt := ((bW (dB P), bH (dB P), bN (dB P) + 1, bCo (dB P), bSe (dB P), bK (dB P), upN (bX (dB P)) (bN (dB P)) x, upN (bY (dB P)) (bN (dB P)) y, upN (bS (dB P)) (bN (dB P)) s, upN (bNo (dB P)) (bN (dB P)) o, bPW (dB P), bPS (dB P), bPL (dB P)), (fun i => if i = bN (dB P) then ls else dM P i), addF (decide (9 < o)) 5 po (addF (decide (9 < s)) 5 ps (addF (decide (9 < y)) 5 py (addF (decide (9 < x)) 5 px (addF (exF (fun i => decide (dM P i = ls)) (bN (dB P))) 3 p (dF P))))))
def coldS (v p : Nat) (P : PSt) : PSt := ((bW (dB P), bH (dB P), bN (dB P), v, bSe (dB P), bK (dB P), bX (dB P), bY (dB P), bS (dB P), bNo (dB P), bPW (dB P), bPS (dB P), bPL (dB P)), dM P, addF (decide (100 < v)) 5 p (dF P))
def seedS (v : Nat) (P : PSt) : PSt := ((bW (dB P), bH (dB P), bN (dB P), bCo (dB P), v, bK (dB P), bX (dB P), bY (dB P), bS (dB P), bNo (dB P), bPW (dB P), bPS (dB P), bPL (dB P)), dM P, dF P)
def lawS (k : Nat) (Ps : List (List Nat)) (P : PSt) : PSt := ((bW (dB P), bH (dB P), bN (dB P), bCo (dB P), bSe (dB P), bK (dB P), bX (dB P), bY (dB P), bS (dB P), bNo (dB P), (if k = 0 then Ps else bPW (dB P)), (if k = 1 then Ps else bPS (dB P)), (if k = 2 then Ps else bPL (dB P))), dM P, dF P)
def rowP (kd pl : Nat → Nat) (nm : Nat → List Nat) (t : Nat) (P : PSt) : Except (Nat × Nat) (Nat × PSt) := if bH (dB P) < 5 then bnd (needP kd pl 4 t) (fun t1 => bnd (needP kd pl 2 t1) (fun t2 => .ok (t2, rowS (nm t1) (pl t1) P))) else .error (2, pl t)
def boatP (kd pl va : Nat → Nat) (nm : Nat → List Nat) (t : Nat) (P : PSt) : Except (Nat × Nat) (Nat × PSt) := if bN (dB P) < 6 then bnd (needP kd pl 5 t) (fun t1 => bnd (needP kd pl 2 t1) (fun t2 => bnd (needP kd pl 3 t2) (fun t3 => bnd (needP kd pl 3 t3) (fun t4 => bnd (needP kd pl 3 t4) (fun t5 => bnd (needP kd pl 3 t5) (fun t6 => .ok (t6, boatS (nm t1) (pl t1) (va t2) (va t3) (va t4) (va t5) (pl t2) (pl t3) (pl t4) (pl t5) P))))))) else .error (2, pl t)
def tellB (kd pl va : Nat → Nat) (nm : Nat → List Nat) (t : Nat) (P : PSt) : Except (Nat × Nat) (Nat × PSt) :=
  if kd t = 4 then rowP kd pl nm t P else if kd t = 5 then boatP kd pl va nm t P else if kd t = 6 ∨ kd t = 7 ∨ kd t = 8 then bnd (lawP kd pl va t) (fun p => .ok (p.1, lawS (kd t - 6) p.2 P)) else if kd t = 9 then bnd (needP kd pl 9 t) (fun t1 => bnd (needP kd pl 3 t1) (fun t2 => .ok (t2, coldS (va t1) (pl t1) P))) else if kd t = 10 then bnd (needP kd pl 10 t) (fun t1 => bnd (needP kd pl 3 t1) (fun t2 => .ok (t2, seedS (va t1) P))) else .error (1, pl t)
def tellP (kd pl va : Nat → Nat) (nm : Nat → List Nat) (t : Nat) (P : PSt) : Except (Nat × Nat) (Nat × PSt) := bnd (tellB kd pl va nm t P) (fun p => bnd (needP kd pl 23 p.1) (fun t' => .ok (t', p.2)))
/-- the class's draft -/
def FlX (h : TH) (q : Nat) (fl : Option (Nat × Nat)) : Prop := (fl = none → h.1 (q + 1) 5 = 0 ∧ h.1 (q + 1) 6 = -1) ∧ ∀ k p, fl = some (k, p) → (¬ k = 0 ∧ k ≤ 9) ∧ h.1 (q + 1) 5 = nI k ∧ h.1 (q + 1) 6 = nI p
def DXb (h : TH) (d : Nat) (P : PSt) : Prop := (h.1 d 0 = nI (bW (dB P)) ∧ bW (dB P) ≤ 8) ∧ (h.1 d 1 = nI (bH (dB P)) ∧ bH (dB P) ≤ 5) ∧ (h.1 d 2 = nI (bN (dB P)) ∧ bN (dB P) ≤ 6) ∧ h.1 d 3 = nI (bCo (dB P)) ∧ h.1 d 4 = nI (bSe (dB P)) ∧ (∀ k, k < bN (dB P) → h.1 (d + 4) k = nI (bX (dB P) k) ∧ h.1 (d + 5) k = nI (bY (dB P) k) ∧ h.1 (d + 6) k = nI (bS (dB P) k) ∧ h.1 (d + 7) k = nI (bNo (dB P) k) ∧ h.2 (d + 3) k = lN (bse 32 (dM P k)) ∧ bX (dB P) k ≤ 9999 ∧ bY (dB P) k ≤ 9999 ∧ (dM P k).length ≤ 8 ∧ ltL (dM P k)) ∧ (dF P = none → ∀ c, c < 40 → h.1 (d + 1) c = nI (bK (dB P) c))
def DXl (h : TH) (d : Nat) (P : PSt) : Prop := LW h (d + 8) (bPW (dB P)) ∧ LW h (d + 13) (bPS (dB P)) ∧ LW h (d + 18) (bPL (dB P))
def DX (h : TH) (q d : Nat) (P : PSt) : Prop := DXb h d P ∧ DXl h d P ∧ FlX h q (dF P)
/-- writes of a reading -/
def PX (q d : Nat) (h h' : TH) : Prop := Fr (fun a => a = q + 1 ∨ (d ≤ a ∧ a < d + 23)) h h' ∧ (∀ x, ¬ x = 3 → ¬ x = 4 → ¬ x = 5 → ¬ x = 6 → ¬ x = 10 → h'.1 (q + 1) x = h.1 (q + 1) x) ∧ h'.1 (d + 9) = h.1 (d + 9) ∧ h'.1 (d + 14) = h.1 (d + 14) ∧ h'.1 (d + 19) = h.1 (d + 19)
theorem PX.rf {q d : Nat} {h : TH} : PX q d h h := ⟨Fr.rf, fun _ _ _ _ _ _ => rfl, rfl, rfl, rfl⟩
theorem PX.tr {q d : Nat} {h h1 h2 : TH} (a : PX q d h h1) (b : PX q d h1 h2) : PX q d h h2 := ⟨a.1.tr b.1, fun x x1 x2 x3 x4 x5 => (b.2.1 x x1 x2 x3 x4 x5).trans (a.2.1 x x1 x2 x3 x4 x5), b.2.2.1.trans a.2.2.1, b.2.2.2.1.trans a.2.2.2.1, b.2.2.2.2.trans a.2.2.2.2⟩
def apd (q d : Nat) : Prop := d = q + 3 ∨ d = q + 29
theorem PX.fd {q d j : Nat} {h : TH} {v : Int32} (ha : apd q d) (hj : j = 3 ∨ j = 4 ∨ j = 5 ∨ j = 6 ∨ j = 10) : PX q d h (pI h (q + 1) j v) := by
  unfold apd at ha
  exact ⟨Fr.pI (Or.inl rfl), fun x _ _ _ _ _ => pI_n _ _ _ _ (by omega), pI_o _ _ _ _ (by omega), pI_o _ _ _ _ (by omega), pI_o _ _ _ _ (by omega)⟩
theorem PX.dr {q d a j : Nat} {h : TH} {v : Int32} (ha : apd q d) (hj : d ≤ a ∧ a < d + 23 ∧ ¬ a = d + 9 ∧ ¬ a = d + 14 ∧ ¬ a = d + 19) : PX q d h (pI h a j v) := by
  unfold apd at ha
  exact ⟨Fr.pI (Or.inr (by omega)), fun x _ _ _ _ _ => by rw [pI_o _ _ _ _ (by omega)], pI_o _ _ _ _ (by omega), pI_o _ _ _ _ (by omega), pI_o _ _ _ _ (by omega)⟩
theorem PX.T {r : TR} {q d n J : Nat} {c : Nat → Nat} {h h' : TH} (ha : apd q d) (p : PX q d h h') (s : RdT r h q c n J) : RdT r h' q c n J := s.mv (fun a x y => (p.1 a (by unfold apd at ha; omega)).1)
theorem PX.tp {r : TR} {q d n : Nat} {f : Nat → Int32} {h h' : TH} (ha : apd q d) (p : PX q d h h') (t : TpX r h q n f) : TpX r h' q n f := t.mv (p.2.1 1 (by omega) (by omega) (by omega) (by omega) (by omega)) ((p.1 _ (by unfold apd at ha; omega)).1)
theorem FlX.mv {h h' : TH} {q : Nat} {fl : Option (Nat × Nat)} (e5 : h'.1 (q + 1) 5 = h.1 (q + 1) 5) (e6 : h'.1 (q + 1) 6 = h.1 (q + 1) 6) (g : FlX h q fl) : FlX h' q fl := ⟨fun w => by rw [e5, e6]; exact g.1 w, fun k p w => by rw [e5, e6]; exact g.2 k p w⟩
theorem DXb.mv {h h' : TH} {d : Nat} {P : PSt} (e : ∀ a, d ≤ a → a < d + 8 → h'.1 a = h.1 a ∧ h'.2 a = h.2 a) (g : DXb h d P) : DXb h' d P := by
  unfold DXb
  rw [(e d (by omega) (by omega)).1, (e (d + 1) (by omega) (by omega)).1, (e (d + 4) (by omega) (by omega)).1, (e (d + 5) (by omega) (by omega)).1, (e (d + 6) (by omega) (by omega)).1, (e (d + 7) (by omega) (by omega)).1, (e (d + 3) (by omega) (by omega)).2]
  exact g
theorem DXl.mv {h h' : TH} {d : Nat} {P : PSt} (e : ∀ a, d + 8 ≤ a → a < d + 23 → h'.1 a = h.1 a) (g : DXl h d P) : DXl h' d P := ⟨g.1.mv (e _ (by omega) (by omega)) (e _ (by omega) (by omega)) (e _ (by omega) (by omega)), g.2.1.mv (e _ (by omega) (by omega)) (e _ (by omega) (by omega)) (e _ (by omega) (by omega)), g.2.2.mv (e _ (by omega) (by omega)) (e _ (by omega) (by omega)) (e _ (by omega) (by omega))⟩
theorem DX.fd {h : TH} {q d j : Nat} {P : PSt} {v : Int32} (ha : apd q d) (hj : ¬ j = 5 ∧ ¬ j = 6) (g : DX h q d P) : DX (pI h (q + 1) j v) q d P := by
  unfold apd at ha
  exact ⟨g.1.mv (fun a x y => by rw [pI_o _ _ _ _ (by omega), pI_l]; exact ⟨rfl, rfl⟩), g.2.1.mv (fun a x y => by rw [pI_o _ _ _ _ (by omega)]), g.2.2.mv (pI_n _ _ _ _ (by omega)) (pI_n _ _ _ _ (by omega))⟩
/-- sizes alone, as they stay behind a fault -/
def DXs (h : TH) (d : Nat) : Prop := ∃ W H N, h.1 d 0 = nI W ∧ W ≤ 8 ∧ h.1 d 1 = nI H ∧ H ≤ 5 ∧ h.1 d 2 = nI N ∧ N ≤ 6
theorem DXb.s {h : TH} {d : Nat} {P : PSt} (g : DXb h d P) : DXs h d := ⟨_, _, _, g.1.1, g.1.2, g.2.1.1, g.2.1.2, g.2.2.1.1, g.2.2.1.2⟩
def erD (q d : Nat) (e : Nat × Nat) (h h' : TH) : Prop := PX q d h h' ∧ RdF h' q e.1 e.2 ∧ DXs h' d
theorem P_addFlaw {r : TR} {h : TH} {q k p : Nat} {fl : Option (Nat × Nat)} {Q : TH → Prop} (hk : ¬ k = 0 ∧ k ≤ 9) (g : FlX h q fl) (hQ : ∀ h', (h' = h ∨ h' = pI (pI h (q + 1) 5 (nI k)) (q + 1) 6 (nI p)) → FlX h' q (addF true k p fl) → Q h') : D_Rd_addFlaw r (q + 1) (nI k) (nI p) h Q := by
  unfold D_Rd_addFlaw
  cases fl with
  | none =>
    refine ⟨fun z => absurd (g.1 rfl).1 z, fun _ h2 e2 h3 e3 => hQ h3 (Or.inr (by rw [e3, e2])) ⟨fun w => (by cases w), fun k' p' w => ?_⟩⟩
    have w' : (k, p) = (k', p') := by have : some (k, p) = some (k', p') := w; exact Option.some.inj this
    cases w'
    exact ⟨hk, by rw [e3, pI_n _ _ _ _ (by omega), e2, pI_s], by rw [e3, pI_s]⟩
  | some x =>
    have gx := g.2 x.1 x.2 rfl
    refine ⟨fun _ => hQ h (Or.inl rfl) g, fun z => absurd z (by rw [gx.2.1]; exact nI_ne0 (by omega) (by omega))⟩
/-- behind a fault flaws may come, and mean nothing -/
theorem P_addFlawF {r : TR} {h : TH} {q d : Nat} {e : Nat × Nat} {h0 : TH} {k p : Int32} {Q : TH → Prop} (ha : apd q d) (g : erD q d e h0 h) (hQ : ∀ h', erD q d e h0 h' → Q h') : D_Rd_addFlaw r (q + 1) k p h Q := by
  have ha' := ha
  unfold apd at ha'
  unfold D_Rd_addFlaw
  refine ⟨fun _ => hQ h g, fun _ h2 e2 h3 e3 => hQ h3 ⟨g.1.tr (by rw [e3, e2]; exact (PX.fd ha (by omega)).tr (PX.fd ha (by omega))), ?_, ?_⟩⟩
  · obtain ⟨f1, f2, f3, t, f4, f5⟩ := g.2.1
    exact ⟨f1, by rw [e3, pI_n _ _ _ _ (by omega), e2, pI_n _ _ _ _ (by omega)]; exact f2, by rw [e3, pI_n _ _ _ _ (by omega), e2, pI_n _ _ _ _ (by omega)]; exact f3, t, f4, by rw [e3, pI_n _ _ _ _ (by omega), e2, pI_n _ _ _ _ (by omega)]; exact f5⟩
  · obtain ⟨W, H, N, s1, s2, s3, s4, s5, s6⟩ := g.2.2
    exact ⟨W, H, N, by rw [e3, pI_o _ _ _ _ (by omega), e2, pI_o _ _ _ _ (by omega)]; exact s1, s2, by rw [e3, pI_o _ _ _ _ (by omega), e2, pI_o _ _ _ _ (by omega)]; exact s3, s4, by rw [e3, pI_o _ _ _ _ (by omega), e2, pI_o _ _ _ _ (by omega)]; exact s5, s6⟩
/-- a state of the class's reading -/
def RD (r : TR) (h0 h : TH) (q d : Nat) (c : Nat → Nat) (n J t : Nat) (P : PSt) : Prop := RdS r h q c n J t ∧ PX q d h0 h ∧ DX h q d P
theorem P_needD {r : TR} {h0 h : TH} {q d n J t k : Nat} {c : Nat → Nat} {P : PSt} {Q : Int32 → TH → Prop} (ha : apd q d) (hJ : Jok (kdT c n) J) (s : RD r h0 h q d c n J t P) (hk : 2 ≤ k) (hk2 : k ≤ 31) (hok : ∀ t', needP (kdT c n) (plT c n) k t = .ok t' → ∀ h', h' = pI h (q + 1) 10 (nI t') → RD r h0 h' q d c n J t' P → Q 1 h') (her : ∀ e, needP (kdT c n) (plT c n) k t = .error e → ∀ h', erD q d e h0 h' → (∀ a, ¬ a = q + 1 → h'.1 a = h.1 a) → Q 0 h') : D_Rd_need r (q + 1) (nI k) h Q := by
  have ha' := ha
  unfold apd at ha'
  obtain ⟨s1, s2, s3⟩ := s
  refine P_need s1 hk2 (fun t' hn => ?_) (fun e hn he h' f => ?_)
  · obtain ⟨a1, a2, rfl⟩ := needP_ok hn
    refine hok _ hn _ rfl ⟨⟨(PX.fd ha (by omega)).T ha s1.1, hJ.2 t s1.2.1 (by omega) a2, by rw [pI_n _ _ _ _ (by omega)]; exact s1.2.2.1, pI_s _ _ _ _⟩, s2.tr (PX.fd ha (by omega)), s3.fd ha ⟨by omega, by omega⟩⟩
  · have F := f.F he (by have := s1.1.2.2.1; have := s1.2.1; omega) s1.2.2.2
    unfold Fault at f
    refine her e hn h' ⟨s2.tr (by rw [f]; exact (PX.fd ha (by omega)).tr (PX.fd ha (by omega))), F, ?_⟩ (fun a hx => by rw [f, pI_o _ _ _ _ hx, pI_o _ _ _ _ hx])
    rw [f]
    exact ((s3.fd ha ⟨by omega, by omega⟩).fd ha ⟨by omega, by omega⟩).1.s
theorem P_number {r : TR} {h0 h : TH} {q d n J t mx : Nat} {c : Nat → Nat} {P : PSt} {Q : Int32 → TH → Prop} (ha : apd q d) (hJ : Jok (kdT c n) J) (hv : ∀ t, kdT c n t = 3 → vaT c n t ≤ 9999) (s : RD r h0 h q d c n J t P) (hm : mx ≤ 9999) (hok : ∀ t', needP (kdT c n) (plT c n) 3 t = .ok t' → ∀ h', RD r h0 h' q d c n J t' (dB P, dM P, addF (decide (mx < vaT c n t)) 5 (plT c n t) (dF P)) → vaT c n t ≤ 9999 → Q (nI (vaT c n t)) h') (her : ∀ e, needP (kdT c n) (plT c n) 3 t = .error e → ∀ h', erD q d e h0 h' → (∀ a, ¬ a = q + 1 → h'.1 a = h.1 a) → Q 0 h') : D_Rd_number r (q + 1) (nI mx) h Q := by
  have ha' := ha
  unfold apd at ha'
  have tJ := s.1.2.1
  have j4 := hJ.1
  have pl := (posT_le (c := c) (n := n) t).2
  have n2 := s.1.1.2.2.2
  unfold D_Rd_number
  intro x1 e1
  rw [s.1.2.2.2] at e1
  subst e1
  refine P_needD (k := 3) ha hJ s (by omega) (by omega) (fun t' hn h' e' s' => ⟨fun _ => ?_, fun z => absurd z z01⟩) (fun e he h' e' w' => ⟨fun z => absurd rfl z, fun _ => her e he h' e' w'⟩)
  obtain ⟨a1, a2, -⟩ := needP_ok hn
  have v9 := hv t a1
  obtain ⟨⟨r7, r8, r9⟩, tk, -, -⟩ := s'.1.1
  obtain ⟨u1, u2, u3⟩ := tk t tJ
  rw [r8, r9, nI_clamp (n := t) (by omega), u3 (by omega) (by omega), u2]
  refine ⟨vp_in_nI (by omega) (by omega), fun z => ⟨vp_in_nI (by omega) (by omega), hok t' hn h' ?_ v9⟩, fun z => ⟨vp_in_nI (by omega) (by omega), ?_⟩⟩
  · have z' := (nI_leI (by omega) (by omega)).mp z
    have ef : addF (decide (mx < vaT c n t)) 5 (plT c n t) (dF P) = dF P := by
      rw [decide_eq_false (by omega)]
      cases dF P <;> rfl
    rw [ef]; exact s'
  · have z' : mx < vaT c n t := by
      rcases Nat.lt_or_ge mx (vaT c n t) with w | w
      · exact w
      · exact absurd (nI_le w (by omega)) z
    refine P_addFlaw (k := 5) ⟨by omega, by omega⟩ s'.2.2.2.2 (fun h2 w2 F2 => ?_)
    have X2 : PX q d h' h2 := by
      rcases w2 with w | w
      · rw [w]; exact PX.rf
      · rw [w]; exact (PX.fd ha (by omega)).tr (PX.fd ha (by omega))
    have e2 : ∀ a, ¬ a = q + 1 → h2.1 a = h'.1 a ∧ h2.2 a = h'.2 a := fun a hx => by
      rcases w2 with w | w
      · rw [w]; exact ⟨rfl, rfl⟩
      · rw [w, pI_o _ _ _ _ hx, pI_o _ _ _ _ hx, pI_l, pI_l]; exact ⟨rfl, rfl⟩
    have k2 : ∀ x, ¬ x = 5 → ¬ x = 6 → h2.1 (q + 1) x = h'.1 (q + 1) x := fun x x1 x2 => by
      rcases w2 with w | w
      · rw [w]
      · rw [w, pI_n _ _ _ _ (by omega), pI_n _ _ _ _ (by omega)]
    rw [(e2 (q + 28) (by omega)).1, u3 (by omega) (by omega)]
    refine ⟨vp_in_nI (by omega) (by omega), hok t' hn h2 ⟨⟨X2.T ha s'.1.1, s'.1.2.1, by rw [k2 4 (by omega) (by omega)]; exact s'.1.2.2.1, by rw [k2 10 (by omega) (by omega)]; exact s'.1.2.2.2⟩, s'.2.1.tr X2, ?_, s'.2.2.2.1.mv (fun a x y => (e2 a (by omega)).1), ?_⟩ v9⟩
    · rw [decide_eq_true z']
      have b := s'.2.2.1.mv (h' := h2) (fun a x y => e2 a (by omega))
      exact ⟨b.1, b.2.1, b.2.2.1, b.2.2.2.1, b.2.2.2.2.1, b.2.2.2.2.2.1, fun w => b.2.2.2.2.2.2 (by
        cases hf : dF P with
        | none => rfl
        | some x => rw [hf] at w; cases w)⟩
    · rw [decide_eq_true z']; exact F2
theorem P_numberF {r : TR} {h0 h : TH} {q d : Nat} {e : Nat × Nat} {v : Int32} {Q : Int32 → TH → Prop} (g : erD q d e h0 h) (hQ : Q 0 h) : D_Rd_number r (q + 1) v h Q := by
  unfold D_Rd_number
  intro x1 e1
  exact P_needF g.2.1.ne ⟨fun z => absurd rfl z, fun _ => hQ⟩
