/-! read: the class's side -/
theorem BScr.eq {b : Nat} {h h' : TH} (e : ∀ a, b ≤ a → a < b + 23 → h'.1 a = h.1 a) : BScr b h h' := by
  have e8 := e (b + 8) (by omega) (by omega)
  have e13 := e (b + 13) (by omega) (by omega)
  have e18 := e (b + 18) (by omega) (by omega)
  have e9 := e (b + 9) (by omega) (by omega)
  have e19 := e (b + 19) (by omega) (by omega)
  unfold BScr
  rw [e8, e13, e18, e9, e19]
  exact ⟨fun a x y _ => e a x y, fun _ _ => ⟨rfl, rfl, rfl⟩, fun _ _ _ => rfl, rfl, rfl, rfl, rfl⟩
theorem LawOK.mv0 {h h' : TH} {o : Nat} {Ps : List (List Nat)} (e : h'.1 o = h.1 o) (e2 : h'.1 (o + 2) = h.1 (o + 2)) (e3 : h'.1 (o + 3) = h.1 (o + 3)) (w : LawOK h o Ps) : LawOK h' o Ps := by
  unfold LawOK
  rw [e, e2, e3]; exact w
theorem BayOK.mv0 {h h' : TH} {b : Nat} {B : By} (e : ∀ a, b ≤ a → a < b + 23 → ¬ a = b + 2 → h'.1 a = h.1 a) (g : BayOK h b B) : BayOK h' b B := by
  obtain ⟨g1, g2, g3, g4, g5, g6, g7, g8, g9, g10, g11, g12⟩ := g
  have eb := e b (by omega) (by omega) (by omega)
  refine ⟨by rw [eb]; exact g1, by rw [eb]; exact g2, by rw [eb]; exact g3, by rw [eb]; exact g4, by rw [eb]; exact g5, by rw [e (b + 1) (by omega) (by omega) (by omega)]; exact g6, by rw [e (b + 4) (by omega) (by omega) (by omega), e (b + 5) (by omega) (by omega) (by omega), e (b + 6) (by omega) (by omega) (by omega), e (b + 7) (by omega) (by omega) (by omega)]; exact g7, g8.mv0 (e _ (by omega) (by omega) (by omega)) (e _ (by omega) (by omega) (by omega)) (e _ (by omega) (by omega) (by omega)), g9.mv0 (e _ (by omega) (by omega) (by omega)) (e _ (by omega) (by omega) (by omega)) (e _ (by omega) (by omega) (by omega)), g10.mv0 (e _ (by omega) (by omega) (by omega)) (e _ (by omega) (by omega) (by omega)) (e _ (by omega) (by omega) (by omega)), by rw [e (b + 9) (by omega) (by omega) (by omega)]; exact g11, by rw [e (b + 19) (by omega) (by omega) (by omega)]; exact g12⟩
theorem PV.bay {P : PSt} (pv : PV P) (hf : dF P = none) (ha : aflB (dB P) = true) : ByB (dB P) ∧ afl (dB P) := by
  obtain ⟨⟨g1, g2, g3, g4, g5, g6, g7, g8⟩, g9⟩ := pv
  obtain ⟨a1, a2, a3⟩ := g9 hf
  have fl : ∀ k, k < bN (dB P) → bX (dB P) k < bW (dB P) ∧ bY (dB P) k < bH (dB P) ∧ ¬ bK (dB P) (8 * bY (dB P) k + bX (dB P) k) = 1 := by
    intro k hk
    unfold aflB at ha
    rw [Bool.not_eq_true'] at ha
    have z := exF_f ha hk
    rw [Bool.not_eq_false', Bool.and_eq_true, Bool.and_eq_true, Bool.not_eq_true', decide_eq_true_iff, decide_eq_true_iff, decide_eq_false_iff_not] at z
    exact ⟨z.1, z.2.1, z.2.2⟩
  refine ⟨⟨g1, g2, g3, a1, g4, fun c _ => a2 c, fun k hk => ⟨(fl k hk).1, (fl k hk).2.1, a3 k hk⟩, g5, g6, g7⟩, fun k hk => (fl k hk).2.2⟩
theorem DX.bay {h : TH} {q d : Nat} {P : PSt} (g : DX h q d P) (hf : dF P = none) (z : Zs h d) : BayOK h d (dB P) := by
  obtain ⟨⟨g1, g2, g3, g4, g5, g6, g7⟩, ⟨l1, l2, l3⟩, -⟩ := g
  exact ⟨g1.1, g2.1, g3.1, g4, g5, g7 hf, fun k hk => ⟨(g6 k hk).1, (g6 k hk).2.1, (g6 k hk).2.2.1, (g6 k hk).2.2.2.1⟩, l1.1, l2.1, l3.1, z.1, z.2⟩
def newS (B : By) (v : Nat → Int32) : St := (B, beginS B, [], (fun _ => none), [], 0, v, -1)
def errS (p : Int32) (A : St) : St := (tB A, tS A, tU A, tE A, tT A, 0, tA A, p)
theorem RBa.mv {r r' : TR} {q b : Nat} (e : ∀ a, q + 2 ≤ a → r' a = r a) (hb : q + 2 ≤ b) (g : RBa r b) : RBa r' b := by
  have x0 := e b hb
  have x1 := e (b + 8) (Nat.le_trans hb (Nat.le_add_right _ _))
  have x2 := e (b + 13) (Nat.le_trans hb (Nat.le_add_right _ _))
  have x3 := e (b + 18) (Nat.le_trans hb (Nat.le_add_right _ _))
  unfold RBa RLw at *
  rw [x0, x1, x2, x3]
  exact g
theorem RSc.mv {r r' : TR} {q s : Nat} (e : ∀ a, q + 2 ≤ a → r' a = r a) (hs : q + 2 ≤ s) (g : RSc r s) : RSc r' s := by
  unfold RSc at *
  rw [e s hs]
  exact g
theorem RX.swap {r r' : TR} {q b d : Nat} (e : ∀ a, q + 2 ≤ a → r' a = r a) (e0 : ∀ j, ¬ j = 1 → r' q j = r q j) (e1 : ∀ j, ¬ j = 2 → r' (q + 1) j = r (q + 1) j) (eb : r' q 1 = d) (ed : r' (q + 1) 2 = b) (g : RX r q b d) : RX r' q d b := by
  have L : ∀ k, 2 ≤ k → q + 2 ≤ q + k := fun k hk => Nat.add_le_add_left hk q
  have L2 : ∀ k i, 2 ≤ k → q + 2 ≤ q + k + i := fun k i hk => Nat.le_trans (L k hk) (Nat.le_add_right _ _)
  have ap := g.ap
  have bd : q + 2 ≤ b ∧ q + 2 ≤ d ∧ ((d = q + 29 ∧ b = q + 3) ∨ (d = q + 3 ∧ b = q + 29)) := by unfold apt at ap; omega
  obtain ⟨hb, hd, i4⟩ := bd
  obtain ⟨⟨a0, -, a2, a3, a4, a5, a7, a8, a9⟩, ⟨b0, -, b7, b8, b9⟩, ⟨c1, c2, c3⟩, ⟨d1, d2⟩, f1, ⟨g1, g2, g3, g4⟩, ⟨h1, h2⟩, i1, i2, -⟩ := g
  refine ⟨⟨(e0 0 (by decide)).trans a0, eb, (e0 2 (by decide)).trans a2, (e0 3 (by decide)).trans a3, (e0 4 (by decide)).trans a4, (e0 5 (by decide)).trans a5, (e0 7 (by decide)).trans a7, (e0 8 (by decide)).trans a8, (e0 9 (by decide)).trans a9⟩, ⟨(e1 0 (by decide)).trans b0, ed, (e1 7 (by decide)).trans b7, (e1 8 (by decide)).trans b8, (e1 9 (by decide)).trans b9⟩, ⟨c1.mv e (L _ (by decide)), c2.mv e (L _ (by decide)), c3.mv e (L _ (by decide))⟩, ⟨?_, fun i hi => ⟨?_, (d2 i hi).2.mv e (L2 _ _ (by decide))⟩⟩, fun i hi => ⟨?_, (f1 i hi).2.mv e (L2 _ _ (by decide))⟩, ⟨?_, ?_, ?_, ?_⟩, ⟨?_, ?_⟩, i2.mv e hd, i1.mv e hb, i4⟩
  · rw [e _ (L _ (by decide))]; exact d1
  · rw [e _ (L _ (by decide))]; exact (d2 i hi).1
  · rw [e _ (L _ (by decide))]; exact (f1 i hi).1
  · rw [e _ (L _ (by decide))]; exact g1
  · rw [e _ (L _ (by decide))]; exact g2
  · rw [e _ (L _ (by decide))]; exact g3
  · rw [e _ (L _ (by decide))]; exact g4
  · rw [e _ (L _ (by decide))]; exact h1
  · rw [e _ (L _ (by decide))]; exact h2
