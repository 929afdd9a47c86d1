/-! the half that was written holds the draft -/
theorem SegB.reg {h : TH} {m sd K : Nat} {a b : Int32} {cs : List Nat} (hK : K ≤ 420 * sd + 420) (g : SegB h m sd K a b cs) : regC sd a ∧ regC sd b := by
  obtain ⟨s, g1, g2, g3, g4, -, -⟩ := g
  exact ⟨⟨s, g1, g3, by omega⟩, ⟨s + cs.length, g2, by omega, by omega⟩⟩
theorem DM1.M {h : TH} {m sd k pn b K : Nat} {Ps : List (List Nat)} (hs : sd < 2) (hK : K ≤ 420 * sd + 420) (hb : b ≤ 130 * sd + 130) (g : DM1 h m sd k pn Ps b K) : LawM h m (3 * sd + k) pn Ps := by
  rcases g with ⟨f, j, g1, g2, g3, g4, Q, a, g5, ⟨g6, g7⟩, g8, g9⟩ | ⟨g1, g2, g3⟩
  · have el : Ps.length = 3 * j + 1 := by rw [g5]; simp [g6]
    refine ⟨f, j + 1, g1, g2, by omega, Or.inr ⟨by omega, by rw [el]; omega, fun i hi => ?_, ?_, ?_⟩⟩
    · obtain ⟨z1, z2, z3, z4⟩ := g7 i (by omega)
      rw [g5, getD_i _ _ _ (by omega), getD_i _ _ _ (by omega), getD_i _ _ _ (by omega)]
      exact ⟨z1, z2.seg hs hK, z3.seg hs hK, z4.seg hs hK⟩
    · rw [show j + 1 - 1 = j by omega]; exact g8
    · rw [show j + 1 - 1 = j by omega]
      have e : Ps.getD (3 * j) [] = a := by rw [g5, ← g6]; exact getD_l Q a
      rw [e]
      exact g9.seg hs hK
  · exact ⟨0, 0, g1, g2, by omega, Or.inl ⟨rfl, g3⟩⟩
theorem DM1.R {h : TH} {m sd k pn b K : Nat} {Ps : List (List Nat)} (hs : sd < 2) (hK : K ≤ 420 * sd + 420) (hb : b ≤ 130 * sd + 130) (g : DM1 h m sd k pn Ps b K) : ∃ f g, h.1 (m + 19) (3 * sd + k) = nI f ∧ h.1 (m + 20) (3 * sd + k) = nI g ∧ f ≤ g ∧ g ≤ 260 ∧ (f = g ∨ (130 * sd ≤ f ∧ g ≤ 130 * sd + 130 ∧ ∀ i, f ≤ i → i < g → regC sd (h.1 (m + 24) i) ∧ regC sd (h.1 (m + 25) i) ∧ (h.1 (m + 21) i = 1 → regC sd (h.1 (m + 22) i) ∧ regC sd (h.1 (m + 23) i)))) := by
  rcases g with ⟨f, j, g1, g2, g3, g4, Q, a, g5, ⟨g6, g7⟩, g8, g9⟩ | ⟨g1, g2, g3⟩
  · refine ⟨f, f + (j + 1), g1, g2, by omega, by omega, Or.inr ⟨g3, by omega, fun i i1 i2 => ?_⟩⟩
    obtain ⟨x, rfl⟩ : ∃ x, i = f + x := ⟨i - f, by omega⟩
    by_cases ex : x = j
    · subst ex
      have w := g9.reg hK
      refine ⟨w.1, w.2, fun z => ?_⟩
      rw [g8] at z
      exact absurd z (by decide)
    · obtain ⟨z1, z2, z3, z4⟩ := g7 x (by omega)
      exact ⟨(z4.reg hK).1, (z4.reg hK).2, fun _ => ⟨(z2.reg hK).1, (z3.reg hK).1⟩⟩
  · exact ⟨0, 0, g1, g2, Nat.le_refl _, by omega, Or.inl rfl⟩
theorem MD.bay {r : TR} {h0 h : TH} {m sd n J t b K : Nat} {c : Nat → Nat} {P : PSt} (hs : sd < 2) (s : MD r h0 h m sd c n J t b K P) (hf : dF P = none) {h' : TH} (e : ∀ a, ¬ a = m → h'.1 a = h.1 a) (e18 : h'.1 m 18 = nI sd) (e52 : h'.1 m 52 = -1) : MBay h' m sd (-1) (dB P) ∧ RG2 h' m sd := by
  have tJ := s.1.1.2.1
  have j4 := s.1.1.1.2.2.1
  obtain ⟨-, -, ⟨⟨q1, q2, q3, q4, q5, q6⟩, q7, q8⟩, ⟨d0, d1, d2⟩, -, bd⟩ := s
  unfold Bds at bd
  have hK : K ≤ 420 * sd + 420 := by omega
  have hb : b ≤ 130 * sd + 130 := by omega
  have mv : ∀ {k pn : Nat} {Ps : List (List Nat)}, DM1 h m sd k pn Ps b K → DM1 h' m sd k pn Ps b K := fun g => g.mv (Nat.le_refl _) (Nat.le_refl _) (by rw [e _ (by omega)]) (by rw [e _ (by omega)]) (fun x _ a y z => by rw [e a (by omega)]) (fun x _ => by rw [e _ (by omega), e _ (by omega)]; exact ⟨rfl, rfl⟩)
  refine ⟨⟨e18, hs, e52, by rw [e _ (by omega)]; exact q1, by rw [e _ (by omega)]; exact q2, by rw [e _ (by omega)]; exact q3, by rw [e _ (by omega)]; exact q5, by rw [e _ (by omega)]; exact q6, fun x hx x1 x2 => Or.inr ⟨nI_nm1 (by omega), by rw [e _ (by omega)]; exact q8 hf x x1 x2⟩, fun k hk => ?_, (mv d0).M hs hK hb, (mv d1).M hs hK hb, (mv d2).M hs hK hb⟩, fun k hk => ?_⟩
  · rw [e _ (by omega), e _ (by omega), e _ (by omega), e _ (by omega)]
    exact ⟨(q7 k hk).1, (q7 k hk).2.1, (q7 k hk).2.2.1, (q7 k hk).2.2.2.1⟩
  · have k012 : k = 0 ∨ k = 1 ∨ k = 2 := by omega
    rcases k012 with rfl | rfl | rfl
    · exact (mv d0).R hs hK hb
    · exact (mv d1).R hs hK hb
    · exact (mv d2).R hs hK hb
