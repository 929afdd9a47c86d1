/-! the half that is not written stays -/
def RG2 (h : TH) (m L : Nat) : Prop := ∀ k, k < 3 → ∃ f g, h.1 (m + 19) (3 * L + k) = nI f ∧ h.1 (m + 20) (3 * L + k) = nI g ∧ f ≤ g ∧ g ≤ 260 ∧ (f = g ∨ (130 * L ≤ f ∧ g ≤ 130 * L + 130 ∧ ∀ i, f ≤ i → i < g → regC L (h.1 (m + 24) i) ∧ regC L (h.1 (m + 25) i) ∧ (h.1 (m + 21) i = 1 → regC L (h.1 (m + 22) i) ∧ regC L (h.1 (m + 23) i))))
def HF (m sd : Nat) (h h' : TH) : Prop := ∀ a x, m + 9 ≤ a → a ≤ m + 27 → ¬ own m sd a x → h'.1 a x = h.1 a x
theorem Seg.half {h h' : TH} {m L : Nat} {a b : Int32} {cs : List Nat} (hL : L < 2) (e : HF m (1 - L) h h') (ra : regC L a) (rb : regC L b) (g : Seg h m a b cs) : Seg h' m a b cs := by
  obtain ⟨s, g1, g2, g3, g4, g5⟩ := g
  obtain ⟨x, x1, x2, x3⟩ := ra
  obtain ⟨y, y1, y2, y3⟩ := rb
  have ex : s = x := (nI_eq (by omega) (by omega)).mp (g1.symm.trans x1)
  have ey : s + cs.length = y := (nI_eq (by omega) (by omega)).mp (g2.symm.trans y1)
  refine ⟨s, g1, g2, g3, fun i hi => ?_, g5⟩
  rw [e (m + 26) (s + i) (by omega) (by omega) (by unfold own; omega), e (m + 27) (s + i) (by omega) (by omega) (by unfold own; omega)]
  exact g4 i hi
theorem LawM.half {h h' : TH} {m L k pn : Nat} {Ps : List (List Nat)} (hL : L < 2) (hk : k < 3) (e : HF m (1 - L) h h') (rg : RG2 h m L) (g : LawM h m (3 * L + k) pn Ps) : LawM h' m (3 * L + k) pn Ps := by
  obtain ⟨f, nb, g1, g2, g3, g4⟩ := g
  obtain ⟨f', g', r1, r2, r3, r4, r5⟩ := rg k hk
  have ef : f = f' := (nI_eq (by omega) (by omega)).mp (g1.symm.trans r1)
  have eg : f + nb = g' := (nI_eq (by omega) (by omega)).mp (g2.symm.trans r2)
  subst ef; subst eg
  refine ⟨f, nb, ?_, ?_, g3, ?_⟩
  · rw [e (m + 19) _ (by omega) (by omega) (by unfold own; omega)]; exact g1
  · rw [e (m + 20) _ (by omega) (by omega) (by unfold own; omega)]; exact g2
  · rcases g4 with g4 | ⟨n1, n2, n3, n4, n5⟩
    · exact Or.inl g4
    · have r6 : 130 * L ≤ f ∧ f + nb ≤ 130 * L + 130 ∧ ∀ i, f ≤ i → i < f + nb → regC L (h.1 (m + 24) i) ∧ regC L (h.1 (m + 25) i) ∧ (h.1 (m + 21) i = 1 → regC L (h.1 (m + 22) i) ∧ regC L (h.1 (m + 23) i)) := by
        rcases r5 with z | z
        · omega
        · exact z
      obtain ⟨u1, u2, u3⟩ := r6
      have br : ∀ a i, m + 21 ≤ a → a ≤ m + 25 → i < nb → h'.1 a (f + i) = h.1 a (f + i) := fun a i y z hi => e a (f + i) (by omega) (by omega) (by unfold own; omega)
      refine Or.inr ⟨n1, n2, fun i hi => ?_, ?_, ?_⟩
      · obtain ⟨z1, z2, z3, z4⟩ := n3 i hi
        obtain ⟨v1, v2, v3⟩ := u3 (f + i) (by omega) (by omega)
        obtain ⟨v4, v5⟩ := v3 z1
        rw [br (m + 21) i (by omega) (by omega) (by omega), br (m + 22) i (by omega) (by omega) (by omega), br (m + 23) i (by omega) (by omega) (by omega), br (m + 24) i (by omega) (by omega) (by omega), br (m + 25) i (by omega) (by omega) (by omega)]
        exact ⟨z1, z2.half hL e v4 v5, z3.half hL e v5 v1, z4.half hL e v1 v2⟩
      · rw [br (m + 21) (nb - 1) (by omega) (by omega) (by omega)]; exact n4
      · obtain ⟨v1, v2, -⟩ := u3 (f + (nb - 1)) (by omega) (by omega)
        rw [br (m + 24) (nb - 1) (by omega) (by omega) (by omega), br (m + 25) (nb - 1) (by omega) (by omega) (by omega)]
        exact n5.half hL e v1 v2
theorem RG2.half {h h' : TH} {m L : Nat} (hL : L < 2) (e : HF m (1 - L) h h') (rg : RG2 h m L) : RG2 h' m L := by
  intro k hk
  obtain ⟨f, g, r1, r2, r3, r4, r5⟩ := rg k hk
  refine ⟨f, g, ?_, ?_, r3, r4, ?_⟩
  · rw [e (m + 19) _ (by omega) (by omega) (by unfold own; omega)]; exact r1
  · rw [e (m + 20) _ (by omega) (by omega) (by unfold own; omega)]; exact r2
  · rcases r5 with z | ⟨z1, z2, z3⟩
    · exact Or.inl z
    · refine Or.inr ⟨z1, z2, fun i y1 y2 => ?_⟩
      have br : ∀ a, m + 21 ≤ a → a ≤ m + 25 → h'.1 a i = h.1 a i := fun a y z => e a i (by omega) (by omega) (by unfold own; omega)
      rw [br (m + 21) (by omega) (by omega), br (m + 22) (by omega) (by omega), br (m + 23) (by omega) (by omega), br (m + 24) (by omega) (by omega), br (m + 25) (by omega) (by omega)]
      exact z3 i y1 y2
theorem MBay.half {h h' : TH} {m L : Nat} {B : By} (hB : ByB B) (e : HF m (1 - L) h h') (rg : RG2 h m L) (e18 : h'.1 m 18 = h.1 m 18) (e52 : h'.1 m 52 = -1) (g : MBay h m L (-1) B) : MBay h' m L (-1) B := by
  obtain ⟨g1, g2, g3, g4, g5, g6, g7, g8, g9, g10, g11, g12, g13⟩ := g
  have hN := hB.2.2.1
  have one : ∀ a, (a = m + 9 ∨ a = m + 10 ∨ a = m + 12 ∨ a = m + 17 ∨ a = m + 18) → h'.1 a L = h.1 a L := fun a ha => e a L (by omega) (by omega) (by unfold own; omega)
  refine ⟨by rw [e18]; exact g1, g2, e52, by rw [one _ (by omega)]; exact g4, by rw [one _ (by omega)]; exact g5, by rw [one _ (by omega)]; exact g6, by rw [one _ (by omega)]; exact g7, by rw [one _ (by omega)]; exact g8, fun c hc c1 c2 => ?_, fun k hk => ?_, g11.half g2 (by omega) e rg, g12.half g2 (by omega) e rg, g13.half g2 (by omega) e rg⟩
  · rw [e (m + 11) _ (by omega) (by omega) (by unfold own; omega)]; exact g9 c hc c1 c2
  · have bt : ∀ a, m + 13 ≤ a → a ≤ m + 16 → h'.1 a (6 * L + k) = h.1 a (6 * L + k) := fun a y z => e a _ (by omega) (by omega) (by unfold own; omega)
    rw [bt (m + 13) (by omega) (by omega), bt (m + 14) (by omega) (by omega), bt (m + 15) (by omega) (by omega), bt (m + 16) (by omega) (by omega)]
    exact g10 k hk
