/-! read: the reference's side, until its text is cut -/
theorem narB : ∀ k : Fin 256, vp_nar .byte (byI k.1) = byI k.1 := by decide +kernel
theorem nar_b {x : Int32} (h : isB x) : vp_nar .byte x = x := by
  obtain ⟨k, rfl⟩ := isB_ex h
  exact narB k
theorem RG.of {h : TH} {m L : Nat} (w : ∀ k, k < 19 → h.2 (m + 7) k = lN (b27 (wdL.getD k []))) (g : RG2 h m L) : RG h m L := ⟨w, g⟩
/-- all that a reading may write -/
def PR (m sd : Nat) (h h' : TH) : Prop := Fr (fun a => a = m ∨ (m + 2 ≤ a ∧ a ≤ m + 6) ∨ (m + 8 ≤ a ∧ a ≤ m + 28)) h h' ∧ (∀ j, ¬ fdM j → ¬ j = 2 → ¬ j = 4 → ¬ j = 10 → ¬ j = 17 → ¬ j = 19 → h'.1 m j = h.1 m j) ∧ HF m sd h h'
theorem PR.tr {m sd : Nat} {h h1 h2 : TH} (a : PR m sd h h1) (b : PR m sd h1 h2) : PR m sd h h2 := ⟨a.1.tr b.1, fun j x1 x2 x3 x4 x5 x6 => (b.2.1 j x1 x2 x3 x4 x5 x6).trans (a.2.1 j x1 x2 x3 x4 x5 x6), fun y x p q o => (b.2.2 y x p q o).trans (a.2.2 y x p q o)⟩
theorem PF.R {m sd : Nat} {h h' : TH} (p : PF m sd h h') : PR m sd h h' := ⟨p.1.mono (fun a x => by omega), fun j x _ _ _ _ _ => p.2.1 j x, p.2.2⟩
theorem PR.fd {m sd j : Nat} {h : TH} {v : Int32} (hj : fdM j ∨ j = 2 ∨ j = 4 ∨ j = 10 ∨ j = 17 ∨ j = 19) : PR m sd h (pI h m j v) := by
  refine ⟨Fr.pI (Or.inl rfl), fun i x1 x2 x3 x4 x5 x6 => pI_n _ _ _ _ (fun w => ?_), fun a x p q _ => by rw [pI_o _ _ _ _ (by omega)]⟩
  rcases hj with z | z
  · exact x1 (by rw [w.2]; exact z)
  · omega
theorem AM.err {h h' : TH} {m L T : Nat} {A : St} {p : Int32} (hA : AI T A) (g : AM h m L A) (rg : RG2 h m L) (f : PR m (1 - L) h h') (e2 : h'.1 m 2 = 0) (e17 : h'.1 m 17 = p) : AM h' m L (errS p A) := by
  obtain ⟨g1, g2, g3, g4, g5, g6, g7, g8, g9⟩ := g
  have hL : L < 2 := g1.2.1
  have fd : ∀ j, j = 18 ∨ j = 54 ∨ j = 60 → h'.1 m j = h.1 m j := fun j hj => f.2.1 j (by unfold fdM; omega) (by omega) (by omega) (by omega) (by omega) (by omega)
  have o : ∀ a, ¬ (a = m ∨ (m + 2 ≤ a ∧ a ≤ m + 6) ∨ (m + 8 ≤ a ∧ a ≤ m + 28)) → h'.1 a = h.1 a := fun a ha => (f.1 a ha).1
  have hf' : HF m (1 - L) (pI h m 52 (-1)) (pI h' m 52 (-1)) := fun a x p q w => by rw [pI_o _ _ _ _ (by omega), pI_o _ _ _ _ (by omega)]; exact f.2.2 a x p q w
  have rg' : RG2 (pI h m 52 (-1)) m L := by
    unfold RG2
    rw [pI_o _ _ _ _ (by omega), pI_o _ _ _ _ (by omega), pI_o _ _ _ _ (by omega), pI_o _ _ _ _ (by omega), pI_o _ _ _ _ (by omega), pI_o _ _ _ _ (by omega), pI_o _ _ _ _ (by omega)]
    exact rg
  refine ⟨g1.half hA.1 hf' rg' (by rw [pI_n _ _ _ _ (by omega), pI_n _ _ _ _ (by omega)]; exact fd 18 (by omega)) (pI_s _ _ _ _), ?_, ⟨by rw [fd 54 (by omega)]; exact g3.1, ?_⟩, ?_, ⟨by rw [fd 60 (by omega)]; exact g5.1, ?_⟩, ⟨e2, fun i hi => absurd hi (Nat.not_lt_zero _)⟩, e17, fun i hi => absurd hi (Nat.not_lt_zero _), RG.of ?_ (rg.half hL f.2.2)⟩
  · rw [o _ (by omega)]; exact g2
  · rw [o _ (by omega)]; exact g3.2
  · rw [o _ (by omega), o _ (by omega)]; exact g4
  · rw [o _ (by omega), o _ (by omega)]; exact g5.2
  · rw [(f.1 (m + 7) (by omega)).2]; exact g9.1
