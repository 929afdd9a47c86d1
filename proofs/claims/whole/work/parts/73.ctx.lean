/-! both sides at once: the state that both hold -/
/-- a bay with a rock more -/
def rockB (rk : Int32) (B : By) : By := (bW B, bH B, bN B, bCo B, bSe B, (fun c => if nI c = rk ∧ c % 8 < bW B ∧ c / 8 < bH B then 1 else bK B c), bX B, bY B, bS B, bNo B, bPW B, bPS B, bPL B)
theorem rockB_B {rk : Int32} {B : By} (hB : ByB B) : ByB (rockB rk B) := by
  obtain ⟨a1, a2, a3, a4, a5, a6, a7⟩ := hB
  refine ⟨a1, a2, a3, a4, a5, fun c hc => ?_, a7⟩
  have := a6 c hc
  show if c % 8 < bW B ∧ c / 8 < bH B then (if nI c = rk ∧ c % 8 < bW B ∧ c / 8 < bH B then 1 else bK B c) ≤ 2 else (if nI c = rk ∧ c % 8 < bW B ∧ c / 8 < bH B then 1 else bK B c) = 3
  by_cases z : c % 8 < bW B ∧ c / 8 < bH B
  · rw [if_pos z] at this ⊢
    split <;> omega
  · rw [if_neg z] at this ⊢
    rw [if_neg (fun w => z w.2)]
    exact this
theorem AM.bay {h : TH} {m L : Nat} {A : St} (g : AM h m L A) : MBay h m L (h.1 m 52) (rockB (h.1 m 52) (tB A)) := by
  obtain ⟨a1, a2, a3, a4, a5, a6, a7, a8, a9, a10, a11⟩ := g.1
  have z : ∀ x, m < x → (pI h m 52 (-1)).1 x = h.1 x := fun x hx => pI_o _ _ _ _ (by omega)
  rw [pI_n _ _ _ _ (by omega)] at a1
  rw [z _ (by omega)] at a4 a5 a6 a7 a8
  have b11 := a11.1.mv (h' := h) (fun x p q => (z x p).symm)
  have b12 := a11.2.1.mv (h' := h) (fun x p q => (z x p).symm)
  have b13 := a11.2.2.mv (h' := h) (fun x p q => (z x p).symm)
  refine ⟨a1, a2, rfl, a4, a5, a6, a7, a8, fun c hc hw hh => ?_, fun k hk => ?_, b11, b12, b13⟩
  · show (nI c = h.1 m 52 ∧ (if nI c = h.1 m 52 ∧ c % 8 < bW (tB A) ∧ c / 8 < bH (tB A) then 1 else bK (tB A) c) = 1) ∨ (¬ nI c = h.1 m 52 ∧ h.1 (m + 11) (40 * L + c) = nI (if nI c = h.1 m 52 ∧ c % 8 < bW (tB A) ∧ c / 8 < bH (tB A) then 1 else bK (tB A) c))
    by_cases e : nI c = h.1 m 52
    · exact Or.inl ⟨e, by rw [if_pos ⟨e, hw, hh⟩]⟩
    · refine Or.inr ⟨e, ?_⟩
      rw [if_neg (fun w => e w.1)]
      rcases a9 c hc hw hh with w | w
      · exact absurd w.1 (nI_nm (by omega))
      · rw [z _ (by omega)] at w; exact w.2
  · have := a10 k hk
    rw [z _ (by omega), z _ (by omega), z _ (by omega), z _ (by omega)] at this
    exact this
def Cx (r : TR) (q b d m L T : Nat) (h : TH) (A : St) : Prop := RX r q b d ∧ RMo r m ∧ q + 207 ≤ m ∧ AI T A ∧ AX h q b d A ∧ AM h m L A
theorem RX.ap {r : TR} {q b d : Nat} (h : RX r q b d) : apt q b d := h.2.2.2.2.2.2.2.2.2
theorem FX_in {q b d : Nat} (ap : apt q b d) {a : Nat} (h : FX q b a) : q ≤ a ∧ a < q + 207 := by
  unfold FX FBa at h
  rcases ap with x | x <;> omega
theorem FQ_in {m a : Nat} (h : FQ m a) : m ≤ a ∧ a < m + 44 := by unfold FQ at h; omega
theorem Cx.x {r : TR} {q b d m L T : Nat} {h h1 : TH} {A : St} (C : Cx r q b d m L T h A) (f : Fr (FX q b) h h1) (s : BScr b h h1) : Cx r q b d m L T h1 A :=
  ⟨C.1, C.2.1, C.2.2.1, C.2.2.2.1, C.2.2.2.2.1.q C.1.ap C.2.2.2.1.2.2.1 f s, C.2.2.2.2.2.out (f.mono (fun a ha => by have := FX_in C.1.ap ha; have := C.2.2.1; omega))⟩
theorem Cx.m {r : TR} {q b d m L T : Nat} {h h1 : TH} {A : St} (C : Cx r q b d m L T h A) (s : Qm m h h1) : Cx r q b d m L T h1 A :=
  ⟨C.1, C.2.1, C.2.2.1, C.2.2.2.1, C.2.2.2.2.1.out C.1.ap C.2.2.2.1.2.2.1 (s.1.mono (fun a ha => by have := FQ_in ha; have := C.2.2.1; omega)), C.2.2.2.2.2.q s⟩
theorem P_cp {r : TR} {m L : Nat} {h : TH} {A : St} {Q : TH → Prop} (hr : RMo r m) (hm : AM h m L A) (hB : ByB (tB A)) (hQ : ∀ h', Qm m h h' → MBay h' m L (-1) (tB A) → RowOK (h'.1 (m + 32)) (bN (tB A)) (-1) (tS A) → h'.1 m 51 = -1 → h'.1 m 50 = nI (bSe (tB A)) → Q h') : D_Mo_copies r m h Q := by
  have o := hm.bay
  refine P_copies hr o.1 o.2.1 o.2.2.2.2.2.2.2.1 (fun h' f k e50 e51 e52 ro => hQ h' ⟨f.mono (fun a ha => by unfold FCp at ha; unfold FQ; omega), fun j _ x y z => k j x y z⟩ ?_ ?_ e51 e50)
  · refine hm.1.mv (fun x p q => ?_) ?_ e52
    · rw [pI_o _ _ _ _ (by omega)]; exact (f x (by unfold FCp; omega)).1
    · rw [pI_n _ _ _ _ (by omega)]; exact k 18 (by omega) (by omega) (by omega)
  · exact RowOK.cg hB.2.2.1 ro hm.2.1
theorem P_lookAhead {r : TR} {q b d T n : Nat} {h : TH} {A : St} {Q : TH → Prop} (hR : RX r q b d) (hA : AI T A) (hx : AX h q b d A) (hn : n ≤ 100) (hQ : ∀ h', Fr (FX q b) h h' → BScr b h h' → ScOK h' (q + 56) (hoursS (tB A) (nI (bSe (tB A))) n (tS A)) → Q h') : D_SR_lookAhead r q (nI n) h Q := by
  obtain ⟨⟨-, r1, r2, r3, -⟩, -, ⟨s1, s2, -⟩, -, -, -, -, rb, -, ap⟩ := hR
  have hap : apart b (q + 56) := by unfold apart; rcases ap with x | x <;> omega
  have hb : q + 3 ≤ b ∧ b + 23 ≤ q + 52 := by rcases ap with x | x <;> omega
  have hT := hA.2.2.2.2.2.2.2.2
  unfold D_SR_lookAhead
  rw [r1, r2, r3]
  refine P_copyFrom s2 s1 hx.2.2.2.1 (by omega) (fun h3 f3 S3 => ?_)
  have bs : BScr b h h3 := BScr.out (fun a x y => (f3 a (by unfold FSc; omega)).1)
  have O3 := hx.1.scr bs
  rw [O3.2.2.2.2.1]
  refine P_passHours (seed := nI (bSe (tB A))) rb s2 O3 hA.1 S3 hA.2.1.1 hap (by have := hA.2.1.2.2.2.1; omega) (by omega) (fun h8 f8 s8 S8 => hQ h8 ?_ (bs.tr s8) S8)
  refine (f3.mono (fun a ha => by unfold FSc at ha; unfold FX; omega)).tr (f8.mono (fun a ha => ?_))
  rcases ha with x | x
  · exact Or.inl x
  · exact Or.inr (Or.inl ⟨by omega, by omega⟩)
