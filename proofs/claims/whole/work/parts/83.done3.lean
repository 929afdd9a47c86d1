/-! tell, forget, back, feed: both sides -/
def tellS (T : List (Nat × Nat)) (A : St) : St := (tB A, tS A, tU A, tE A, T, tL A, tA A, tP A)
theorem AX.tell {h h' : TH} {q b d : Nat} {A : St} {T : List (Nat × Nat)} (ap : apt q b d) (hU : (tU A).length ≤ 30) (f : Fr (fun a => q + 183 ≤ a ∧ a < q + 186) h h') (hT : ToldOK h' q T) (g : AX h q b d A) : AX h' q b d (tellS T A) := by
  obtain ⟨g1, g2, g3, g4, g5, g6, g7, g8, g9⟩ := g
  have hb : q + 3 ≤ b ∧ b + 23 ≤ q + 52 := by rcases ap with x | x <;> omega
  have hd : q + 3 ≤ d ∧ d + 23 ≤ q + 52 := by rcases ap with x | x <;> omega
  refine ⟨g1.scr (BScr.out (fun a x y => (f a (by omega)).1)), ?_, ?_, g4.fq f (fun a x y => by omega), g5.fq f (fun a x y => by omega) hU, g6.fq f (by omega) (fun a x y => by omega), hT, ?_, ?_⟩
  · rw [(f (b + 2) (by omega)).1]; exact g2
  · unfold Zs
    rw [(f (d + 9) (by omega)).1, (f (d + 19) (by omega)).1]
    exact g3
  · rw [(f (q + 1) (by omega)).1, (f (q + 2) (by omega)).1]; exact g8
  · rw [(f (q + 1) (by omega)).1]; exact g9
theorem AM.tell {h h' : TH} {m L : Nat} {A : St} {T : List (Nat × Nat)} (g : AM h m L A) (f : Fr (fun a => a = m ∨ a = m + 39 ∨ a = m + 40) h h') (k : ∀ j, ¬ j = 60 → h'.1 m j = h.1 m j) (hT : h'.1 m 60 = nI T.length ∧ ∀ i, i < T.length → h'.1 (m + 40) i = nI ((T.getD i (0, 0)).1) ∧ h'.1 (m + 39) i = nI ((T.getD i (0, 0)).2)) : AM h' m L (tellS T A) := by
  obtain ⟨g1, g2, g3, g4, g5, g6, g7⟩ := g
  have z : ∀ a, ¬ (a = m ∨ a = m + 39 ∨ a = m + 40) → h'.1 a = h.1 a := fun a x => (f a x).1
  refine ⟨g1.mv (fun x a b => ?_) ?_ (by rw [pI_s]), ?_, ?_, ?_, hT, ?_, ?_⟩
  · rw [pI_o _ _ _ _ (by omega), pI_o _ _ _ _ (by omega)]; exact z x (by omega)
  · rw [pI_n _ _ _ _ (by omega), pI_n _ _ _ _ (by omega)]; exact k 18 (by omega)
  · rw [z (m + 31) (by omega)]; exact g2
  · rw [z (m + 34) (by omega), k 54 (by omega)]; exact g3
  · rw [z (m + 42) (by omega), z (m + 43) (by omega)]; exact g4
  · rw [z (m + 1) (by omega), k 2 (by omega)]; exact g6
  · exact ⟨by rw [k 17 (by omega)]; exact g7.1, g7.2.1, g7.2.2.mv (fun x hx => f x (by omega))⟩
theorem gT_app (l : List (Nat × Nat)) (x : Nat × Nat) (i : Nat) (h : i < l.length) : (l ++ [x]).getD i (0, 0) = l.getD i (0, 0) := by
  simp only [List.getD_eq_getElem?_getD]
  rw [List.getElem?_append_left h]
theorem gT_last (l : List (Nat × Nat)) (x : Nat × Nat) : (l ++ [x]).getD l.length (0, 0) = x := by
  simp only [List.getD_eq_getElem?_getD]
  rw [List.getElem?_append_right (Nat.le_refl _)]
  simp
theorem J_forget {r : TR} {q b d m L T : Nat} {h : TH} {A : St} {Q : Int32 → Int32 → TH → Prop} (C : Cx r q b d m L T h A) (hQ : ∀ x h' A', Cx r q b d m L T h' A' → Q x x h') : D_SR_forget r q h (fun x h1 => D_Mo_forget r m h1 (fun y h2 => Q x y h2)) := by
  obtain ⟨hR, hM, hqm, hA, hx, hm⟩ := id C
  have r7 := hR.1.2.2.2.2.2.2.1
  unfold D_SR_forget
  intro x ex h4 e4
  rw [r7] at ex e4
  rw [hx.2.2.2.2.2.2.1.1] at ex
  subst ex
  have f4 : Fr (fun a => a = q + 183) h h4 := by rw [e4]; exact Fr.pI rfl
  have X4 : AX h4 q b d (tellS [] A) := hx.tell hR.ap hA.2.2.1 (f4.mono (fun a ha => by omega)) ⟨by rw [e4, pI_s]; rfl, fun i hi => absurd hi (Nat.not_lt_zero _)⟩
  have m4 := C.out (f4.mono (fun a ha => by omega))
  unfold D_Mo_forget
  intro y ey h2 e2
  rw [m4.2.2.2.2.1.1] at ey
  subst ey
  have f2 : Fr (fun a => a = m) h4 h2 := by rw [e2]; exact Fr.pI rfl
  refine hQ _ _ (tellS [] A) ⟨hR, hM, hqm, ⟨hA.1, hA.2.1, hA.2.2.1, hA.2.2.2.1, hA.2.2.2.2.1, Nat.zero_le _, fun i hi => absurd hi (Nat.not_lt_zero _), hA.2.2.2.2.2.2.2⟩, X4.out hR.ap hA.2.2.1 (f2.mono (fun a ha => by omega)), m4.tell (f2.mono (fun a ha => by omega)) (fun j hj => by rw [e2, pI_n _ _ _ _ (by omega)]) ⟨by rw [e2, pI_s]; rfl, fun i hi => absurd hi (Nat.not_lt_zero _)⟩⟩
theorem J_tell {r : TR} {q b d m L T : Nat} {h : TH} {A : St} {a1 a2 : Int32} {Q : Int32 → Int32 → TH → Prop} (C : Cx r q b d m L T h A) (hQ : ∀ x h' A', Cx r q b d m L T h' A' → Q x x h') : D_SR_tell r q a1 a2 h (fun x h1 => D_Mo_tell r m a1 a2 h1 (fun y h2 => Q x y h2)) := by
  have hB := C.2.2.2.1.1
  have hn := hB.2.2.1
  obtain ⟨hR, hM, hqm, hA, hx, hm⟩ := id C
  obtain ⟨⟨-, r1, r2, r3, r4, r5, r7, -⟩, -, ⟨s1, s2, -⟩, -, -, ⟨t1, t2, -⟩, -, rb, -, ap'⟩ := id hR
  obtain ⟨SB, SP, SA, SH, SN, SW, SO⟩ := hA.2.1
  have r61 : r m 61 = m + 39 := hM 61 (by decide) (by decide)
  have r62 : r m 62 = m + 40 := hM 62 (by decide) (by decide)
  have hTl := hA.2.2.2.2.2.1
  have eT := hx.2.2.2.2.2.2.1.1
  unfold D_SR_tell
  rw [r1, r2, r7, eT]
  refine ⟨fun z => ?_, fun z => ?_⟩
  · have hz := (nI_leI (a := 20) (by omega) (by omega)).mp z
    show D_Mo_tell r m a1 a2 h _
    unfold D_Mo_tell
    rw [hm.2.2.2.2.1.1]
    exact ⟨fun _ => hQ _ _ _ C, fun w => absurd (show nI (tT A).length = nI 20 by rw [show (tT A).length = 20 by omega]) w⟩
  have hl20 : (tT A).length < 20 := by
    rcases Nat.lt_or_ge (tT A).length 20 with w | w
    · exact w
    · exact absurd (nI_le (a := 20) w (by omega)) z
  have n20 : ¬ nI (tT A).length = (20 : Int32) := fun w => by
    have := (nI_eq (b := 20) (by omega) (by omega)).mp w
    omega
  refine P_SRisBoat (B := tB A) r1 hx.1.2.2.1 hB (fun k hk e => ⟨fun z => absurd z z01, fun _ => ?_⟩) (fun hnk => ⟨fun _ => ?_, fun z => absurd rfl z⟩)
  · subst e
    refine P_SRisBoat (B := tB A) r1 hx.1.2.2.1 hB (fun p hp e => ⟨fun _ => ?_, fun z => absurd z z01⟩) (fun hnk => ⟨fun z => absurd rfl z, fun _ => ?_⟩)
    · subst e
      rw [hx.1.2.2.2.2.1]
      refine P_dishesSmelledBy (seed := nI (bSe (tB A))) rb s1 hx.1 hB hx.2.2.2.1 SB hk ?_
      have sl := smells_lt (S := tS A) (seed := nI (bSe (tB A))) (k := k) hB
      unfold D_Told_add
      rw [eT, t1, t2, nI_clamp (n := (tT A).length) (by omega)]
      refine ⟨fun _ => ⟨vp_in_nI hl20 (by omega), fun h3 e3 => ?_⟩, fun w => absurd (show nI (tT A).length < (20 : Int32) from nI_lt (b := 20) hl20 (by omega)) w⟩
      have e30 : h3.1 (q + 183) 0 = nI (tT A).length := by rw [e3, pI_o _ _ _ _ (by omega)]; exact eT
      rw [e30, nI_clamp (n := (tT A).length) (by omega)]
      refine ⟨vp_in_nI hl20 (by omega), fun h5 e5 h6 e6 => ?_⟩
      have e50 : h5.1 (q + 183) 0 = nI (tT A).length := by rw [e5, pI_o _ _ _ _ (by omega)]; exact e30
      rw [e50, nI_1] at e6
      have e60 : h6.1 (q + 183) 0 = nI ((tT A).length + 1) := by rw [e6, pI_s]
      have F : Fr (fun a => q + 183 ≤ a ∧ a < q + 186) h h6 := ((show Fr _ h h3 by rw [e3]; exact Fr.pI (by omega)).tr (show Fr _ h3 h5 by rw [e5]; exact Fr.pI (by omega))).tr (by rw [e6]; exact Fr.pI (by omega))
      have hl : (tT A ++ [(p, smells (tB A) (tS A) (nI (bSe (tB A))) k)]).length = (tT A).length + 1 := by rw [List.length_append]; rfl
      have X6 : AX h6 q b d (tellS (tT A ++ [(p, smells (tB A) (tS A) (nI (bSe (tB A))) k)]) A) := by
        refine hx.tell hR.ap hA.2.2.1 F ⟨by rw [e60, hl], fun i hi => ?_⟩
        rw [hl] at hi
        have o1 : h6.1 (q + 184) = h3.1 (q + 184) := by rw [e6, pI_o _ _ _ _ (by omega), e5, pI_o _ _ _ _ (by omega)]
        have o2 : h6.1 (q + 185) = h5.1 (q + 185) := by rw [e6, pI_o _ _ _ _ (by omega)]
        rw [o1, o2]
        by_cases e : i = (tT A).length
        · subst e
          rw [gT_last, e3, pI_s, e5, pI_s]
          exact ⟨rfl, rfl⟩
        · rw [gT_app _ _ _ (by omega), e3, pI_n _ _ _ _ (by omega), e5, pI_n _ _ _ _ (by omega), e3, pI_o _ _ _ _ (by omega)]
          exact hx.2.2.2.2.2.2.1.2 i (by omega)
      have m6 := C.out (F.mono (fun a ha => by omega))
      rw [e60, nI_s1 (by omega)]
      show D_Mo_tell r m (nI k) (nI p) h6 _
      unfold D_Mo_tell
      rw [m6.2.2.2.2.1.1]
      refine ⟨fun w => absurd w n20, fun _ => ?_⟩
      refine P_MoisBoat hM m6.bay (rockB_B hB) (fun k' hk' e' => ⟨fun z => absurd z z01, fun _ => ?_⟩) (fun z => absurd rfl (z k hk))
      refine P_MoisBoat hM m6.bay (rockB_B hB) (fun k' hk' e' => ⟨fun _ => ?_, fun z => absurd z z01⟩) (fun z => absurd rfl (z p hp))
      refine P_cp hM m6 hB (fun h8 q8 O8 R8 w8 l8 => ?_)
      have m8 := m6.q q8
      have e860 := m8.2.2.2.2.1.1
      refine P_Mo_smellsOf (seed := nI (bSe (tB A))) hM O8 hB rfl R8 w8 l8 SB SP hk ?_
      rw [e860, r61, r62, nI_clamp (n := (tT A).length) (by omega)]
      refine ⟨vp_in_nI hl20 (by omega), fun h13 e13 => ?_⟩
      have e130 : h13.1 m 60 = nI (tT A).length := by rw [e13, pI_o _ _ _ _ (by omega)]; exact e860
      rw [e130, nI_clamp (n := (tT A).length) (by omega)]
      refine ⟨vp_in_nI hl20 (by omega), fun h15 e15 h16 e16 => ?_⟩
      have e150 : h15.1 m 60 = nI (tT A).length := by rw [e15, pI_o _ _ _ _ (by omega)]; exact e130
      rw [e150, nI_1] at e16
      have e160 : h16.1 m 60 = nI ((tT A).length + 1) := by rw [e16, pI_s]
      rw [e160, nI_s1 (by omega)]
      have F2 : Fr (fun a => a = m ∨ a = m + 39 ∨ a = m + 40) h8 h16 := ((show Fr _ h8 h13 by rw [e13]; exact Fr.pI (by omega)).tr (show Fr _ h13 h15 by rw [e15]; exact Fr.pI (by omega))).tr (by rw [e16]; exact Fr.pI (by omega))
      refine hQ _ _ (tellS (tT A ++ [(p, smells (tB A) (tS A) (nI (bSe (tB A))) k)]) A) ⟨hR, hM, hqm, ⟨hA.1, hA.2.1, hA.2.2.1, hA.2.2.2.1, hA.2.2.2.2.1, ?_, fun i hi => ?_, hA.2.2.2.2.2.2.2⟩, X6.out hR.ap hA.2.2.1 (((q8.1.mono (fun a ha => FQ_in ha)).tr (F2.mono (fun a ha => by omega))).mono (fun a (ha : m ≤ a ∧ a < m + 44) => by omega)), m8.tell F2 (fun j hj => ?_) ⟨by rw [e160, hl], fun i hi => ?_⟩⟩
      · show (tT A ++ [(p, smells (tB A) (tS A) (nI (bSe (tB A))) k)]).length ≤ 20
        rw [hl]; omega
      · replace hi : i < (tT A ++ [(p, smells (tB A) (tS A) (nI (bSe (tB A))) k)]).length := hi
        show ((tT A ++ [(p, smells (tB A) (tS A) (nI (bSe (tB A))) k)]).getD i (0, 0)).1 < bN (tB A) ∧ ((tT A ++ [(p, smells (tB A) (tS A) (nI (bSe (tB A))) k)]).getD i (0, 0)).2 < 64
        rw [hl] at hi
        by_cases e : i = (tT A).length
        · subst e
          rw [gT_last]
          exact ⟨hp, sl⟩
        · rw [gT_app _ _ _ (by omega)]
          exact hA.2.2.2.2.2.2.1 i (by omega)
      · rw [e16, pI_n _ _ _ _ (by omega), e15, pI_o _ _ _ _ (by omega), e13, pI_o _ _ _ _ (by omega)]
      · rw [hl] at hi
        have o1 : h16.1 (m + 39) = h13.1 (m + 39) := by rw [e16, pI_o _ _ _ _ (by omega), e15, pI_o _ _ _ _ (by omega)]
        have o2 : h16.1 (m + 40) = h15.1 (m + 40) := by rw [e16, pI_o _ _ _ _ (by omega)]
        rw [o1, o2]
        by_cases e : i = (tT A).length
        · subst e
          rw [gT_last, e13, pI_s, e15, pI_s]
          exact ⟨rfl, rfl⟩
        · rw [gT_app _ _ _ (by omega), e13, pI_n _ _ _ _ (by omega), e15, pI_n _ _ _ _ (by omega), e13, pI_o _ _ _ _ (by omega)]
          exact m8.2.2.2.2.1.2 i (by omega)
    · unfold D_Mo_tell
      show ((h.1 m 60) = 20 → _) ∧ _
      rw [hm.2.2.2.2.1.1]
      refine ⟨fun w => absurd w n20, fun _ => ?_⟩
      refine P_MoisBoat hM hm.bay (rockB_B hB) (fun k' hk' e' => ⟨fun z => absurd z z01, fun _ => ?_⟩) (fun z => absurd rfl (z k hk))
      exact P_MoisBoat hM hm.bay (rockB_B hB) (fun k hk e => absurd e (hnk k hk)) (fun _ => ⟨fun z => absurd rfl z, fun _ => hQ _ _ _ C⟩)
  · unfold D_Mo_tell
    show ((h.1 m 60) = 20 → _) ∧ _
    rw [hm.2.2.2.2.1.1]
    refine ⟨fun w => absurd w n20, fun _ => ?_⟩
    exact P_MoisBoat hM hm.bay (rockB_B hB) (fun k hk e => absurd e (hnk k hk)) (fun _ => ⟨fun _ => hQ _ _ _ C, fun z => absurd rfl z⟩)
/-! the tape -/
def tapeS (n : Nat) (f : Nat → Int32) (A : St) : St := (tB A, tS A, tU A, tE A, tT A, n, f, tP A)
theorem AX.tape {h h' : TH} {q b d n : Nat} {A : St} {v : Nat → Int32} (ap : apt q b d) (hU : (tU A).length ≤ 30) (f : Fr (fun a => a = q + 1 ∨ a = q + 2) h h') (e3 : h'.1 (q + 1) 3 = h.1 (q + 1) 3) (ht : h'.1 (q + 1) 1 = nI n ∧ ∀ i, i < n → h'.1 (q + 2) i = v i) (g : AX h q b d A) : AX h' q b d (tapeS n v A) := by
  obtain ⟨g1, g2, g3, g4, g5, g6, g7, g8, g9⟩ := g
  have hb : q + 3 ≤ b ∧ b + 23 ≤ q + 52 := by rcases ap with x | x <;> omega
  have hd : q + 3 ≤ d ∧ d + 23 ≤ q + 52 := by rcases ap with x | x <;> omega
  refine ⟨g1.scr (BScr.out (fun a x y => (f a (by omega)).1)), ?_, ?_, g4.fq f (fun a x y => by omega), g5.fq f (fun a x y => by omega) hU, g6.fq f (by omega) (fun a x y => by omega), g7.fq f (fun a x y => by omega), ht, ?_⟩
  · rw [(f (b + 2) (by omega)).1]; exact g2
  · unfold Zs
    rw [(f (d + 9) (by omega)).1, (f (d + 19) (by omega)).1]
    exact g3
  · rw [e3]; exact g9
theorem AM.tape {h h' : TH} {m L n : Nat} {A : St} {v : Nat → Int32} (g : AM h m L A) (f : Fr (fun a => a = m ∨ a = m + 1) h h') (k : ∀ j, ¬ j = 2 → h'.1 m j = h.1 m j) (ht : h'.1 m 2 = nI n ∧ ∀ i, i < n → h'.1 (m + 1) i = v i) (hb : ∀ i, i < n → isB (v i)) : AM h' m L (tapeS n v A) := by
  obtain ⟨g1, g2, g3, g4, g5, g6, g7⟩ := g
  have z : ∀ a, ¬ (a = m ∨ a = m + 1) → h'.1 a = h.1 a := fun a x => (f a x).1
  have em : (fun j => j) 18 = 18 := rfl
  refine ⟨?_, ?_, ?_, ?_, ?_, ht, ?_⟩
  · obtain ⟨a1, a2, a3, a4, a5, a6, a7, a8, a9, a10, a11⟩ := g1
    have y : ∀ x, m + 1 < x → (pI h' m 52 (-1)).1 x = (pI h m 52 (-1)).1 x := fun x hx => by rw [pI_o _ _ _ _ (by omega), pI_o _ _ _ _ (by omega)]; exact z x (by omega)
    have sg : ∀ {a c : Int32} {cs : List Nat}, Seg (pI h m 52 (-1)) m a c cs → Seg (pI h' m 52 (-1)) m a c cs := by
      rintro a c cs ⟨s, q1, q2, q3, q4, q5⟩
      refine ⟨s, q1, q2, q3, fun i hi => ?_, q5⟩
      rw [y _ (by omega), y _ (by omega)]
      exact q4 i hi
    have lm : ∀ {a pl : Nat} {Ps : List (List Nat)}, LawM (pI h m 52 (-1)) m a pl Ps → LawM (pI h' m 52 (-1)) m a pl Ps := by
      rintro a pl Ps ⟨f1, nb, q1, q2, q3, q4⟩
      refine ⟨f1, nb, by rw [y _ (by omega)]; exact q1, by rw [y _ (by omega)]; exact q2, q3, ?_⟩
      rw [y (m + 21) (by omega), y (m + 22) (by omega), y (m + 23) (by omega), y (m + 24) (by omega), y (m + 25) (by omega)]
      rcases q4 with q4 | ⟨p1, p2, p3, p4, p5⟩
      · exact Or.inl q4
      · exact Or.inr ⟨p1, p2, fun i hi => ⟨(p3 i hi).1, sg (p3 i hi).2.1, sg (p3 i hi).2.2.1, sg (p3 i hi).2.2.2⟩, p4, sg p5⟩
    refine ⟨?_, a2, by rw [pI_s], by rw [y _ (by omega)]; exact a4, by rw [y _ (by omega)]; exact a5, by rw [y _ (by omega)]; exact a6, by rw [y _ (by omega)]; exact a7, by rw [y _ (by omega)]; exact a8, ?_, ?_, lm a11.1, lm a11.2.1, lm a11.2.2⟩
    · rw [pI_n _ _ _ _ (by omega), k 18 (by omega)]
      rw [pI_n _ _ _ _ (by omega)] at a1
      exact a1
    · rw [y (m + 11) (by omega)]; exact a9
    · rw [y (m + 13) (by omega), y (m + 14) (by omega), y (m + 15) (by omega), y (m + 16) (by omega)]; exact a10
  · rw [z (m + 31) (by omega)]; exact g2
  · rw [z (m + 34) (by omega), k 54 (by omega)]; exact g3
  · rw [z (m + 42) (by omega), z (m + 43) (by omega)]; exact g4
  · rw [z (m + 39) (by omega), z (m + 40) (by omega), k 60 (by omega)]; exact g5
  · exact ⟨by rw [k 17 (by omega)]; exact g7.1, hb, g7.2.2.mv (fun x hx => f x (by omega))⟩
theorem J_back {r : TR} {q b d m L T : Nat} {h : TH} {A : St} {a1 : Int32} {Q : Int32 → Int32 → TH → Prop} (C : Cx r q b d m L T h A) (hQ : ∀ x h' A', Cx r q b d m L T h' A' → Q x x h') : D_SR_back r q a1 h (fun x h1 => D_Mo_back r m a1 h1 (fun y h2 => Q x y h2)) := by
  obtain ⟨hR, hM, hqm, hA, hx, hm⟩ := id C
  have r0 := hR.1.1
  have hL := hA.2.2.2.2.2.2.2.1
  have eX := hx.2.2.2.2.2.2.2.1.1
  have eM := hm.2.2.2.2.2.1.1
  unfold D_SR_back
  rw [r0, eX]
  refine ⟨fun z => ?_, fun z => ⟨fun w h5 e5 => ?_, fun w => ?_⟩⟩
  · exact ⟨fun _ => hQ _ _ _ C, fun y => absurd z y⟩
  · obtain ⟨n, hn, rfl⟩ := nI_of z
    have hnl := (nI_leI hn (by omega)).mp w
    have es : nI (tL A) - nI n = nI (tL A - n) := by
      have : nI (tL A) = nI (tL A - n) + nI n := by rw [nI_add]; congr 1; omega
      rw [this, Int32.add_sub_cancel]
    rw [es] at e5
    have f5 : Fr (fun a => a = q + 1) h h5 := by rw [e5]; exact Fr.pI rfl
    have X5 : AX h5 q b d (tapeS (tL A - n) (tA A) A) := hx.tape hR.ap hA.2.2.1 (f5.mono (fun a ha => Or.inl ha)) (by rw [e5, pI_n _ _ _ _ (by omega)]) ⟨by rw [e5, pI_s], fun i hi => by rw [(f5 _ (by omega)).1]; exact hx.2.2.2.2.2.2.2.1.2 i (by omega)⟩
    have m5 := C.out (f5.mono (fun a ha => by omega))
    rw [show h5.1 (q + 1) 1 = nI (tL A - n) by rw [e5, pI_s]]
    show D_Mo_back r m (nI n) h5 _
    unfold D_Mo_back
    rw [m5.2.2.2.2.2.1.1]
    refine ⟨fun y => absurd y z, fun _ => ⟨fun _ h3 e3 => ?_, fun y => absurd w y⟩⟩
    rw [es] at e3
    have f3 : Fr (fun a => a = m) h5 h3 := by rw [e3]; exact Fr.pI rfl
    rw [show h3.1 m 2 = nI (tL A - n) by rw [e3, pI_s]]
    refine hQ _ _ (tapeS (tL A - n) (tA A) A) ⟨hR, hM, hqm, ⟨hA.1, hA.2.1, hA.2.2.1, hA.2.2.2.1, hA.2.2.2.2.1, hA.2.2.2.2.2.1, hA.2.2.2.2.2.2.1, ?_, hA.2.2.2.2.2.2.2.2⟩, X5.out hR.ap hA.2.2.1 (f3.mono (fun a ha => by omega)), m5.tape (f3.mono (fun a ha => Or.inl ha)) (fun j hj => by rw [e3, pI_n _ _ _ _ (by omega)]) ⟨by rw [e3, pI_s], fun i hi => by rw [(f3 _ (by omega)).1]; exact m5.2.2.2.2.2.1.2 i (by omega)⟩ (fun i hi => m5.2.2.2.2.2.2.2.1 i (by omega))⟩
    show tL A - n ≤ 2000
    omega
  · show D_Mo_back r m a1 h _
    unfold D_Mo_back
    rw [eM]
    exact ⟨fun y => absurd y z, fun _ => ⟨fun y => absurd y w, fun _ => hQ _ _ _ C⟩⟩
