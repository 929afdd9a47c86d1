/-! what is done: both sides -/
theorem Cx.put {r : TR} {q b d m L T T' : Nat} {h h1 h2 : TH} {A : St} {S : Sc} {U : List Sc} (C : Cx r q b d m L T h A) (hA : AI T' (putS S U A)) (s : BScr b h h1) (f : Fr (fun a => FBa b a ∨ (q + 52 ≤ a ∧ a < q + 182)) h h1) (hS : ScOK h1 (q + 52) S) (hU : PastOK h1 q U) (f2 : Fr (fun a => m ≤ a ∧ a < m + 44) h1 h2) (hm : AM h2 m L (putS S U A)) : Cx r q b d m L T' h2 (putS S U A) := by
  have hqm := C.2.2.1
  exact ⟨C.1, C.2.1, hqm, hA, (C.2.2.2.2.1.put C.1.ap s f hS hU).out C.1.ap hA.2.2.1 (f2.mono (fun a ha => by omega)), hm⟩
theorem Cx.out {r : TR} {q b d m L T : Nat} {h h1 : TH} {A : St} (C : Cx r q b d m L T h A) (f : Fr (fun a => q ≤ a ∧ a < q + 207) h h1) : AM h1 m L A := by
  have hqm := C.2.2.1
  exact C.2.2.2.2.2.out (f.mono (fun a ha => by omega))
theorem Cx.mono {r : TR} {q b d m L T T' : Nat} {h : TH} {A : St} (C : Cx r q b d m L T h A) (t : T ≤ T') (ht : T' ≤ 100000) : Cx r q b d m L T' h A := ⟨C.1, C.2.1, C.2.2.1, C.2.2.2.1.mono t ht, C.2.2.2.2⟩
theorem FP_in {q b d a : Nat} (ap : apt q b d) (h : FBa b a ∨ (q + 52 ≤ a ∧ a < q + 182)) : q ≤ a ∧ a < q + 207 := by
  unfold FBa at h
  rcases ap with x | x <;> omega
theorem J_hours {r : TR} {q b d m L T : Nat} {h : TH} {A : St} {a1 : Int32} {Q : Int32 → Int32 → TH → Prop} (C : Cx r q b d m L T h A) (hT : T + 100 ≤ 100000) (hQ : ∀ x h' A', Cx r q b d m L (T + 100) h' A' → Q x x h') : D_SR_hours r q a1 h (fun x h1 => D_Mo_hours r m a1 h1 (fun y h2 => Q x y h2)) := by
  have hB := C.2.2.2.1.1
  have hn := hB.2.2.1
  have ap := C.1.ap
  obtain ⟨hR, hM, hqm, hA, hx, hm⟩ := id C
  obtain ⟨⟨-, r1, r2, r3, r4, -⟩, -, ⟨s1, s2, -⟩, -, -, -, -, rb, -, ap'⟩ := id hR
  have SH := hA.2.1.2.2.2.1
  have r48 : r m 48 = m + 31 := hM 48 (by decide) (by decide)
  have z30 : (30 : Int32).toNatClampNeg = 30 := by decide
  have hap : apart b (q + 52) := by unfold apart; rcases ap' with x | x <;> omega
  have hbq : q + 3 ≤ b ∧ b + 23 ≤ q + 52 := by rcases ap' with x | x <;> omega
  have C0 := C.mono (T' := T + 100) (by omega) hT
  unfold D_SR_hours
  refine P_within (fun z2 w2 => ⟨fun _ => ?_, fun z => absurd z z01⟩) (fun z2 => ⟨fun z => absurd rfl z, fun _ => ?_⟩)
  · obtain ⟨n, -, hn100, rfl⟩ := wi_nI (x := 0) (y := 100) (by omega) z2 w2 (by omega)
    rw [r1, r2, r4]
    refine ⟨fun z => ?_, fun z => ?_⟩
    · have n0 : n = 0 := by
        have := (nI_leI (b := 0) (by omega) (by omega)).mp z
        omega
      subst n0
      rw [hx.2.2.2.1.1]
      unfold D_Mo_hours
      refine P_in1 z2 w2 ⟨fun _ => ⟨fun z => absurd rfl z, fun _ => ?_⟩, fun z => absurd z z01⟩
      rw [r48, z30, hm.2.1.1]
      exact hQ _ _ _ C0
    · have n0 : 0 < n := by
        rcases Nat.eq_zero_or_pos n with w | w
        · subst w; exact absurd (show nI 0 ≤ 0 by decide) z
        · exact w
      refine P_keep hR hA hx (fun h8 f8 U8 => ?_)
      have bs : BScr b h h8 := BScr.out (fun a x y => (f8 a (by omega)).1)
      have O8 := hx.1.scr bs
      have S8 : ScOK h8 (q + 52) (tS A) := hx.2.2.2.1.fr (fun a x y => (f8 a (by omega)).1)
      rw [O8.2.2.2.2.1]
      refine P_passHours (seed := nI (bSe (tB A))) rb s1 O8 hB S8 hA.2.1.1 hap (by omega) (by omega) (fun h13 f13 s13 S13 => ?_)
      have I1 := (hoursS_I (seed := nI (bSe (tB A))) hB hA.2.1 n (by omega)).mono (show T + n ≤ T + 100 by omega)
      have F : Fr (fun a => FBa b a ∨ (q + 52 ≤ a ∧ a < q + 182)) h h13 := by
        refine (f8.mono (fun a ha => Or.inr (by omega))).tr (f13.mono (fun a ha => ?_))
        rcases ha with x | x
        · exact Or.inl x
        · exact Or.inr (by omega)
      have U13 : PastOK h13 q (pushU (tU A) (tS A)) := U8.fq f13 (fun a x y w => by unfold FHo FBa at w; omega) (by rw [pushU_len _ _ hA.2.2.1]; omega)
      have m13 := C.out (F.mono (fun a ha => FP_in ap ha))
      rw [S13.1]
      unfold D_Mo_hours
      refine P_in1 z2 w2 ⟨fun _ => ⟨fun _ => ?_, fun w => absurd w (nI_ne0 n0 (by omega))⟩, fun z => absurd z z01⟩
      refine P_ah hM hA m13 hn100 (fun h5 q5 O5 R5 w5 l5 => ?_)
      refine P_keeps hM (m13.q q5) hn hA.2.2.1 R5 (fun h9 f9 m9 => ?_)
      rw [r48, z30, m9.2.1.1]
      refine hQ _ _ _ (C.put ((hA.mono (T' := T + 100) (by omega) hT).push I1) (bs.tr s13) F S13 U13 ((q5.1.mono (fun a ha => FQ_in ha)).tr f9) m9)
  · unfold D_Mo_hours
    exact P_in0 z2 ⟨fun z => absurd rfl z, fun _ => hQ _ _ _ C0⟩
theorem moveS_I {B : By} {T : Nat} {S : Sc} {k w : Nat} (hB : ByB B) (h : SI B T S) (hk : k < bN B) (hs : sail S k = true) : SI B T (moveS B k w S).2 := by
  have hn := hB.2.2.1
  refine SI.mk (moveS_B hB h.1 (by omega)) (moveS_P hn hB h.1 h.2.1 (by omega) hs) (by rw [moveS_H]; exact h.2.2.2.1) (moveS_J hB h.1 h.j hk hs)
theorem J_go {r : TR} {q b d m L T : Nat} {h : TH} {A : St} {a1 a2 : Int32} {Q : Int32 → Int32 → TH → Prop} (C : Cx r q b d m L T h A) (hT : T + 100 ≤ 100000) (hQ : ∀ x h' A', Cx r q b d m L (T + 100) h' A' → Q x x h') : D_SR_go r q a1 a2 h (fun x h1 => D_Mo_go r m a1 a2 h1 (fun y h2 => Q x y h2)) := by
  have hB := C.2.2.2.1.1
  have hn := hB.2.2.1
  have ap := C.1.ap
  obtain ⟨hR, hM, hqm, hA, hx, hm⟩ := id C
  obtain ⟨⟨-, r1, r2, r3, r4, -⟩, -, ⟨s1, s2, -⟩, -, -, -, -, rb, -, ap'⟩ := id hR
  obtain ⟨SB, SP, SA, SH, SN, SW, SO⟩ := hA.2.1
  have hap : apart b (q + 52) := by unfold apart; rcases ap' with x | x <;> omega
  have hbq : q + 3 ≤ b ∧ b + 23 ≤ q + 52 := by rcases ap' with x | x <;> omega
  have C0 := C.mono (T' := T + 100) (by omega) hT
  unfold D_SR_go
  refine P_SRisBoat (B := tB A) r1 hx.1.2.2.1 hB (fun k hk e => ⟨fun z => absurd z z01, fun _ => ?_⟩) (fun hnk => ⟨fun _ => ?_, fun z => absurd rfl z⟩)
  · subst e
    refine P_within (fun z2 w2 => ⟨fun _ => ?_, fun z => absurd z z01⟩) (fun z2 => ⟨fun z => absurd rfl z, fun _ => ?_⟩)
    · obtain ⟨w, hw1, hw4, rfl⟩ := wi_nI (x := 1) (y := 4) (by omega) z2 w2 (by omega)
      rw [r1, r2, r4]
      refine P_isSailing hx.2.2.2.1 SB (by omega) (fun z => ⟨fun _ => ?_, fun q => absurd q z01⟩) (fun z => ⟨fun q => absurd rfl q, fun _ => ?_⟩)
      · refine P_keep hR hA hx (fun h8 f8 U8 => ?_)
        have bs : BScr b h h8 := BScr.out (fun a x y => (f8 a (by omega)).1)
        have O8 := hx.1.scr bs
        have S8 : ScOK h8 (q + 52) (tS A) := hx.2.2.2.1.fr (fun a x y => (f8 a (by omega)).1)
        refine P_move rb s1 O8 hB S8 SB hap hk (by omega) (fun h13 f13 S13 => ?_)
        have I1 := (moveS_I (w := w) hB hA.2.1 hk z).mono (show T ≤ T + 100 by omega)
        have F : Fr (fun a => FBa b a ∨ (q + 52 ≤ a ∧ a < q + 182)) h h13 := (f8.mono (fun a ha => Or.inr (by omega))).tr (f13.mono (fun a ha => Or.inr (by unfold FMo at ha; omega)))
        have bs13 : BScr b h8 h13 := BScr.out (fun a x y => (f13 a (by unfold FMo; omega)).1)
        have U13 : PastOK h13 q (pushU (tU A) (tS A)) := U8.fq f13 (fun a x y w => by unfold FMo at w; omega) (by rw [pushU_len _ _ hA.2.2.1]; omega)
        have m13 := C.out (F.mono (fun a ha => FP_in ap ha))
        unfold D_Mo_go
        refine P_MoisBoat hM m13.bay (rockB_B hB) (fun k' hk' e' => ⟨fun z => absurd z z01, fun _ => ?_⟩) (fun z => absurd rfl (z k hk))
        refine P_in1 z2 w2 ⟨fun _ => ?_, fun z => absurd z z01⟩
        refine P_cp hM m13 hB (fun h4 q4 O4 R4 w4 l4 => ?_)
        refine P_Mo_isSailing hM R4 w4 SP hn hk (fun _ => ⟨fun _ => ?_, fun q => absurd q z01⟩) (fun w => absurd (z.symm.trans w) (by decide))
        refine P_goesBy hM O4 hB rfl R4 SB hk (by omega) (Or.inr z) (fun h5 k5 f5 R5 => ?_)
        refine P_keeps hM (m13.q (q4.tr (Qm.mk k5))) hn hA.2.2.1 R5 (fun h9 f9 m9 => ?_)
        exact hQ _ _ _ (C.put ((hA.mono (T' := T + 100) (by omega) hT).push I1) (bs.tr bs13) F S13 U13 (((q4.tr (Qm.mk k5)).1.mono (fun a ha => FQ_in ha)).tr f9) m9)
      · unfold D_Mo_go
        refine P_MoisBoat hM hm.bay (rockB_B hB) (fun k' hk' e' => ⟨fun z => absurd z z01, fun _ => ?_⟩) (fun z => absurd rfl (z k hk))
        refine P_in1 z2 w2 ⟨fun _ => ?_, fun z => absurd z z01⟩
        refine P_cp hM hm hB (fun h4 q4 O4 R4 w4 l4 => ?_)
        exact P_Mo_isSailing hM R4 w4 SP hn hk (fun w => absurd (z.symm.trans w) (by decide)) (fun _ => ⟨fun q => absurd rfl q, fun _ => hQ _ _ _ (C0.m q4)⟩)
    · unfold D_Mo_go
      refine P_MoisBoat hM hm.bay (rockB_B hB) (fun k' hk' e' => ⟨fun z => absurd z z01, fun _ => ?_⟩) (fun z => absurd rfl (z k hk))
      exact P_in0 z2 ⟨fun z => absurd rfl z, fun _ => hQ _ _ _ C0⟩
  · unfold D_Mo_go
    exact P_MoisBoat hM hm.bay (rockB_B hB) (fun k hk e => absurd e (hnk k hk)) (fun _ => ⟨fun _ => hQ _ _ _ C0, fun z => absurd rfl z⟩)
/-- a pan is turned -/
def panS (k : Nat) (S : Sc) : Sc := (sH S, sP S ^^^ 2 ^ k, sL S, sO S, sC S, sA S, sY S)
theorem bx1 : ∀ m : Fin 64, ∀ k : Fin 6, (nI m.1 ^^^ ((1 : Int32) <<< (nI k.1 &&& 31))) = nI (m.1 ^^^ 2 ^ k.1) ∧ m.1 ^^^ 2 ^ k.1 < 64 := by decide +kernel
theorem bx2 : ∀ m : Fin 64, ∀ k j : Fin 6, (m.1 ^^^ 2 ^ k.1).testBit j.1 = (if j.1 = k.1 then !m.1.testBit j.1 else m.1.testBit j.1) := by decide +kernel
theorem panS_I {B : By} {T : Nat} {S : Sc} {k : Nat} (hB : ByB B) (h : SI B T S) (hk : k < bN B) : SI B T (panS k S) := by
  have hn := hB.2.2.1
  obtain ⟨SB, SP, SA, SH, SN, SW, SO⟩ := h
  refine ⟨⟨SB.1, (bx1 ⟨_, SB.2.1⟩ ⟨k, by omega⟩).2, SB.2.2⟩, SP, SA, SH, fun i hi hi6 => ⟨?_, (SN i hi hi6).2⟩, SW, SO⟩
  have := bx2 ⟨_, SB.2.1⟩ ⟨k, by omega⟩ ⟨i, hi6⟩
  simp only [] at this
  show (sP S ^^^ 2 ^ k).testBit i = false
  rw [this, if_neg (by omega)]
  exact (SN i hi hi6).1
theorem J_pan {r : TR} {q b d m L T : Nat} {h : TH} {A : St} {a1 a2 : Int32} {Q : Int32 → Int32 → TH → Prop} (C : Cx r q b d m L T h A) (ha2 : a2 = 0 ∨ a2 = 1) (hT : T + 100 ≤ 100000) (hQ : ∀ x h' A', Cx r q b d m L (T + 100) h' A' → Q x x h') : D_SR_pan r q a1 a2 h (fun x h1 => D_Mo_pan r m a1 a2 h1 (fun y h2 => Q x y h2)) := by
  have hB := C.2.2.2.1.1
  have hn := hB.2.2.1
  have ap := C.1.ap
  obtain ⟨hR, hM, hqm, hA, hx, hm⟩ := id C
  obtain ⟨⟨-, r1, r2, r3, r4, -⟩, -, ⟨s1, s2, -⟩, -, -, -, -, rb, -, ap'⟩ := id hR
  obtain ⟨SB, SP, SA, SH, SN, SW, SO⟩ := hA.2.1
  have r48 : r m 48 = m + 31 := hM 48 (by decide) (by decide)
  have r49 : r m 49 = m + 32 := hM 49 (by decide) (by decide)
  have hbq : q + 3 ≤ b ∧ b + 23 ≤ q + 52 := by rcases ap' with x | x <;> omega
  have C0 := C.mono (T' := T + 100) (by omega) hT
  have hS := hx.2.2.2.1
  unfold D_SR_pan
  refine P_SRisBoat (B := tB A) r1 hx.1.2.2.1 hB (fun k hk e => ⟨fun z => absurd z z01, fun _ => ?_⟩) (fun hnk => ⟨fun _ => ?_, fun z => absurd rfl z⟩)
  · subst e
    have hk6 : k < 6 := by omega
    have e24 : (24 : Int32) + nI k = nI (24 + k) := nI_add 24 k
    have row := (hm.2.1.2.2.1 k hk).2.2.1
    have b1 := bx1 ⟨_, SB.2.1⟩ ⟨k, hk6⟩
    have b2 := fun j (hj : j < 6) => bx2 ⟨_, SB.2.1⟩ ⟨k, hk6⟩ ⟨j, hj⟩
    simp only [] at b1 b2
    have go : ∀ v : Int32, ¬ v = (if (sP (tS A)).testBit k then (1 : Int32) else 0) → a2 = v → DJ_SR_pan_28 r q (nI k) v (((h.1 (r q 2) 1) >>> (nI k &&& 31)) &&& 1) h (fun x h1 => D_Mo_pan r m (nI k) a2 h1 (fun y h2 => Q x y h2)) := by
      intro v hv ev
      have bt : (((h.1 (r q 2) 1) >>> (nI k &&& 31)) &&& 1) = (if (sP (tS A)).testBit k then (1 : Int32) else 0) := by
        rw [r2, hS.2.1]
        cases hp : (sP (tS A)).testBit k with
        | true => rw [(bt_1 SB.2.1 hk6).mpr hp]; rfl
        | false => rw [(bt_0 SB.2.1 hk6).mpr hp]; rfl
      rw [bt]
      unfold DJ_SR_pan_28
      refine ⟨fun _ => ?_, fun z => absurd z.symm hv⟩
      rw [r2, r4]
      refine P_keep hR hA hx (fun h9 f9 U9 h12 e12 => ?_)
      have S9 : ScOK h9 (q + 52) (tS A) := hS.fr (fun a x y => (f9 a (by omega)).1)
      rw [S9.2.1, b1.1] at e12
      have f12 : Fr (fun a => a = q + 52) h9 h12 := by rw [e12]; exact Fr.pI rfl
      have S12 : ScOK h12 (q + 52) (panS k (tS A)) := by
        have em : ∀ j, ¬ j = 1 → h12.1 (q + 52) j = h9.1 (q + 52) j := fun j hj => by rw [e12, pI_n _ _ _ _ (by omega)]
        refine ⟨by rw [em 0 (by omega)]; exact S9.1, by rw [e12, pI_s]; rfl, by rw [em 2 (by omega)]; exact S9.2.2.1, by rw [em 3 (by omega)]; exact S9.2.2.2.1, fun j hj => ?_, fun j hj => ?_, fun j hj => ?_⟩
        · rw [(f12 _ (by omega)).1]; exact S9.2.2.2.2.1 j hj
        · rw [(f12 _ (by omega)).1]; exact S9.2.2.2.2.2.1 j hj
        · rw [(f12 _ (by omega)).1]; exact S9.2.2.2.2.2.2 j hj
      have I1 := (panS_I hB hA.2.1 hk).mono (show T ≤ T + 100 by omega)
      have F : Fr (fun a => FBa b a ∨ (q + 52 ≤ a ∧ a < q + 182)) h h12 := (f9.mono (fun a ha => Or.inr (by omega))).tr (f12.mono (fun a ha => Or.inr (by omega)))
      have bs : BScr b h h12 := (BScr.out (fun a x y => (f9 a (by omega)).1)).tr (BScr.out (fun a x y => (f12 a (by omega)).1))
      have U12 : PastOK h12 q (pushU (tU A) (tS A)) := U9.fq f12 (fun a x y w => by omega) (by rw [pushU_len _ _ hA.2.2.1]; omega)
      have m12 := C.out (F.mono (fun a ha => FP_in ap ha))
      have mo : ∀ u : Int32, ¬ u = a2 → DJ_Mo_pan_26 r m (nI k) a2 u h12 (fun y h2 => Q 1 y h2) := by
        intro u hu
        unfold DJ_Mo_pan_26
        refine ⟨fun _ => P_cp hM m12 hB (fun h4 q4 O4 R4 w4 l4 => ?_), fun z => absurd z hu⟩
        have fin : ∀ h15, h15 = pI h4 (m + 32) (24 + k) a2 → D_Mo_keeps r m h15 (fun h16 => Q 1 1 h16) := by
          intro h15 e15
          have q15 : Qm m h4 h15 := Qm.fr (F := fun a => a = m + 32) (by rw [e15]; exact Fr.pI rfl) (fun a ha => ⟨by unfold FQ; omega, by omega⟩)
          have ej : ∀ j, ¬ j = 24 + k → h15.1 (m + 32) j = h4.1 (m + 32) j := fun j hj => by rw [e15, pI_n _ _ _ _ (by omega)]
          have R15 : RowOK (h15.1 (m + 32)) (bN (tB A)) (-1) (panS k (tS A)) := by
            refine ⟨by rw [ej 30 (by omega)]; exact R4.1, by rw [ej 31 (by omega)]; exact R4.2.1, fun j hj => ?_, fun c hc j hj => ?_⟩
            · obtain ⟨g1, g2, g3, g4, g5⟩ := R4.2.2.1 j hj
              refine ⟨by rw [ej j (by omega)]; exact g1, by rw [ej (6 + j) (by omega)]; exact g2, ?_, g4, fun w => ?_⟩
              · show h15.1 (m + 32) (24 + j) = (if (sP (tS A) ^^^ 2 ^ k).testBit j then 1 else 0)
                rw [b2 j (by omega)]
                by_cases e : j = k
                · subst e
                  rw [if_pos rfl, e15, pI_s]
                  cases hp : (sP (tS A)).testBit j with
                  | true =>
                    rw [hp, ← ev] at hv
                    simp only [if_true] at hv
                    rw [ha2.resolve_right hv]; rfl
                  | false =>
                    rw [hp, ← ev] at hv
                    simp only [Bool.false_eq_true, if_false] at hv
                    rw [ha2.resolve_left hv]; rfl
                · rw [if_neg e, ej (24 + j) (by omega)]
                  exact g3
              · rw [ej (12 + j) (by omega), ej (18 + j) (by omega)]
                exact g5 w
            · rw [ej (32 + (6 * c + j)) (by omega), ej (272 + (6 * c + j)) (by omega)]
              exact R4.2.2.2 c hc j hj
          refine P_keeps hM (m12.q (q4.tr q15)) hn hA.2.2.1 R15 (fun h16 f16 m16 => ?_)
          exact hQ _ _ _ (C.put ((hA.mono (T' := T + 100) (by omega) hT).push I1) bs F S12 U12 (((q4.tr q15).1.mono (fun a ha => FQ_in ha)).tr f16) m16)
        rw [e24, r49, nI_clamp (n := 24 + k) (by omega)]
        refine ⟨fun z => ⟨vp_in_nI (by omega) (by omega), fun h15 e15 => fin h15 (by rw [e15, z])⟩, fun z => ⟨vp_in_nI (by omega) (by omega), fun h15 e15 => fin h15 (by rw [e15, ha2.resolve_left z])⟩⟩
      unfold D_Mo_pan
      refine P_MoisBoat hM m12.bay (rockB_B hB) (fun k' hk' e' => ⟨fun z => absurd z z01, fun _ i5 e5 => ?_⟩) (fun z => absurd rfl (z k hk))
      rw [e24] at e5
      subst e5
      rw [r48, nI_clamp (n := 24 + k) (by omega), (m12.2.1.2.2.1 k hk).2.2.1]
      refine ⟨vp_in_nI (by omega) (by omega), fun z => mo 0 (fun w => ?_), fun z => mo 1 (fun w => ?_)⟩
      · refine hv ?_
        rw [← ev, ← w]
        cases hp : (sP (tS A)).testBit k with
        | true => rw [hp] at z; exact absurd rfl z
        | false => rfl
      · exact hv (by rw [← ev, ← w]; exact z.symm)
    have st : ∀ v : Int32, v = (if (sP (tS A)).testBit k then (1 : Int32) else 0) → a2 = v → DJ_SR_pan_28 r q (nI k) v (((h.1 (r q 2) 1) >>> (nI k &&& 31)) &&& 1) h (fun x h1 => D_Mo_pan r m (nI k) a2 h1 (fun y h2 => Q x y h2)) := by
      intro v hv ev
      have bt : (((h.1 (r q 2) 1) >>> (nI k &&& 31)) &&& 1) = (if (sP (tS A)).testBit k then (1 : Int32) else 0) := by
        rw [r2, hS.2.1]
        cases hp : (sP (tS A)).testBit k with
        | true => rw [(bt_1 SB.2.1 hk6).mpr hp]; rfl
        | false => rw [(bt_0 SB.2.1 hk6).mpr hp]; rfl
      rw [bt]
      unfold DJ_SR_pan_28
      refine ⟨fun z => absurd hv.symm z, fun _ => ?_⟩
      have mo : ∀ u : Int32, u = a2 → DJ_Mo_pan_26 r m (nI k) a2 u h (fun y h2 => Q 0 y h2) := by
        intro u hu
        unfold DJ_Mo_pan_26
        exact ⟨fun z => absurd hu z, fun _ => hQ _ _ _ C0⟩
      unfold D_Mo_pan
      refine P_MoisBoat hM hm.bay (rockB_B hB) (fun k' hk' e' => ⟨fun z => absurd z z01, fun _ i5 e5 => ?_⟩) (fun z => absurd rfl (z k hk))
      rw [e24] at e5
      subst e5
      rw [r48, nI_clamp (n := 24 + k) (by omega), row]
      refine ⟨vp_in_nI (by omega) (by omega), fun z => mo 0 ?_, fun z => mo 1 ?_⟩
      · rw [ev, hv]
        cases hp : (sP (tS A)).testBit k with
        | true => rw [hp] at z; exact absurd rfl z
        | false => rfl
      · rw [ev, hv]; exact z.symm
    refine ⟨fun z => ?_, fun z => ?_⟩
    · by_cases c : (0 : Int32) = (if (sP (tS A)).testBit k then (1 : Int32) else 0)
      · exact st 0 c z
      · exact go 0 c z
    · by_cases c : (1 : Int32) = (if (sP (tS A)).testBit k then (1 : Int32) else 0)
      · exact st 1 c (ha2.resolve_left z)
      · exact go 1 c (ha2.resolve_left z)
  · unfold D_Mo_pan
    exact P_MoisBoat hM hm.bay (rockB_B hB) (fun k hk e => absurd e (hnk k hk)) (fun _ => ⟨fun _ => hQ _ _ _ C0, fun z => absurd rfl z⟩)
