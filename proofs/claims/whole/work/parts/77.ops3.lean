/-! questions about hours to come -/
theorem cntF_lt {p : Nat → Bool} {j : Nat} (hp : p j = false) : ∀ n, j < n → cntF p n < n := by
  intro n
  induction n with
  | zero => intro h; exact absurd h (Nat.not_lt_zero _)
  | succ n ih =>
    intro h
    unfold cntF
    by_cases e : j = n
    · subst e
      rw [if_neg (by rw [hp]; decide)]
      have := cntF_le p j
      omega
    · have := ih (by omega)
      split <;> omega
theorem rkUp_lt {S : Sc} {k n : Nat} (hk : k < n) : rkUp S k n < n := by
  rw [rkUp_cnt]
  exact cntF_lt (j := k) (decide_eq_false (by omega)) n hk
theorem rdF_no {S : Sc} {n : Nat} {x : Int32} (hx : ∀ k, k < n → ¬ x = nI k) : ∀ m j, j + m ≤ n → rdF S n x m j = -1 := by
  intro m
  induction m with
  | zero => intro j _; rfl
  | succ m ih =>
    intro j hj
    unfold rdF
    rw [if_neg (fun e => hx _ (rkUp_lt (S := S) (k := j) (by omega)) e.symm)]
    exact ih (j + 1) (by omega)
theorem J_ranked {r : TR} {q b d m L T : Nat} {h : TH} {A : St} {a1 : Int32} {Q : Int32 → Int32 → TH → Prop} (C : Cx r q b d m L T h A) (hQ : ∀ x h', Cx r q b d m L T h' A → Q x x h') : D_SR_ranked r q a1 h (fun x h1 => D_Mo_ranked r m a1 h1 (fun y h2 => Q x y h2)) := by
  have hB := C.2.2.2.1.1
  have hn := hB.2.2.1
  obtain ⟨hR, hM, hqm, hA, hx, hm⟩ := id C
  obtain ⟨⟨-, r1, r2, r3, -⟩, -, ⟨s1, s2, -⟩, -, -, -, -, rb, -, ap⟩ := id hR
  obtain ⟨SB, SP, SA, SH, SN, SW, SO⟩ := hA.2.1
  unfold D_SR_ranked
  rw [r1, r2, hx.1.2.2.1]
  refine P_boatRanked s1 hx.2.2.2.1 SB SA hn ?_
  unfold D_Mo_ranked
  refine P_MoisBoat hM hm.bay (rockB_B hB) (fun k hk e => ⟨fun _ => ?_, fun z => absurd z z01⟩) (fun hnk => ⟨fun z => absurd rfl z, fun _ => ?_⟩)
  · exact P_cp hM hm hB (fun h4 q4 O4 R4 w4 l4 => P_rankedNow hM O4 hB R4 SP (hQ _ _ (C.m q4)))
  · rw [rdF_no (n := bN (tB A)) hnk (bN (tB A)) 0 (by omega)]
    exact hQ _ _ C
/-- hours go by in the reference, from now on -/
theorem P_ah {r : TR} {m L T n : Nat} {h : TH} {A : St} {Q : TH → Prop} (hM : RMo r m) (hA : AI T A) (hm : AM h m L A) (hn : n ≤ 100) (hQ : ∀ h', Qm m h h' → MBay h' m L (-1) (tB A) → RowOK (h'.1 (m + 32)) (bN (tB A)) (-1) (hoursS (tB A) (nI (bSe (tB A))) n (tS A)) → h'.1 m 51 = -1 → h'.1 m 50 = nI (bSe (tB A)) → Q h') : D_Mo_copies r m h (fun h1 => D_Mo_goes r m (nI n) h1 Q) := by
  have hT := hA.2.2.2.2.2.2.2.2
  have SH := hA.2.1.2.2.2.1
  refine P_cp hM hm hA.1 (fun h4 q4 O4 R4 w4 l4 => ?_)
  exact P_goes hM O4 hA.1 rfl R4 w4 l4 hA.2.1.1 hA.2.1.2.1 (by omega) (by omega) (fun h5 k5 R5 => hQ h5 (q4.tr (Qm.mk k5)) (O4.mk k5) R5 (by rw [k5.2 51 (by omega)]; exact w4) (by rw [k5.2 50 (by omega)]; exact l4))
theorem P_isLong1 {r : TR} {h : TH} {a : Int32} {Q : Int32 → TH → Prop} (z : ¬ a < 0) (w : ¬ 100 < a) (h1 : Q 1 h) : D_Mo_isLong r a h Q := by
  unfold D_Mo_isLong
  exact P_in1 z w ⟨rfl, h1⟩
theorem P_isLong0 {r : TR} {h : TH} {a : Int32} {Q : Int32 → TH → Prop} (z : a < 0 ∨ 100 < a) (h0 : Q 0 h) : D_Mo_isLong r a h Q := by
  unfold D_Mo_isLong
  exact P_in0 z ⟨rfl, h0⟩
theorem J_then {r : TR} {q b d m L T : Nat} {h : TH} {A : St} {a1 a2 a3 : Int32} {Q : Int32 → Int32 → TH → Prop} (C : Cx r q b d m L T h A) (hQ : ∀ x h', Cx r q b d m L T h' A → Q x x h') : D_SR_then r q a1 a2 a3 h (fun x h1 => D_Mo_then r m a1 a2 a3 h1 (fun y h2 => Q x y h2)) := by
  have hB := C.2.2.2.1.1
  have hn := hB.2.2.1
  obtain ⟨hR, hM, hqm, hA, hx, hm⟩ := id C
  obtain ⟨⟨-, r1, r2, r3, -⟩, -, ⟨s1, s2, -⟩, -, -, -, -, rb, -, ap⟩ := id hR
  have hT := hA.2.2.2.2.2.2.2.2
  have r49 : r m 49 = m + 32 := hM 49 (by decide) (by decide)
  have e12 : ∀ k, (12 : Int32) + nI k = nI (12 + k) := fun k => nI_add 12 k
  unfold D_SR_then
  refine P_SRisBoat (B := tB A) r1 hx.1.2.2.1 hB (fun k hk e => ⟨fun z => absurd z z01, fun _ => ?_⟩) (fun hnk => ⟨fun _ => ?_, fun z => absurd rfl z⟩)
  · subst e
    have hk6 : k < 6 := by omega
    have nk := nI_nm (k := k) (by omega)
    refine P_within (fun z2 w2 => ⟨fun z => absurd z z01, fun _ => ?_⟩) (fun z2 => ⟨fun _ => ?_, fun z => absurd rfl z⟩)
    · refine P_within (fun z3 w3 => ⟨fun _ => ?_, fun z => absurd z z01⟩) (fun z3 => ⟨fun z => absurd rfl z, fun _ => ?_⟩)
      · obtain ⟨n, -, hn100, rfl⟩ := wi_nI (x := 0) (y := 100) (by omega) z2 w2 (by omega)
        obtain ⟨w, -, hw, rfl⟩ := wi_nI (x := 0) (y := 2) (by omega) z3 w3 (by omega)
        refine P_lookAhead hR hA hx hn100 (fun h1 f1 t1 S1 => ?_)
        have C1 := C.x f1 t1
        have I1 := hoursS_I (seed := nI (bSe (tB A))) hB hA.2.1 n (by omega)
        have mo : ∀ x : Int32, (w = 0 → x = eastI (hoursS (tB A) (nI (bSe (tB A))) n (tS A)) k) → (w = 1 → x = southI (hoursS (tB A) (nI (bSe (tB A))) n (tS A)) k) → (w = 2 → x = placeI (hoursS (tB A) (nI (bSe (tB A))) n (tS A)) k) → D_Mo_then r m (nI k) (nI n) (nI w) h1 (fun y h2 => Q x y h2) := by
          intro x x0 x1 x2
          unfold D_Mo_then
          refine P_MoisBoat hM C1.2.2.2.2.2.bay (rockB_B hB) (fun k' hk' e' => ⟨fun z => absurd z z01, fun _ => ?_⟩) (fun z => absurd rfl (z k hk))
          refine P_isLong1 z2 w2 ⟨fun z => absurd z z01, fun _ => P_in1 z3 w3 ⟨fun _ => ?_, fun z => absurd z z01⟩⟩
          refine P_ah hM hA C1.2.2.2.2.2 hn100 (fun h5 q5 O5 R5 w5 l5 => ?_)
          have g := R5.2.2.1 k hk
          have C5 := C1.m q5
          refine ⟨fun z => ?_, fun z i e => ?_⟩
          · have hw2 : ¬ w = 2 := fun e => z (by rw [e]; rfl)
            refine P_MoisLost hM R5 hn hk nk (fun y => ⟨fun q => absurd q z01, fun _ => ?_⟩) (fun y => ⟨fun _ i e => ?_, fun q => absurd rfl q⟩)
            · have : x = -2 := by
                by_cases e : w = 0
                · rw [x0 e]; unfold eastI; rw [if_pos y]
                · rw [x1 (by omega)]; unfold southI; rw [if_pos y]
              rw [this]; exact hQ _ _ C5
            · have e' : i = nI (6 * w + k) := by rw [e, show (6 : Int32) * nI w = nI (6 * w) from pk_mul 6 w, nI_add]
              rw [e', r49, nI_clamp (n := 6 * w + k) (by omega)]
              refine ⟨vp_in_nI (by omega) (by omega), ?_⟩
              by_cases e : w = 0
              · subst e
                have : x = nI (sC (hoursS (tB A) (nI (bSe (tB A))) n (tS A)) k % 8) := by rw [x0 rfl]; unfold eastI; rw [if_neg (by rw [y]; decide)]
                rw [this, show 6 * 0 + k = k by omega, g.1]; exact hQ _ _ C5
              · have e1 : w = 1 := by omega
                subst e1
                have : x = nI (sC (hoursS (tB A) (nI (bSe (tB A))) n (tS A)) k / 8) := by rw [x1 rfl]; unfold southI; rw [if_neg (by rw [y]; decide)]
                rw [this, show 6 * 1 + k = 6 + k by omega, g.2.1]; exact hQ _ _ C5
          · have hw2 : w = 2 := (nI_eq (b := 2) (by omega) (by omega)).mp z
            have g12 := (g.2.2.2.2 nk).1
            rw [e12] at e
            subst e
            rw [r49, nI_clamp (n := 12 + k) (by omega), g12]
            refine ⟨vp_in_nI (by omega) (by omega), fun z i e => ?_, fun z => ?_⟩
            · rw [e12] at e
              subst e
              rw [nI_clamp (n := 12 + k) (by omega), g12]
              refine ⟨vp_in_nI (by omega) (by omega), ?_⟩
              rw [x2 hw2]
              unfold placeI
              cases ho : (sO (hoursS (tB A) (nI (bSe (tB A))) n (tS A))).testBit k with
              | true => simp only [if_true]; exact hQ _ _ C5
              | false => rw [ho] at z; exact absurd rfl z
            · rw [x2 hw2]
              unfold placeI
              cases ho : (sO (hoursS (tB A) (nI (bSe (tB A))) n (tS A))).testBit k with
              | true => rw [ho] at z; simp only [if_true] at z; have := I1.2.1 k hk ho; exact absurd z (nI_ne0 (by omega) (by omega))
              | false => simp only [Bool.false_eq_true, if_false]; exact hQ _ _ C5
        rw [r3]
        refine ⟨fun y0 => ⟨fun y1 => ?_, fun y1 => ?_⟩, fun y0 => ?_⟩
        · refine P_arrivalOf s2 S1 I1.1 hk6 (mo _ (fun e => absurd (by rw [e]; rfl) y0) (fun e => absurd (by rw [e]; rfl) y1) (fun _ => rfl))
        · have := (nI_eq (b := 1) (by omega) (by omega)).mp y1
          exact P_southOf s2 S1 I1.1 hk6 (mo _ (fun e => absurd e (by omega)) (fun _ => rfl) (fun e => absurd e (by omega)))
        · have := (nI_eq (b := 0) (by omega) (by omega)).mp y0
          exact P_eastOf s2 S1 I1.1 hk6 (mo _ (fun _ => rfl) (fun e => absurd e (by omega)) (fun e => absurd e (by omega)))
      · unfold D_Mo_then
        refine P_MoisBoat hM hm.bay (rockB_B hB) (fun k' hk' e' => ⟨fun z => absurd z z01, fun _ => ?_⟩) (fun z => absurd rfl (z k hk))
        exact P_isLong1 z2 w2 ⟨fun z => absurd z z01, fun _ => P_in0 z3 ⟨fun z => absurd rfl z, fun _ => hQ _ _ C⟩⟩
    · unfold D_Mo_then
      refine P_MoisBoat hM hm.bay (rockB_B hB) (fun k' hk' e' => ⟨fun z => absurd z z01, fun _ => ?_⟩) (fun z => absurd rfl (z k hk))
      exact P_isLong0 z2 ⟨fun _ => hQ _ _ C, fun z => absurd rfl z⟩
  · unfold D_Mo_then
    exact P_MoisBoat hM hm.bay (rockB_B hB) (fun k hk e => absurd e (hnk k hk)) (fun _ => ⟨fun _ => hQ _ _ C, fun z => absurd rfl z⟩)
theorem SI.lost {B : By} {T : Nat} {S : Sc} (hB : ByB B) (h : SI B T S) : setF (fun k => (sL S).testBit k) (bN B) = sL S := by
  refine setF_eq hB.2.2.1 h.1.2.2.1 (fun k hk => ?_)
  by_cases e : k < bN B
  · rw [decide_eq_true e, Bool.true_and]
  · rw [decide_eq_false e, Bool.false_and]; exact (h.2.2.2.2.1 k (by omega) hk).2.1
theorem SI.pans {B : By} {T : Nat} {S : Sc} (hB : ByB B) (h : SI B T S) : setF (fun k => (sP S).testBit k) (bN B) = sP S := by
  refine setF_eq hB.2.2.1 h.1.2.1 (fun k hk => ?_)
  by_cases e : k < bN B
  · rw [decide_eq_true e, Bool.true_and]
  · rw [decide_eq_false e, Bool.false_and]; exact (h.2.2.2.2.1 k (by omega) hk).1
theorem SI.home {B : By} {T : Nat} {S : Sc} (hB : ByB B) (h : SI B T S) : setF (fun k => (sO S).testBit k) (bN B) = sO S := by
  refine setF_eq hB.2.2.1 h.1.2.2.2.1 (fun k hk => ?_)
  by_cases e : k < bN B
  · rw [decide_eq_true e, Bool.true_and]
  · rw [decide_eq_false e, Bool.false_and]; exact (h.2.2.2.2.1 k (by omega) hk).2.2
theorem J_many {r : TR} {q b d m L T : Nat} {h : TH} {A : St} {a1 a2 : Int32} {Q : Int32 → Int32 → TH → Prop} (C : Cx r q b d m L T h A) (hQ : ∀ x h', Cx r q b d m L T h' A → Q x x h') : D_SR_many r q a1 a2 h (fun x h1 => D_Mo_many r m a1 a2 h1 (fun y h2 => Q x y h2)) := by
  have hB := C.2.2.2.1.1
  have hn := hB.2.2.1
  obtain ⟨hR, hM, hqm, hA, hx, hm⟩ := id C
  obtain ⟨⟨-, r1, r2, r3, -⟩, -, ⟨s1, s2, -⟩, -, -, -, -, rb, -, ap⟩ := id hR
  have hT := hA.2.2.2.2.2.2.2.2
  have r49 : r m 49 = m + 32 := hM 49 (by decide) (by decide)
  have z31 : (31 : Int32).toNatClampNeg = 31 := by decide
  unfold D_SR_many
  refine P_within (fun z2 w2 => ⟨fun _ => ?_, fun z => absurd z z01⟩) (fun z2 => ⟨fun z => absurd rfl z, fun _ => ?_⟩)
  · obtain ⟨n, -, hn100, rfl⟩ := wi_nI (x := 0) (y := 100) (by omega) z2 w2 (by omega)
    refine P_lookAhead hR hA hx hn100 (fun h1 f1 t1 S1 => ?_)
    have C1 := C.x f1 t1
    have I1 := hoursS_I (seed := nI (bSe (tB A))) hB hA.2.1 n (by omega)
    rw [r3]
    refine ⟨fun y => ?_, fun y => ?_⟩
    · rw [S1.2.2.2.1]
      refine P_bitCount I1.1.2.2.2.1 ?_
      unfold D_Mo_many
      refine P_isLong1 z2 w2 ⟨fun _ => ?_, fun z => absurd z z01⟩
      refine P_ah hM hA C1.2.2.2.2.2 hn100 (fun h5 q5 O5 R5 w5 l5 => ?_)
      refine ⟨fun _ => ?_, fun z => absurd y z⟩
      rw [r49, z31, R5.2.1]
      exact hQ _ _ (C1.m q5)
    · rw [S1.2.2.1]
      refine P_bitCount I1.1.2.2.1 ?_
      unfold D_Mo_many
      refine P_isLong1 z2 w2 ⟨fun _ => ?_, fun z => absurd z z01⟩
      refine P_ah hM hA C1.2.2.2.2.2 hn100 (fun h5 q5 O5 R5 w5 l5 => ?_)
      refine ⟨fun z => absurd z y, fun _ => ?_⟩
      refine P_lostNow hM O5 hB R5 ?_
      rw [I1.lost hB]
      exact P_bits I1.1.2.2.1 (hQ _ _ (C1.m q5))
  · unfold D_Mo_many
    exact P_isLong0 z2 ⟨fun z => absurd rfl z, fun _ => hQ _ _ C⟩
theorem J_leader {r : TR} {q b d m L T : Nat} {h : TH} {A : St} {a1 : Int32} {Q : Int32 → Int32 → TH → Prop} (C : Cx r q b d m L T h A) (hQ : ∀ x h', Cx r q b d m L T h' A → Q x x h') : D_SR_leader r q a1 h (fun x h1 => D_Mo_leader r m a1 h1 (fun y h2 => Q x y h2)) := by
  have hB := C.2.2.2.1.1
  have hn := hB.2.2.1
  obtain ⟨hR, hM, hqm, hA, hx, hm⟩ := id C
  obtain ⟨⟨-, r1, r2, r3, -⟩, -, ⟨s1, s2, -⟩, -, -, -, -, rb, -, ap⟩ := id hR
  have hT := hA.2.2.2.2.2.2.2.2
  have r25 : r m 25 = m + 12 := hM 25 (by decide) (by decide)
  have mb : ∀ {h1 : TH}, Cx r q b d m L T h1 A → h1.1 m 18 = nI L ∧ L < 2 ∧ h1.1 (m + 12) L = nI (bN (tB A)) := fun C1 => ⟨C1.2.2.2.2.2.bay.1, C1.2.2.2.2.2.bay.2.1, C1.2.2.2.2.2.bay.2.2.2.2.2.1⟩
  unfold D_SR_leader
  refine P_within (fun z2 w2 => ⟨fun _ => ?_, fun z => absurd z z01⟩) (fun z2 => ⟨fun z => absurd rfl z, fun _ => ?_⟩)
  · obtain ⟨n, -, hn100, rfl⟩ := wi_nI (x := 0) (y := 100) (by omega) z2 w2 (by omega)
    rw [r1, hx.1.2.2.1]
    refine ⟨fun y => ?_, fun y => ?_⟩
    · refine P_lookAhead hR hA hx hn100 (fun h1 f1 t1 S1 => ?_)
      have C1 := C.x f1 t1
      have I1 := hoursS_I (seed := nI (bSe (tB A))) hB hA.2.1 n (by omega)
      rw [r3, C1.2.2.2.2.1.1.2.2.1]
      refine P_boatRanked s2 S1 I1.1 I1.2.2.1 hn ?_
      unfold D_Mo_leader
      refine P_isLong1 z2 w2 ⟨fun _ i e => ?_, fun z => absurd z z01⟩
      obtain ⟨b1, b2, b3⟩ := mb C1
      rw [b1] at e
      subst e
      rw [r25, nI_clamp (n := L) (by omega), b3]
      refine ⟨vp_in_nI b2 (by omega), fun _ => ?_, fun z => absurd z y⟩
      refine P_ah hM hA C1.2.2.2.2.2 hn100 (fun h5 q5 O5 R5 w5 l5 => ?_)
      exact P_rankedNow hM O5 hB R5 I1.2.1 (hQ _ _ (C1.m q5))
    · unfold D_Mo_leader
      refine P_isLong1 z2 w2 ⟨fun _ i e => ?_, fun z => absurd z z01⟩
      obtain ⟨b1, b2, b3⟩ := mb C
      rw [b1] at e
      subst e
      rw [r25, nI_clamp (n := L) (by omega), b3]
      exact ⟨vp_in_nI b2 (by omega), fun z => absurd y z, fun _ => hQ _ _ C⟩
  · unfold D_Mo_leader
    exact P_isLong0 z2 ⟨fun z => absurd rfl z, fun _ => hQ _ _ C⟩
