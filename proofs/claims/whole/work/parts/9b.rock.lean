/-! rock: both sides -/
def lostHi (B : By) (S : Sc) : Prop := ∀ k, bN B ≤ k → k < 6 → (sL S).testBit k = false
theorem moveS_hi {B : By} {S : Sc} {j w : Nat} (hSB : ScB S) (hn : bN B ≤ 6) (hj : j < bN B) (h : lostHi B S) : lostHi B (moveS B j w S).2 := by
  unfold moveS
  cases hb : besF (bW B) (bH B) (sC S j) w with
  | none => exact h
  | some d =>
    show lostHi B (if w = 0 then ((3 : Int32), S) else if bK B d = 1 then (2, lostS j (cellS j d S)) else if bK B d = 2 then (1, homeS j (cellS j d S)) else (0, cellS j d S)).2
    by_cases w0 : w = 0
    · rw [if_pos w0]; exact h
    rw [if_neg w0]
    by_cases k1 : bK B d = 1
    · rw [if_pos k1]
      intro k a b
      show (sL S ||| 2 ^ j).testBit k = false
      rw [tbor hSB.2.2.1 (by omega) b, h k a b, decide_eq_false (by omega)]; rfl
    rw [if_neg k1]
    by_cases k2 : bK B d = 2
    · rw [if_pos k2]; exact h
    · rw [if_neg k2]; exact h
theorem mUp_hi {B : By} {S : Sc} {seed : Int32} (hB : ByB B) (hSB : ScB S) (h : lostHi B S) : ∀ j, j ≤ bN B → lostHi B (mUp B S seed j) := by
  have hn := hB.2.2.1
  intro j
  induction j with
  | zero => intro _; exact h
  | succ j ih =>
    intro hj
    unfold mUp
    split
    · exact moveS_hi (mUp_B hB hSB j (by omega)).1 hn (by omega) (ih (by omega))
    · exact ih (by omega)
theorem layAll_hi {B : By} {S : Sc} (h : lostHi B S) : lostHi B (layAll B S) := by
  intro k a b
  have e : sL (layAll B S) = sL S := (layUp_same B (windF B (sH S)) (sailM B S &&& sP S) S (bN B)).2.1
  rw [e]; exact h k a b
theorem hoursS_hi {B : By} {S : Sc} {seed : Int32} (hB : ByB B) (hSB : ScB S) (h : lostHi B S) : ∀ n, sH S + n ≤ 1000000 → lostHi B (hoursS B seed n S) := by
  intro n
  induction n with
  | zero => intro _; exact h
  | succ n ih => intro hn; exact layAll_hi (mUp_hi hB (hoursS_B (seed := seed) hB hSB n (by omega)).1 (ih (by omega)) _ (Nat.le_refl _))
theorem beginS_hi {B : By} (hB : ByB B) : lostHi B (beginS B) := by
  refine layAll_hi (fun k a b => ?_)
  rw [((begUp_P hB.2.2.1 hB) (bN B) (Nat.le_refl _)).2.2, Nat.zero_testBit]
theorem beginS_P {B : By} (hB : ByB B) : ScP (bN B) (beginS B) := by
  have h := ((begUp_P hB.2.2.1 hB) (bN B) (Nat.le_refl _)).1
  obtain ⟨a, b, c, d, e⟩ := layUp_same B (windF B (sH (begUp B (bN B)))) (sailM B (begUp B (bN B)) &&& sP (begUp B (bN B))) (begUp B (bN B)) (bN B)
  intro k hk ho
  have ho' : (sO (begUp B (bN B))).testBit k = true := by rw [← c]; exact ho
  have := h k hk ho'
  refine ⟨?_, ?_, ?_⟩
  · show 1 ≤ sA (layUp B _ _ (bN B) (begUp B (bN B))) k
    rw [e]; exact this.1
  · show sA (layUp B _ _ (bN B) (begUp B (bN B))) k ≤ 6
    rw [e]; exact this.2.1
  · show (sL (layUp B _ _ (bN B) (begUp B (bN B)))).testBit k = false
    rw [b]; exact this.2.2
/-- as the text begins, with a rock more, behind n hours -/
def rkS (B : By) (n c : Nat) : Sc := hoursS (rockB (nI c) B) (nI (bSe B)) n (beginS (rockB (nI c) B))
theorem rkS_B {B : By} {n c : Nat} (hB : ByB B) (hn : n ≤ 100) : ScB (rkS B n c) ∧ setF (fun k => (sL (rkS B n c)).testBit k) (bN B) = sL (rkS B n c) := by
  have hB' := rockB_B (rk := nI c) hB
  obtain ⟨b1, b2⟩ := beginS_B hB'
  have s1 := (hoursS_B (seed := nI (bSe B)) hB' b1 n (by omega)).1
  refine ⟨s1, setF_eq hB.2.2.1 s1.2.2.1 (fun k hk => ?_)⟩
  rcases Nat.lt_or_ge k (bN B) with z | z
  · rw [decide_eq_true z, Bool.true_and]
  · rw [decide_eq_false (by omega), Bool.false_and]
    exact hoursS_hi (seed := nI (bSe B)) hB' b1 (beginS_hi hB') n (by omega) k z hk
theorem kin {B : By} (hB : ByB B) {c : Nat} (hc : c < 40) (h : bK B c = 0) : c % 8 < bW B ∧ c / 8 < bH B := by
  have := hB.2.2.2.2.2.1 c hc
  split at this
  · next z => exact z
  · omega
theorem BayOK.rock {h : TH} {b c : Nat} {B : By} (hB : ByB B) (hc : c < 40) (hk : bK B c = 0) (hO : BayOK h b B) : BayOK (pI h (b + 1) c 1) b (rockB (nI c) B) := by
  obtain ⟨h1, h2, h3, h4, h5, h6, h7, h8, h9, h10, h11, h12⟩ := hO
  have z : ∀ a, ¬ a = b + 1 → (pI h (b + 1) c 1).1 a = h.1 a := fun a x => pI_o _ _ _ _ x
  have i := kin hB hc hk
  refine ⟨by rw [z b (by omega)]; exact h1, by rw [z b (by omega)]; exact h2, by rw [z b (by omega)]; exact h3, by rw [z b (by omega)]; exact h4, by rw [z b (by omega)]; exact h5, fun c' hc' => ?_, fun k hk' => ?_, h8.mv (by rw [z _ (by omega)]) (z _ (by omega)) (z _ (by omega)), h9.mv (by rw [z _ (by omega)]) (z _ (by omega)) (z _ (by omega)), h10.mv (by rw [z _ (by omega)]) (z _ (by omega)) (z _ (by omega)), fun j a b' => by rw [z _ (by omega)]; exact h11 j a b', ?_⟩
  · show (pI h (b + 1) c 1).1 (b + 1) c' = nI (if nI c' = nI c ∧ c' % 8 < bW B ∧ c' / 8 < bH B then 1 else bK B c')
    by_cases e : c' = c
    · subst e; rw [pI_s, if_pos ⟨rfl, i⟩]; rfl
    · rw [pI_n _ _ _ _ (by omega), if_neg (fun w => e ((nI_eq (by omega) (by omega)).mp w.1))]; exact h6 c' hc'
  · rw [z (b + 4) (by omega), z (b + 5) (by omega), z (b + 6) (by omega), z (b + 7) (by omega)]; exact h7 k hk'
  · rw [z (b + 19) (by omega)]; exact h12
theorem P_lostWithRock {r : TR} {q b d T n c : Nat} {h : TH} {A : St} {Q : Int32 → TH → Prop} (hR : RX r q b d) (hA : AI T A) (hx : AX h q b d A) (hn : n ≤ 60) (hc : c < 40) (hk : bK (tB A) c = 0) (hQ : ∀ h', Fr (FX q b) h h' → BScr b h h' → Q (nI (sL (rkS (tB A) n c))) h') : D_SR_lostWithRock r q (nI c) (nI n) h Q := by
  have hB := hA.1
  have hB' := rockB_B (rk := nI c) hB
  obtain ⟨⟨r0, r1, r2, r3, r4, r5, r7, r8, r9⟩, -, ⟨s1, s2, s3⟩, -, -, -, ⟨o0, o1⟩, rb, -, ap⟩ := id hR
  have hb : q + 3 ≤ b ∧ b + 23 ≤ q + 52 := by rcases ap with x | x <;> omega
  have hap : apart b (q + 56) := by unfold apart; omega
  obtain ⟨b1, b2⟩ := beginS_B hB'
  unfold D_SR_lostWithRock
  rw [r1, r3, rb.1.1, nI_clamp (n := c) (by omega)]
  refine ⟨vp_in_nI hc (by omega), fun h3 e3 => ?_⟩
  have O3 : BayOK h3 b (rockB (nI c) (tB A)) := by rw [e3]; exact hx.1.rock hB hc hk
  refine P_begin rb s2 O3 hB' hap (fun h6 f6 t6 S6 => ?_)
  have O6 := O3.scr t6
  rw [show h6.1 b 4 = nI (bSe (tB A)) from O6.2.2.2.2.1]
  refine P_passHours (seed := nI (bSe (tB A))) rb s2 O6 hB' S6 b1 hap (by omega) (by omega) (fun h11 f11 t11 S11 => ⟨vp_in_nI hc (by omega), fun h15 e15 => ?_⟩)
  have e5 : h11.1 (b + 1) = h3.1 (b + 1) := by rw [(f11 (b + 1) (by unfold FHo FBa; omega)).1, (f6 (b + 1) (by unfold FHo FBa; omega)).1]
  have eb : h15.1 (b + 1) = h.1 (b + 1) := by
    funext j
    rw [e15]
    by_cases e : j = c
    · subst e; rw [pI_s, hx.1.2.2.2.2.2.1 j hc, hk]; rfl
    · rw [pI_n _ _ _ _ (by omega), e5, e3, pI_n _ _ _ _ (by omega)]
  have o15 : ∀ a, ¬ a = b + 1 → h15.1 a = h11.1 a := fun a x => by rw [e15, pI_o _ _ _ _ x]
  have o3 : ∀ a, ¬ a = b + 1 → h3.1 a = h.1 a := fun a x => by rw [e3, pI_o _ _ _ _ x]
  rw [o15 (q + 56) (by omega), S11.2.2.1]
  refine hQ h15 (fun a ha => ?_) ?_
  · by_cases e : a = b + 1
    · subst e
      refine ⟨eb, ?_⟩
      rw [e15, pI_l, (f11 _ (by unfold FHo FBa; omega)).2, (f6 _ (by unfold FHo FBa; omega)).2, e3, pI_l]
    · have g : ¬ FHo b (q + 56) a := fun w => ha (by unfold FHo at w; unfold FX; rcases w with w | w; exact Or.inl w; exact Or.inr (Or.inl (by omega)))
      refine ⟨by rw [o15 a e, (f11 a g).1, (f6 a g).1, o3 a e], by rw [e15, pI_l, (f11 a g).2, (f6 a g).2, e3, pI_l]⟩
  · have tt := t6.tr t11
    refine ⟨fun a p q' s => ?_, fun j hj => ?_, fun j p q' => ?_, ?_⟩
    · by_cases e : a = b + 1
      · subst e; exact eb
      · rw [o15 a e, tt.1 a p q' s, o3 a e]
    · rw [o15 _ (by omega), o15 _ (by omega), o15 _ (by omega), (tt.2.1 j hj).1, (tt.2.1 j hj).2.1, (tt.2.1 j hj).2.2, o3 _ (by omega), o3 _ (by omega), o3 _ (by omega)]
      exact ⟨rfl, rfl, rfl⟩
    · rw [o15 _ (by omega), tt.2.2.1 j p q', o3 _ (by omega)]
    · rw [o15 _ (by omega), tt.2.2.2.1, tt.2.2.2.2.1, tt.2.2.2.2.2.1, tt.2.2.2.2.2.2, o3 _ (by omega)]
      exact ⟨rfl, rfl, rfl, rfl⟩
def freeP (B : By) (c : Nat) : Bool := decide (bK B c = 0) && !exF (fun k => decide (startF B k = c)) (bN B)
theorem P_mayBeRock {r : TR} {q b d T c : Nat} {h : TH} {A : St} {Q : Int32 → TH → Prop} (hR : RX r q b d) (hA : AI T A) (hx : AX h q b d A) (hc : c < 40) (h1 : freeP (tB A) c = true → Q 1 h) (h0 : freeP (tB A) c = false → Q 0 h) : D_SR_mayBeRock r q (nI c) h Q := by
  have hB := hA.1
  have hn := hB.2.2.1
  obtain ⟨⟨r0, r1, r2, r3, r4, r5, r7, r8, r9⟩, -, -, -, -, -, -, rb, -, ap⟩ := id hR
  have kd := bK_le hB hc
  unfold D_SR_mayBeRock
  rw [r1, rb.1.1, nI_clamp (n := c) (by omega), hx.1.2.2.2.2.2.1 c hc]
  refine ⟨vp_in_nI hc (by omega), fun y => ?_, fun y => h0 ?_⟩
  · have k0 : bK (tB A) c = 0 := (nI_eq (b := 0) (by omega) (by omega)).mp y
    refine lp_for (bN (tB A)) (fun j t => t = (nI j, h) ∧ exF (fun k => decide (startF (tB A) k = c)) j = false) ?_ ?_ _ ⟨rfl, rfl⟩
    · rintro j t K hj ⟨rfl, ex⟩ hK
      have sl := startF_lt hB hj
      unfold DB_SR_mayBeRock_16
      rw [r1, hx.1.2.2.1]
      refine ⟨fun z => absurd ((nI_leI (by omega) (by omega)).mp z) (by omega), fun _ => ?_⟩
      refine P_startOf rb hx.1 hB hj ⟨fun z x11 e11 => ?_, fun z => h0 ?_⟩
      · rw [nI_1] at e11; subst e11
        refine hK _ ⟨rfl, ?_⟩
        show (exF (fun k => decide (startF (tB A) k = c)) j || decide (startF (tB A) j = c)) = false
        rw [ex, decide_eq_false (fun e => z (by rw [e]))]; rfl
      · unfold freeP
        rw [exF_t (p := fun k => decide (startF (tB A) k = c)) (decide_eq_true ((nI_eq (by omega) (by omega)).mp z)) _ hj, Bool.not_true, Bool.and_false]
    · rintro t K ⟨rfl, ex⟩
      unfold DB_SR_mayBeRock_16
      rw [r1, hx.1.2.2.1]
      refine ⟨fun _ => h1 ?_, fun z => absurd (Int32.le_refl _) z⟩
      unfold freeP
      rw [decide_eq_true k0, ex]; rfl
  · unfold freeP
    rw [decide_eq_false (fun e => y (by rw [e]; rfl)), Bool.false_and]
theorem P_isFree {r : TR} {m L T c : Nat} {h : TH} {A : St} {Q : Int32 → TH → Prop} (hM : RMo r m) (hA : AI T A) (hm : AM h m L A) (hc : c < 40) (h1 : freeP (tB A) c = true → Q 1 h) (h0 : freeP (tB A) c = false → Q 0 h) : D_Mo_isFree r m (nI c) h Q := by
  have hB := hA.1
  have hn := hB.2.2.1
  have o := hm.bay
  have hL := o.2.1
  have kd := bK_le hB hc
  have r24 : r m 24 = m + 11 := hM 24 (by decide) (by decide)
  have r25 : r m 25 = m + 12 := hM 25 (by decide) (by decide)
  have r26 : r m 26 = m + 13 := hM 26 (by decide) (by decide)
  have r27 : r m 27 = m + 14 := hM 27 (by decide) (by decide)
  unfold D_Mo_isFree
  rw [(jd8 hc).1, (jd8 hc).2]
  refine P_isCell hM o (rockB_B hB) (by omega) (by omega) (fun cx cy => ⟨fun z => absurd z z01, fun _ i5 e5 => ?_⟩) (fun nc => ⟨fun _ => h0 ?_, fun z => absurd rfl z⟩)
  · have e5' : i5 = nI (40 * L + c) := by rw [e5, o.1]; show nI 40 * nI L + nI c = _; rw [pk_mul, nI_add]
    subst e5'
    have kc : h.1 (m + 11) (40 * L + c) = nI (bK (tB A) c) := by
      rcases hm.1.2.2.2.2.2.2.2.2.1 c hc cx cy with w | w
      · exact absurd w.1 (nI_nm (by omega))
      · rw [pI_o _ _ _ _ (by omega)] at w; exact w.2
    rw [r24, nI_clamp (n := 40 * L + c) (by omega), kc]
    refine ⟨vp_in_nI (by omega) (by omega), fun y => ?_, fun y => h0 ?_⟩
    · have k0 : bK (tB A) c = 0 := (nI_eq (b := 0) (by omega) (by omega)).mp y
      refine lp_for (bN (tB A)) (fun j t => t = (nI j, h) ∧ exF (fun k => decide (startF (tB A) k = c)) j = false) ?_ ?_ _ ⟨rfl, rfl⟩
      · rintro j t K hj ⟨rfl, ex⟩ hK
        have sl := startF_lt hB hj
        unfold DB_Mo_isFree_36
        intro i9 e9
        rw [o.1] at e9
        subst e9
        rw [r25, r26, r27, nI_clamp (n := L) (by omega), o.2.2.2.2.2.1, show bN (rockB (h.1 m 52) (tB A)) = bN (tB A) from rfl]
        refine ⟨vp_in_nI hL (by omega), fun z => absurd ((nI_leI (by omega) (by omega)).mp z) (by omega), fun _ i12 e12 => ?_⟩
        have e12' : i12 = nI (6 * L + j) := by rw [e12, o.1]; show nI 6 * nI L + nI j = _; rw [pk_mul, nI_add]
        subst e12'
        refine ⟨vp_in_nI (by omega) (by omega), fun i14 e14 => ?_⟩
        have e14' : i14 = nI (6 * L + j) := by rw [e14, o.1]; show nI 6 * nI L + nI j = _; rw [pk_mul, nI_add]
        subst e14'
        have b10 := o.2.2.2.2.2.2.2.2.2.1 j hj
        have es : ((8 : Int32) * (h.1 (m + 14) (nI (6 * L + j)).toNatClampNeg)) + (h.1 (m + 13) (nI (6 * L + j)).toNatClampNeg) = nI (startF (tB A) j) := by
          rw [nI_clamp (n := 6 * L + j) (by omega), b10.1, b10.2.1]
          show nI 8 * nI (bY (tB A) j) + nI (bX (tB A) j) = _
          rw [pk_mul, nI_add]; rfl
        rw [es]
        refine ⟨vp_in_nI (by omega) (by omega), fun z x16 e16 => ?_, fun z => h0 ?_⟩
        · rw [nI_1] at e16; subst e16
          refine hK _ ⟨rfl, ?_⟩
          show (exF (fun k => decide (startF (tB A) k = c)) j || decide (startF (tB A) j = c)) = false
          rw [ex, decide_eq_false (fun e => z (by rw [e]))]; rfl
        · unfold freeP
          rw [exF_t (p := fun k => decide (startF (tB A) k = c)) (decide_eq_true ((nI_eq (by omega) (by omega)).mp z)) _ hj, Bool.not_true, Bool.and_false]
      · rintro t K ⟨rfl, ex⟩
        unfold DB_Mo_isFree_36
        intro i9 e9
        rw [o.1] at e9
        subst e9
        rw [r25, nI_clamp (n := L) (by omega), o.2.2.2.2.2.1]
        refine ⟨vp_in_nI hL (by omega), fun _ => h1 ?_, fun z => absurd (Int32.le_refl _) z⟩
        unfold freeP
        rw [decide_eq_true k0, ex]; rfl
    · unfold freeP
      rw [decide_eq_false (fun e => y (by rw [e]; rfl)), Bool.false_and]
  · unfold freeP
    rw [decide_eq_false, Bool.false_and]
    exact fun e => nc (kin hB hc e)
theorem P_rockNow {r : TR} {m L T n c : Nat} {h : TH} {A : St} {Q : Int32 → TH → Prop} (hM : RMo r m) (hA : AI T A) (hm : AM h m L A) (hn : n ≤ 60) (hQ : ∀ h', Qm m h h' → Q (nI (sL (rkS (tB A) n c))) h') : D_Mo_beginsBy r m (nI c) h (fun h16 => D_Mo_goes r m (nI n) h16 (fun h18 => D_Mo_lostNow r m h18 Q)) := by
  have hB := hA.1
  have hB' := rockB_B (rk := nI c) hB
  obtain ⟨b1, b2⟩ := beginS_B hB'
  have q1 : Qm m h (pI h m 52 (nI c)) := ⟨Fr.pI (Or.inl rfl), fun j _ _ _ z => pI_n _ _ _ _ (by omega)⟩
  have o1 := (hm.q q1).bay
  rw [pI_s] at o1
  refine P_beginsBy (n := bN (tB A)) hM o1 hB' rfl (fun h5 f5 k5 e50 e51 e52 R5 => ?_)
  have q5 : Qm m h h5 := ⟨f5.mono (fun a ha => by unfold FMs at ha; unfold FQ; omega), fun j x y z w => k5 j x y z w⟩
  have O5 : MBay h5 m L (nI c) (rockB (nI c) (tB A)) := o1.mv (fun x a b => by rw [(f5 x (by unfold FMs; omega)).1, pI_o _ _ _ _ (by omega)]) (by rw [k5 18 (by omega) (by omega) (by omega) (by omega), pI_n _ _ _ _ (by omega)]) e52
  refine P_goes (seed := nI (bSe (tB A))) hM O5 hB' rfl R5 e51 e50 b1 (beginS_P hB') (by omega) (by omega) (fun h8 k8 R8 => ?_)
  refine P_lostNow hM (O5.mk k8) hB' R8 ?_
  have := hQ h8 (q5.tr (Qm.mk k8))
  rw [← (rkS_B (c := c) hB (by omega)).2] at this
  exact this
theorem J_rock {r : TR} {q b d m L T : Nat} {h : TH} {A : St} {a1 a2 a3 : Int32} {Q : Int32 → Int32 → TH → Prop} (C : Cx r q b d m L T h A) (hQ : ∀ x h', Cx r q b d m L T h' A → Q x x h') : D_SR_rock r q a1 a2 a3 h (fun x h1 => D_Mo_rock r m a1 a2 a3 h1 (fun y h2 => Q x y h2)) := by
  have hB := C.2.2.2.1.1
  have hn := hB.2.2.1
  obtain ⟨hR, hM, hqm, hA, hx, hm⟩ := id C
  obtain ⟨⟨r0, r1, r2, r3, r4, r5, r7, r8, r9⟩, -, -, -, -, -, -, rb, -, ap⟩ := id hR
  have r25 : r m 25 = m + 12 := hM 25 (by decide) (by decide)
  have hN : ∀ h1 : TH, Cx r q b d m L T h1 A → ∀ (X : Int32 → TH → Prop), D_Mo_in r a2 0 (nI (2 ^ bN (tB A) - 1)) h1 X → ∀ i5 : Int32, i5 = h1.1 m 18 → vp_in i5 2 ∧ D_Mo_in r a2 0 (((1 : Int32) <<< ((h1.1 (r m 25) i5.toNatClampNeg) &&& 31)) - 1) h1 X := by
    intro h1 C1 X hX i5 e5
    have o := C1.2.2.2.2.2.bay
    rw [o.1] at e5
    subst e5
    rw [r25, nI_clamp (n := L) (by have := o.2.1; omega), o.2.2.2.2.2.1, show bN (rockB (h1.1 m 52) (tB A)) = bN (tB A) from rfl, (ab1 ⟨bN (tB A), by omega⟩).1]
    exact ⟨vp_in_nI o.2.1 (by omega), hX⟩
  unfold D_SR_rock
  refine P_within (fun z w => ⟨fun y => absurd y z01, fun _ => ?_⟩) (fun z => ⟨fun _ => ?_, fun y => absurd rfl y⟩)
  · obtain ⟨n, hn1, hn60, rfl⟩ := wi_nI (x := 1) (y := 60) (by omega) z w (by omega)
    rw [r1]
    refine P_allBoats hx.1 hB ?_
    refine P_within (fun z2 w2 => ⟨fun y => absurd y z01, fun _ => ⟨fun g => ?_, fun g => ?_⟩⟩) (fun z2 => ⟨fun _ => ?_, fun y => absurd rfl y⟩)
    · have mo : ∀ h1, Cx r q b d m L T h1 A → D_Mo_rock r m (nI n) a2 a3 h1 (fun y h2 => Q (nthF (fun c => freeP (tB A) c && decide (nI (sL (rkS (tB A) n c)) = a2)) a3 40 0 0) y h2) := by
        intro h1 C1
        unfold D_Mo_rock
        refine P_in1 z w ⟨fun y => absurd y z01, fun _ => hN h1 C1 _ ?_⟩
        refine P_in1 z2 w2 ⟨fun y => absurd y z01, fun _ => ⟨fun _ => ?_, fun y => absurd g y⟩⟩
        refine lp_for 40 (fun c t => ∃ f h', t = (nI f, nI c, h') ∧ Qm m h1 h' ∧ nthF (fun c => freeP (tB A) c && decide (nI (sL (rkS (tB A) n c)) = a2)) a3 40 0 0 = nthF (fun c => freeP (tB A) c && decide (nI (sL (rkS (tB A) n c)) = a2)) a3 (40 - c) c f) ?_ ?_ _ ⟨0, h1, rfl, Qm.rf, rfl⟩
        · rintro c t K hc ⟨f, h', rfl, q', es⟩ hK
          rw [show 40 - c = (40 - (c + 1)) + 1 by omega] at es
          unfold DB_Mo_rock_44
          refine ⟨fun z => absurd ((nI_leI (a := 40) (by omega) (by omega)).mp z) (by omega), fun _ => ?_⟩
          refine P_isFree hM hA (C1.m q').2.2.2.2.2 hc (fun fr => ⟨fun _ => ?_, fun y => absurd y z01⟩) (fun fr => ⟨fun y => absurd rfl y, fun _ x27 e27 => ?_⟩)
          · refine P_rockNow hM hA (C1.m q').2.2.2.2.2 (by omega) (fun h8 q8 => ⟨fun y => ⟨fun y2 x24 e24 x25 e25 => ?_, fun y2 => ?_⟩, fun y x26 e26 => ?_⟩)
            · rw [nI_1] at e24 e25; subst e24; subst e25
              exact hK _ ⟨f + 1, h8, rfl, q'.tr q8, by rw [es, nthF_on (by simp only [fr, decide_eq_true y]; rfl) y2]⟩
            · rw [es, nthF_hit (by simp only [fr, decide_eq_true y]; rfl) y2]
              exact hQ _ _ ((C1.m q').m q8)
            · rw [nI_1] at e26; subst e26
              exact hK _ ⟨f, h8, rfl, q'.tr q8, by rw [es, nthF_no (by simp only [decide_eq_false y, Bool.and_false])]⟩
          · rw [nI_1] at e27; subst e27
            exact hK _ ⟨f, h', rfl, q', by rw [es, nthF_no (by simp only [fr, Bool.false_and])]⟩
        · rintro t K ⟨f, h', rfl, q', es⟩
          rw [Nat.sub_self] at es
          rw [nthF_z] at es
          unfold DB_Mo_rock_44
          refine ⟨fun _ => ⟨fun y => ?_, fun y => ?_⟩, fun z => absurd (show (40 : Int32) ≤ nI 40 from Int32.le_refl _) z⟩
          · rw [if_neg y] at es; rw [es]; exact hQ _ _ (C1.m q')
          · rw [if_pos y] at es; rw [es]; exact hQ _ _ (C1.m q')
      refine lp_for 40 (fun c t => ∃ f h', t = (nI f, nI c, h') ∧ Fr (FX q b) h h' ∧ BScr b h h' ∧ nthF (fun c => freeP (tB A) c && decide (nI (sL (rkS (tB A) n c)) = a2)) a3 40 0 0 = nthF (fun c => freeP (tB A) c && decide (nI (sL (rkS (tB A) n c)) = a2)) a3 (40 - c) c f) ?_ ?_ _ ⟨0, h, rfl, Fr.rf, BScr.rf, rfl⟩
      · rintro c t K hc ⟨f, h', rfl, f', t', es⟩ hK
        rw [show 40 - c = (40 - (c + 1)) + 1 by omega] at es
        have C' := C.x f' t'
        unfold DB_SR_rock_38
        refine ⟨fun z => absurd ((nI_leI (a := 40) (by omega) (by omega)).mp z) (by omega), fun _ => ?_⟩
        refine P_mayBeRock hR hA C'.2.2.2.2.1 hc (fun fr => ⟨fun y => absurd y z01, fun _ => ?_⟩) (fun fr => ⟨fun _ x17 e17 => ?_, fun y => absurd rfl y⟩)
        · have k0 : bK (tB A) c = 0 := by
            unfold freeP at fr
            rw [Bool.and_eq_true, decide_eq_true_iff] at fr
            exact fr.1
          refine P_lostWithRock hR hA C'.2.2.2.2.1 (by omega) hc k0 (fun h8 f8 t8 => ⟨fun y x21 e21 => ?_, fun y => ⟨fun y2 x23 e23 x24 e24 => ?_, fun y2 => ?_⟩⟩)
          · rw [nI_1] at e21; subst e21
            exact hK _ ⟨f, h8, rfl, f'.tr f8, t'.tr t8, by rw [es, nthF_no (by simp only [decide_eq_false y, Bool.and_false])]⟩
          · rw [nI_1] at e23 e24; subst e23; subst e24
            exact hK _ ⟨f + 1, h8, rfl, f'.tr f8, t'.tr t8, by rw [es, nthF_on (by simp only [fr, decide_eq_true y]; rfl) y2]⟩
          · have mo' := mo h8 (C'.x f8 t8)
            rw [es, nthF_hit (by simp only [fr, decide_eq_true y]; rfl) y2] at mo'
            exact mo'
        · rw [nI_1] at e17; subst e17
          exact hK _ ⟨f, h', rfl, f', t', by rw [es, nthF_no (by simp only [fr, Bool.false_and])]⟩
      · rintro t K ⟨f, h', rfl, f', t', es⟩
        rw [Nat.sub_self] at es
        rw [nthF_z] at es
        have mo' := mo h' (C.x f' t')
        unfold DB_SR_rock_38
        refine ⟨fun _ => ⟨fun y => ?_, fun y => ?_⟩, fun z => absurd (show (40 : Int32) ≤ nI 40 from Int32.le_refl _) z⟩
        · rw [if_neg y] at es; rw [es] at mo'; exact mo'
        · rw [if_pos y] at es; rw [es] at mo'; exact mo'
    · unfold D_Mo_rock
      refine P_in1 z w ⟨fun y => absurd y z01, fun _ => hN h C _ ?_⟩
      exact P_in1 z2 w2 ⟨fun y => absurd y z01, fun _ => ⟨fun y => absurd y g, fun _ => hQ _ _ C⟩⟩
    · unfold D_Mo_rock
      refine P_in1 z w ⟨fun y => absurd y z01, fun _ => hN h C _ ?_⟩
      exact P_in0 z2 ⟨fun _ => hQ _ _ C, fun y => absurd rfl y⟩
  · unfold D_Mo_rock
    exact P_in0 z ⟨fun _ => hQ _ _ C, fun y => absurd rfl y⟩
