/-! fried, sure: the reference's side, both sides -/
theorem P_fillsMayBe {r : TR} {m L n k : Nat} {rk : Int32} {h : TH} {B : By} {T : List (Nat × Nat)} {Q : TH → Prop} (hr : RMo r m) (hO : MBay h m L rk B) (hN : bN B = n) (hT : ∀ i, i < T.length → h.1 (m + 40) i = nI ((T.getD i (0, 0)).1) ∧ h.1 (m + 39) i = nI ((T.getD i (0, 0)).2)) (hl : T.length ≤ 20) (hT2 : ∀ i, i < T.length → (T.getD i (0, 0)).1 < n ∧ (T.getD i (0, 0)).2 < 64) (hn : n ≤ 6) (hk : k ≤ T.length) (hQ : ∀ h', Fr (fun a => a = m + 41) h h' → (∀ p, p < 6 → h'.1 (m + 41) p = nI (alF n T k p)) → Q h') : D_Mo_fillsMayBe r m (nI k) h Q := by
  have hL := hO.2.1
  have r25 : r m 25 = m + 12 := hr 25 (by decide) (by decide)
  have r61 : r m 61 = m + 39 := hr 61 (by decide) (by decide)
  have r62 : r m 62 = m + 40 := hr 62 (by decide) (by decide)
  have r63 : r m 63 = m + 41 := hr 63 (by decide) (by decide)
  unfold D_Mo_fillsMayBe
  refine lp_for 6 (fun p t => ∃ h', t = (nI p, h') ∧ Fr (fun a => a = m + 41) h h' ∧ ∀ i, i < p → h'.1 (m + 41) i = nI (2 ^ n - 1)) ?_ ?_ _ ⟨h, rfl, Fr.rf, fun i hi => by omega⟩
  · rintro p t K hp ⟨h', rfl, f', g'⟩ hK
    unfold DB_Mo_fillsMayBe_2
    refine ⟨fun z => absurd ((nI_leI (a := 6) (by omega) (by omega)).mp z) (by omega), fun _ i5 e5 => ?_⟩
    rw [(f' m (by omega)).1, hO.1] at e5
    subst e5
    rw [r25, r63, (f' (m + 12) (by omega)).1, nI_clamp (n := L) (by omega), hO.2.2.2.2.2.1, hN, (ab1 ⟨n, by omega⟩).1, nI_clamp (n := p) (by omega)]
    refine ⟨vp_in_nI hL (by omega), vp_in_nI hp (by omega), fun h6 e6 x7 e7 => ?_⟩
    rw [nI_1] at e7; subst e7
    refine hK _ ⟨h6, rfl, f'.tr (by rw [e6]; exact Fr.pI rfl), fun i hi => ?_⟩
    rw [e6]
    by_cases e : i = p
    · subst e; rw [pI_s]
    · rw [pI_n _ _ _ _ (by omega)]; exact g' i (by omega)
  · rintro t K ⟨h2, rfl, f2, g2⟩
    unfold DB_Mo_fillsMayBe_2
    refine ⟨fun _ => ?_, fun z => absurd (show (6 : Int32) ≤ nI 6 from Int32.le_refl _) z⟩
    refine lp_for k (fun i t => ∃ h', t = (nI i, h') ∧ Fr (fun a => a = m + 41) h h' ∧ ∀ p, p < 6 → h'.1 (m + 41) p = nI (alF n T i p)) ?_ ?_ _ ⟨h2, rfl, f2, fun p hp => g2 p hp⟩
    · rintro i t K hi ⟨h', rfl, f', g'⟩ hK
      obtain ⟨t1, t2⟩ := hT2 i (by omega)
      have e4 := (f' (m + 39) (by omega)).1
      have e5 := (f' (m + 40) (by omega)).1
      have ti := hT i (by omega)
      unfold DB_Mo_fillsMayBe_35
      rw [r61, r62, r63, e4, e5, nI_clamp (n := i) (by omega), ti.1, ti.2, nI_clamp (n := (T.getD i (0, 0)).1) (by omega)]
      refine ⟨fun z => absurd ((nI_leI (by omega) (by omega)).mp z) (by omega), fun _ => ⟨vp_in_nI (by omega) (by omega), fun i9 e9 => ?_⟩⟩
      subst e9
      rw [nI_clamp (n := (T.getD i (0, 0)).1) (by omega), g' _ (by omega), band (alF_ok hn i _).1 t2]
      refine ⟨vp_in_nI (by omega) (by omega), vp_in_nI (by omega) (by omega), vp_in_nI (by omega) (by omega), fun h11 e11 x12 e12 => ?_⟩
      rw [nI_1] at e12; subst e12
      refine hK _ ⟨h11, rfl, f'.tr (by rw [e11]; exact Fr.pI rfl), fun p hp => ?_⟩
      rw [e11, alF_s]
      by_cases e : (T.getD i (0, 0)).1 = p
      · rw [if_pos e, ← e, pI_s]
      · rw [if_neg e, pI_n _ _ _ _ (by omega)]; exact g' p hp
    · rintro t K ⟨h', rfl, f', g'⟩
      unfold DB_Mo_fillsMayBe_35
      exact ⟨fun _ => hQ h' f' g', fun z => absurd (Int32.le_refl _) z⟩
theorem six_le {n : Nat} (hn : n ≤ 6) : 6 ^ n ≤ 46656 := Nat.pow_le_pow_right (n := 6) (by omega) hn
theorem P_sixes {r : TR} {n : Nat} {h : TH} {Q : Int32 → TH → Prop} (hn : n ≤ 6) (hQ : Q (nI (6 ^ n)) h) : D_Mo_sixes r (nI n) h Q := by
  unfold D_Mo_sixes
  refine lp_for n (fun j t => t = (nI (6 ^ j), nI j, h)) ?_ ?_ _ rfl
  · rintro j t K hj rfl hK
    unfold DB_Mo_sixes_4
    refine ⟨fun z => absurd ((nI_leI (by omega) (by omega)).mp z) (by omega), fun _ x4 e4 x5 e5 => ?_⟩
    rw [nI_1] at e5; subst e5
    have : x4 = nI (6 ^ (j + 1)) := by rw [e4]; show nI (6 ^ j) * nI 6 = _; rw [pk_mul]; rfl
    subst this
    exact hK _ rfl
  · rintro t K rfl
    unfold DB_Mo_sixes_4
    exact ⟨fun _ => hQ, fun z => absurd (Int32.le_refl _) z⟩
theorem P_isWay {r : TR} {m L n w : Nat} {rk : Int32} {h : TH} {B : By} {al : Nat → Nat} {Q : Int32 → TH → Prop} (hr : RMo r m) (hO : MBay h m L rk B) (hN : bN B = n) (hn : n ≤ 6) (hw : w < 2 ^ 30) (hg : ∀ p, p < 6 → h.1 (m + 41) p = nI (al p)) (hal : ∀ p, p < 6 → al p < 64) (h1 : iwB al n w 0 = true → Q 1 h) (h0 : iwB al n w 0 = false → Q 0 h) : D_Mo_isWay r m (nI w) h Q := by
  have hL := hO.2.1
  have r25 : r m 25 = m + 12 := hr 25 (by decide) (by decide)
  have r63 : r m 63 = m + 41 := hr 63 (by decide) (by decide)
  unfold D_Mo_isWay
  intro i4 e4
  rw [hO.1] at e4
  subst e4
  rw [r25, nI_clamp (n := L) (by omega), hO.2.2.2.2.2.1, hN]
  refine ⟨vp_in_nI hL (by omega), fun x5 e5 => ?_⟩
  subst e5
  refine lp_for n (fun j t => ∃ v u, t = (nI u, nI v, nI (n - j) - 1, h) ∧ u < 64 ∧ v < 2 ^ 30 ∧ iwB al n w 0 = iwB al (n - j) v u) ?_ ?_ _ ⟨w, 0, rfl, by omega, hw, rfl⟩
  · rintro j t K hj ⟨v, u, rfl, hu, hv, ei⟩ hK
    obtain ⟨p, hp⟩ : ∃ p, n - j = p + 1 := ⟨n - j - 1, by omega⟩
    have en : n - (j + 1) = p := by omega
    have v6 : v % 6 < 6 := Nat.mod_lt _ (by omega)
    rw [hp] at ei ⊢
    have ei' : iwB al n w 0 = (((al p).testBit (v % 6) && !u.testBit (v % 6)) && iwB al p (v / 6) (u ||| 2 ^ (v % 6))) := ei
    unfold DB_Mo_isWay_17
    rw [nI_pred]
    refine ⟨fun z => absurd z (nI_pos (by omega)), fun _ x7 e7 x8 e8 => ?_⟩
    have e7' : x7 = nI (v % 6) := by rw [e7]; exact jrem_nI (d := 6) (by omega) (by decide) (by decide)
    have e8' : x8 = nI (v / 6) := by rw [e8]; exact pk_div (d := 6) (by omega) (by decide) (by decide)
    subst e7'; subst e8'
    rw [r63, nI_clamp (n := p) (by omega), hg p (by omega)]
    have ap := hal p (by omega)
    refine ⟨vp_in_nI (by omega) (by omega), fun y => h0 ?_, fun y => ⟨fun y2 x12 e12 x13 e13 => ?_, fun y2 => h0 ?_⟩⟩
    · rw [ei', (bt_0 ap v6).mp y]; rfl
    · have a1 : (al p).testBit (v % 6) = true := by
        cases q : (al p).testBit (v % 6) with
        | true => rfl
        | false => exact absurd ((bt_0 ap v6).mpr q) y
      have u0 : u.testBit (v % 6) = false := bf_of (fun z => y2 ((bt_1 hu v6).mpr z))
      have o := or1 ⟨u, hu⟩ ⟨v % 6, v6⟩
      simp only [] at o
      rw [o.1] at e12
      subst e12
      have : x13 = nI (n - (j + 1)) - 1 := by rw [e13, en, Int32.sub_eq_add_neg]
      subst this
      refine hK _ ⟨v / 6, _, rfl, o.2, by omega, ?_⟩
      rw [ei', a1, u0, en]; rfl
    · rw [ei', (bt_1 hu v6).mp y2, Bool.not_true, Bool.and_false]; rfl
  · rintro t K ⟨v, u, rfl, hu, hv, ei⟩
    rw [Nat.sub_self] at ei
    unfold DB_Mo_isWay_17
    refine ⟨fun _ => h1 (by rw [ei]; rfl), fun z => absurd ?_ z⟩
    show nI (n - n) - 1 < 0
    rw [Nat.sub_self]; decide
theorem J_fried {r : TR} {q b d m L T : Nat} {h : TH} {A : St} {a1 : Int32} {Q : Int32 → Int32 → TH → Prop} (C : Cx r q b d m L T h A) (hQ : ∀ x h', Cx r q b d m L T h' A → Q x x h') : D_SR_fried r q a1 h (fun x h1 => D_Mo_fried r m a1 h1 (fun y h2 => Q x y h2)) := by
  have hB := C.2.2.2.1.1
  have hn := hB.2.2.1
  obtain ⟨hR, hM, hqm, hA, hx, hm⟩ := id C
  obtain ⟨⟨r0, r1, r2, r3, r4, r5, r7, r8, r9⟩, -, -, -, -, ⟨t1, t2, t3, t4⟩, -, rb, -, ap⟩ := id hR
  have hb : q + 3 ≤ b ∧ b + 23 ≤ q + 52 := by rcases ap with x | x <;> omega
  have TK := hx.2.2.2.2.2.2.1
  have hl := hA.2.2.2.2.2.1
  have hT2 := hA.2.2.2.2.2.2.1
  have r25 : r m 25 = m + 12 := hM 25 (by decide) (by decide)
  unfold D_SR_fried
  rw [r7, TK.1]
  refine P_within (fun z w => ⟨fun _ => ?_, fun y => absurd y z01⟩) (fun z => ⟨fun y => absurd rfl y, fun _ => ?_⟩)
  · obtain ⟨k, -, hk, rfl⟩ := wi_nI (x := 0) (y := (tT A).length) (by omega) z w (by omega)
    rw [r1, hx.1.2.2.1]
    refine P_allowFirst t1 t2 t3 TK hl hT2 hn hk (fun h7 f7 g7 => ?_)
    have aok := alF_ok (T := tT A) hn k
    rw [show h7.1 b 2 = nI (bN (tB A)) by rw [(f7 b (by omega)).1]; exact hx.1.2.2.1]
    refine P_waysLeft t3 t4 hn g7 (fun p _ => aok p) (fun h8 f8 => ?_)
    have fx : Fr (FX q b) h h8 := (f7.mono (fun a ha => by unfold FX; omega)).tr (f8.mono (fun a ha => by unfold FX; omega))
    have tx : BScr b h h8 := BScr.out (fun a x y => by rw [(f8 a (by omega)).1, (f7 a (by omega)).1])
    have C8 := C.x fx tx
    have m8 := C8.2.2.2.2.2
    have o8 := m8.bay
    show D_Mo_fried r m (nI k) h8 (fun y h2 => Q (nI (wysN (alF (bN (tB A)) (tT A) k) (bN (tB A)))) y h2)
    unfold D_Mo_fried
    rw [m8.2.2.2.2.1.1]
    refine P_in1 z w ⟨fun _ => ?_, fun y => absurd y z01⟩
    refine P_fillsMayBe (n := bN (tB A)) hM o8 rfl m8.2.2.2.2.1.2 hl hT2 hn hk (fun h9 f9 g9 => ?_)
    have q9 : Qm m h8 h9 := Qm.fr f9 (fun a ha => ⟨by unfold FQ; omega, by omega⟩)
    have o9 := (C8.m q9).2.2.2.2.2.bay
    have eN : h9.1 (m + 12) L = nI (bN (tB A)) := o9.2.2.2.2.2.1
    refine lp_cnt (fun w => iwB (alF (bN (tB A)) (tT A) k) (bN (tB A)) w 0) (n := 6 ^ bN (tB A)) ?_ ?_
    · intro v x K hv ht hf
      have s6 := six_le hn
      unfold DB_Mo_fried_23
      intro i9 e9
      rw [o9.1] at e9
      subst e9
      rw [r25, nI_clamp (n := L) (by have := o9.2.1; omega), eN]
      refine ⟨vp_in_nI o9.2.1 (by omega), P_sixes hn ⟨fun z => absurd ((nI_leI (by omega) (by omega)).mp z) (by omega), fun _ => ?_⟩⟩
      refine P_isWay (n := bN (tB A)) hM o9 rfl hn (by omega) g9 (fun p _ => (aok p).1) (fun y => ⟨fun u => absurd u z01, fun _ x17 e17 x18 e18 => ?_⟩) (fun y => ⟨fun _ x16 e16 => ?_, fun u => absurd rfl u⟩)
      · rw [nI_1] at e17 e18; subst e17; subst e18
        exact ht y
      · rw [nI_1] at e16; subst e16
        exact hf y
    · intro K
      unfold DB_Mo_fried_23
      intro i9 e9
      rw [o9.1] at e9
      subst e9
      rw [r25, nI_clamp (n := L) (by have := o9.2.1; omega), eN]
      refine ⟨vp_in_nI o9.2.1 (by omega), P_sixes hn ⟨fun _ => hQ _ _ (C8.m q9), fun z => absurd (Int32.le_refl _) z⟩⟩
  · show D_Mo_fried r m a1 h (fun y h2 => Q (-1) y h2)
    unfold D_Mo_fried
    rw [hm.2.2.2.2.1.1]
    exact P_in0 z ⟨fun y => absurd rfl y, fun _ => hQ _ _ C⟩
theorem J_sure {r : TR} {q b d m L T : Nat} {h : TH} {A : St} {a1 a2 : Int32} {Q : Int32 → Int32 → TH → Prop} (C : Cx r q b d m L T h A) (hQ : ∀ x h', Cx r q b d m L T h' A → Q x x h') : D_SR_sure r q a1 a2 h (fun x h1 => D_Mo_sure r m a1 a2 h1 (fun y h2 => Q x y h2)) := by
  have hB := C.2.2.2.1.1
  have hn := hB.2.2.1
  obtain ⟨hR, hM, hqm, hA, hx, hm⟩ := id C
  obtain ⟨⟨r0, r1, r2, r3, r4, r5, r7, r8, r9⟩, -, -, -, -, ⟨t1, t2, t3, t4⟩, -, rb, -, ap⟩ := id hR
  have hb : q + 3 ≤ b ∧ b + 23 ≤ q + 52 := by rcases ap with x | x <;> omega
  have TK := hx.2.2.2.2.2.2.1
  have hl := hA.2.2.2.2.2.1
  have hT2 := hA.2.2.2.2.2.2.1
  have r25 : r m 25 = m + 12 := hM 25 (by decide) (by decide)
  unfold D_SR_sure
  rw [r7, TK.1]
  refine P_within (fun z w => ⟨fun y => absurd y z01, fun _ => ?_⟩) (fun z => ⟨fun _ => ?_, fun y => absurd rfl y⟩)
  · obtain ⟨k, -, hk, rfl⟩ := wi_nI (x := 0) (y := (tT A).length) (by omega) z w (by omega)
    refine P_SRisBoat (B := tB A) r1 hx.1.2.2.1 hB (fun pan hp e => ⟨fun _ => ?_, fun z => absurd z z01⟩) (fun hnk => ⟨fun z => absurd rfl z, fun _ => ?_⟩)
    · subst e
      rw [r1, hx.1.2.2.1]
      refine P_allowFirst t1 t2 t3 TK hl hT2 hn hk (fun h7 f7 g7 => ?_)
      have aok := alF_ok (T := tT A) hn k
      rw [show h7.1 b 2 = nI (bN (tB A)) by rw [(f7 b (by omega)).1]; exact hx.1.2.2.1]
      refine P_ownerOf t3 t4 hn hp g7 (fun p _ => aok p) (fun h8 f8 => ?_)
      have fx : Fr (FX q b) h h8 := (f7.mono (fun a ha => Or.inr (Or.inr (Or.inl ha)))).tr (f8.mono (fun a ha => ha.elim (fun ha => Or.inr (Or.inr (Or.inl ha))) (fun ha => Or.inr (Or.inr (Or.inr (Or.inl ha))))))
      have tx : BScr b h h8 := BScr.out (fun a x y => by rw [(f8 a (by omega)).1, (f7 a (by omega)).1])
      have C8 := C.x fx tx
      have m8 := C8.2.2.2.2.2
      have o8 := m8.bay
      show D_Mo_sure r m (nI k) (nI pan) h8 (fun y h2 => Q (seekF (sureF (alF (bN (tB A)) (tT A) k) (bN (tB A)) pan) (bN (tB A)) 0) y h2)
      unfold D_Mo_sure
      rw [m8.2.2.2.2.1.1]
      refine P_in1 z w ⟨fun y => absurd y z01, fun _ => ?_⟩
      refine P_MoisBoat hM o8 (rockB_B hB) (fun k' hk' e' => ⟨fun _ => ?_, fun z => absurd z z01⟩) (fun z => absurd rfl (z pan hp))
      refine P_fillsMayBe (n := bN (tB A)) hM o8 rfl m8.2.2.2.2.1.2 hl hT2 hn hk (fun h9 f9 g9 => ?_)
      have q9 : Qm m h8 h9 := Qm.fr f9 (fun a ha => ⟨by unfold FQ; omega, by omega⟩)
      have o9 := (C8.m q9).2.2.2.2.2.bay
      have eN : h9.1 (m + 12) L = nI (bN (tB A)) := o9.2.2.2.2.2.1
      have s6 := six_le hn
      have a64 : ∀ p, p < 6 → alF (bN (tB A)) (tT A) k p < 64 := fun p _ => (aok p).1
      have fin : ∀ x : Int32, seekF (sureF (alF (bN (tB A)) (tT A) k) (bN (tB A)) pan) (bN (tB A)) 0 = x → Q (seekF (sureF (alF (bN (tB A)) (tT A) k) (bN (tB A)) pan) (bN (tB A)) 0) x h9 := fun x e => by rw [e]; exact hQ _ _ (C8.m q9)
      have hal : ∀ p, p < 6 → alF (bN (tB A)) (tT A) k p < 64 ∧ dfM (alF (bN (tB A)) (tT A) k p) (2 ^ bN (tB A) - 1) = 0 := fun p _ => aok p
      revert fin g9 a64 hal
      generalize alF (bN (tB A)) (tT A) k = al
      intro g9 a64 fin hal
      refine lp_for (6 ^ bN (tB A)) (fun v t => ∃ x, t = (x, nI v, h9) ∧ ((x = -2 ∧ ∀ u, u < v → iwB al (bN (tB A)) u 0 = false) ∨ (∃ v0, v0 < v ∧ iwB al (bN (tB A)) v0 0 = true ∧ x = nI (dig (bN (tB A)) pan v0) ∧ ∀ u, u < v → iwB al (bN (tB A)) u 0 = true → dig (bN (tB A)) pan u = dig (bN (tB A)) pan v0))) ?_ ?_ _ ⟨-2, rfl, Or.inl ⟨rfl, fun u hu => by omega⟩⟩
      · rintro v t K hv ⟨x, rfl, inv⟩ hK
        unfold DB_Mo_sure_33
        intro i12 e12
        rw [o9.1] at e12
        subst e12
        rw [r25, nI_clamp (n := L) (by have := o9.2.1; omega), eN]
        refine ⟨vp_in_nI o9.2.1 (by omega), P_sixes hn ⟨fun z => absurd ((nI_leI (by omega) (by omega)).mp z) (by omega), fun _ => ?_⟩⟩
        refine P_isWay (n := bN (tB A)) hM o9 rfl hn (by omega) g9 a64 (fun y => ⟨fun _ i20 e20 => ?_, fun u => absurd u z01⟩) (fun y => ⟨fun u => absurd rfl u, fun _ x30 e30 => ?_⟩)
        · rw [o9.1] at e20
          subst e20
          have es : (h9.1 (m + 12) (nI L).toNatClampNeg - 1) - nI pan = nI (bN (tB A) - 1 - pan) := by
            rw [nI_clamp (n := L) (by have := o9.2.1; omega), eN, nI_s1 (by omega), pk_sub (by omega)]
          rw [show (x, nI v, h9).2.2.1 (m + 12) (nI L).toNatClampNeg - 1 - nI pan = nI (bN (tB A) - 1 - pan) from es]
          have s7 := six_le (n := bN (tB A) - 1 - pan) (by omega)
          have s0 : 0 < 6 ^ (bN (tB A) - 1 - pan) := Nat.pow_pos (by omega)
          have d6 : dig (bN (tB A)) pan v < 6 := Nat.mod_lt _ (by omega)
          refine ⟨vp_in_nI o9.2.1 (by omega), P_sixes (by omega) ⟨nI_ne0 s0 (by omega), fun x23 e23 => ?_⟩⟩
          have e23' : x23 = nI (dig (bN (tB A)) pan v) := by
            rw [e23, pk_div (by omega) s0 (by omega)]
            have : v / 6 ^ (bN (tB A) - 1 - pan) ≤ v := Nat.div_le_self _ _
            exact jrem_nI (d := 6) (by omega) (by decide) (by decide)
          subst e23'
          rcases inv with ⟨rfl, no⟩ | ⟨v0, hv0, i0, rfl, same⟩
          · refine ⟨fun _ x26 e26 => ?_, fun z => absurd (show (-2 : Int32) < 0 by decide) z⟩
            rw [nI_1] at e26; subst e26
            refine hK _ ⟨_, rfl, Or.inr ⟨v, by omega, y, rfl, fun u hu hi => ?_⟩⟩
            rcases Nat.lt_or_ge u v with z | z
            · rw [no u z] at hi; exact absurd hi (by decide)
            · have : u = v := by omega
              subst this; rfl
          · have d0 : dig (bN (tB A)) pan v0 < 6 := Nat.mod_lt _ (by omega)
            refine ⟨fun z => absurd z (nI_pos (by omega)), fun _ => ⟨fun z x29 e29 => ?_, fun z => fin _ (sure_two hp (by omega) hv i0 y (fun e => z (by rw [e])))⟩⟩
            have ed := (nI_eq (by omega) (by omega)).mp z
            rw [nI_1] at e29; subst e29
            refine hK _ ⟨_, rfl, Or.inr ⟨v0, by omega, i0, by rw [ed], fun u hu hi => ?_⟩⟩
            rcases Nat.lt_or_ge u v with z | z
            · exact same u z hi
            · have : u = v := by omega
              subst this; exact ed.symm
        · rw [nI_1] at e30; subst e30
          refine hK _ ⟨x, rfl, ?_⟩
          rcases inv with ⟨rfl, no⟩ | ⟨v0, hv0, i0, rfl, same⟩
          · refine Or.inl ⟨rfl, fun u hu => ?_⟩
            rcases Nat.lt_or_ge u v with z | z
            · exact no u z
            · have : u = v := by omega
              subst this; exact y
          · refine Or.inr ⟨v0, by omega, i0, rfl, fun u hu hi => ?_⟩
            rcases Nat.lt_or_ge u v with z | z
            · exact same u z hi
            · have : u = v := by omega
              subst this; rw [y] at hi; exact absurd hi (by decide)
      · rintro t K ⟨x, rfl, inv⟩
        unfold DB_Mo_sure_33
        intro i12 e12
        rw [o9.1] at e12
        subst e12
        rw [r25, nI_clamp (n := L) (by have := o9.2.1; omega), eN]
        refine ⟨vp_in_nI o9.2.1 (by omega), P_sixes hn ⟨fun _ => fin x ?_, fun z => absurd (Int32.le_refl _) z⟩⟩
        rcases inv with ⟨rfl, no⟩ | ⟨v0, hv0, i0, rfl, same⟩
        · exact sure_none no
        · exact sure_one hn hal hp hv0 i0 same
    · show D_Mo_sure r m (nI k) a2 h (fun y h2 => Q (-1) y h2)
      unfold D_Mo_sure
      rw [hm.2.2.2.2.1.1]
      refine P_in1 z w ⟨fun y => absurd y z01, fun _ => ?_⟩
      exact P_MoisBoat hM hm.bay (rockB_B hB) (fun k hk e => absurd e (hnk k hk)) (fun _ => ⟨fun z => absurd rfl z, fun _ => hQ _ _ C⟩)
  · show D_Mo_sure r m a1 a2 h (fun y h2 => Q (-1) y h2)
    unfold D_Mo_sure
    rw [hm.2.2.2.2.1.1]
    exact P_in0 z ⟨fun _ => hQ _ _ C, fun y => absurd rfl y⟩
