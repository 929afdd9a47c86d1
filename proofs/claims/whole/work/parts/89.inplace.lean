/-! in which place: both sides -/
/-- how homes grow from a scene to a later one -/
def HE (S S' : Sc) : Prop := popc (sO S) ≤ popc (sO S') ∧ ∀ o, o < 6 → ((sO S).testBit o = true → (sO S').testBit o = true ∧ sA S' o = sA S o) ∧ ((sO S).testBit o = false → (sO S').testBit o = true → popc (sO S) < sA S' o)
theorem HE.rf {S : Sc} : HE S S := ⟨Nat.le_refl _, fun o _ => ⟨fun h => ⟨h, rfl⟩, fun a b => absurd (a.symm.trans b) (by decide)⟩⟩
theorem HE.tr {S S1 S2 : Sc} (a : HE S S1) (b : HE S1 S2) : HE S S2 := by
  refine ⟨Nat.le_trans a.1 b.1, fun o ho => ⟨fun h => ?_, fun h h2 => ?_⟩⟩
  · obtain ⟨x, y⟩ := (a.2 o ho).1 h
    obtain ⟨x2, y2⟩ := (b.2 o ho).1 x
    exact ⟨x2, y2.trans y⟩
  · cases hq : (sO S1).testBit o with
    | true =>
      rw [((b.2 o ho).1 hq).2]
      exact (a.2 o ho).2 h hq
    | false =>
      have := (b.2 o ho).2 hq h2
      have := a.1
      omega
theorem HE.cg {S S1 S2 : Sc} (h : HE S S1) (e1 : sO S2 = sO S1) (e2 : sA S2 = sA S1) : HE S S2 := by
  unfold HE at *
  rw [e1, e2]
  exact h
theorem moveS_HE {B : By} {S : Sc} {k w : Nat} (hSB : ScB S) (hk : k < 6) (hs : sail S k = true) : HE S (moveS B k w S).2 := by
  obtain ⟨hl, ho⟩ := sail_iff.mp hs
  have o64 := hSB.2.2.2.1
  unfold moveS
  cases hb : besF (bW B) (bH B) (sC S k) w with
  | none => exact HE.rf
  | some d =>
    show HE S (if w = 0 then ((3 : Int32), S) else if bK B d = 1 then (2, lostS k (cellS k d S)) else if bK B d = 2 then (1, homeS k (cellS k d S)) else (0, cellS k d S)).2
    by_cases w0 : w = 0
    · rw [if_pos w0]; exact HE.rf
    rw [if_neg w0]
    by_cases k1 : bK B d = 1
    · rw [if_pos k1]; exact HE.rf.cg rfl rfl
    rw [if_neg k1]
    by_cases k2 : bK B d = 2
    · rw [if_pos k2]
      have pcs := pc_mono o64 hk ho
      refine ⟨?_, fun o ho6 => ⟨fun h => ⟨?_, ?_⟩, fun h h2 => ?_⟩⟩
      · show popc (sO S) ≤ popc (sO S ||| 2 ^ k); omega
      · show (sO S ||| 2 ^ k).testBit o = true
        rw [tbor o64 hk ho6, h]; rfl
      · show (if o = k then popc (sO S ||| 2 ^ k) else sA S o) = sA S o
        rw [if_neg (fun e => by rw [e] at h; exact absurd (ho.symm.trans h) (by decide))]
      · have h2' : (sO S ||| 2 ^ k).testBit o = true := h2
        rw [tbor o64 hk ho6, h, Bool.false_or] at h2'
        show popc (sO S) < (if o = k then popc (sO S ||| 2 ^ k) else sA S o)
        rw [if_pos (of_decide_eq_true h2')]
        omega
    · rw [if_neg k2]; exact HE.rf.cg rfl rfl
theorem mUp_HE {B : By} {S : Sc} {seed : Int32} (hB : ByB B) (hSB : ScB S) (hP : ScP (bN B) S) : ∀ j, j ≤ bN B → HE S (mUp B S seed j) := by
  have hn := hB.2.2.1
  intro j
  induction j with
  | zero => intro _; exact HE.rf
  | succ j ih =>
    intro hj
    have i := ih (by omega)
    unfold mUp
    split
    · rename_i hs
      rw [sailM_bit hB hSB (by omega)] at hs
      refine i.tr (moveS_HE (mUp_B hB hSB j (by omega)).1 (by omega) ?_)
      rw [(mUp_P hn hB hSB hP j (by omega)).2 j (by omega) (by omega)]
      exact (Bool.and_eq_true_iff.mp hs).2
    · exact i
theorem hourS_HE {B : By} {S : Sc} {seed : Int32} (hB : ByB B) (hSB : ScB S) (hP : ScP (bN B) S) : HE S (hourS B seed S) := by
  obtain ⟨a, b, c, d, e⟩ := layUp_same B (windF B (sH (nextH (mUp B S seed (bN B))))) (sailM B (nextH (mUp B S seed (bN B))) &&& sP (nextH (mUp B S seed (bN B)))) (nextH (mUp B S seed (bN B))) (bN B)
  exact (mUp_HE hB hSB hP (bN B) (Nat.le_refl _)).cg c e
/-- a boat is taken away -/
theorem lostS_I {B : By} {T : Nat} {S : Sc} {k : Nat} (hB : ByB B) (h : SI B T S) (hk : k < bN B) (hs : sail S k = true) : SI B T (lostS k S) := by
  have hn := hB.2.2.1
  obtain ⟨hl, ho⟩ := sail_iff.mp hs
  have l64 := h.1.2.2.1
  refine SI.mk (lostS_B h.1 (by omega)) (lostS_P hn h.1 h.2.1 (by omega) ho) h.2.2.2.1 ⟨h.2.2.1, fun i hi hi6 => ?_, fun i hi hsi => ?_, h.2.2.2.2.2.2⟩
  · have := h.2.2.2.2.1 i hi hi6
    refine ⟨this.1, ?_, this.2.2⟩
    show (sL S ||| 2 ^ k).testBit i = false
    rw [tbor l64 (by omega) hi6, this.2.1, decide_eq_false (show ¬ i = k by omega)]; rfl
  · obtain ⟨x, y⟩ := sail_iff.mp hsi
    have x' : (sL S ||| 2 ^ k).testBit i = false := x
    rw [tbor l64 (by omega) (by omega)] at x'
    exact h.2.2.2.2.2.1 i hi (sail_iff.mpr ⟨(Bool.or_eq_false_iff.mp x').1, y⟩)
theorem RowOK.without {f : Nat → Int32} {n k : Nat} {S : Sc} (hn : n ≤ 6) (hL : sL S < 64) (hk : k < n) (h : RowOK f n (-1) S) : RowOK f n (nI k) (lostS k S) := by
  refine ⟨h.1, h.2.1, fun j hj => ?_, h.2.2.2⟩
  obtain ⟨g1, g2, g3, g4, g5⟩ := h.2.2.1 j hj
  have gg := g5 (nI_nm (by omega))
  refine ⟨g1, g2, g3, fun e => ?_, fun e => ?_⟩
  · have : j = k := (nI_eq (by omega) (by omega)).mp e
    show (sL S ||| 2 ^ k).testBit j = true
    rw [tbor hL (by omega) (by omega), decide_eq_true this, Bool.or_true]
  · refine ⟨gg.1, ?_⟩
    show f (18 + j) = (if (sL S ||| 2 ^ k).testBit j then 1 else 0)
    rw [tbor hL (by omega) (by omega), decide_eq_false (fun q => e (by rw [q])), Bool.or_false]
    exact gg.2
theorem P_lookWithout {r : TR} {q b d T k : Nat} {h : TH} {A : St} {Q : TH → Prop} (hR : RX r q b d) (hA : AI T A) (hx : AX h q b d A) (hk : k < 6) (hQ : ∀ h', Fr (FX q b) h h' → BScr b h h' → ScOK h' (q + 56) (lostS k (tS A)) → Q h') : D_SR_lookWithout r q (nI k) h Q := by
  obtain ⟨⟨-, r1, r2, r3, -⟩, -, ⟨s1, s2, -⟩, -, -, -, -, rb, -, ap⟩ := hR
  have hb : q + 3 ≤ b ∧ b + 23 ≤ q + 52 := by rcases ap with x | x <;> omega
  unfold D_SR_lookWithout
  rw [r2, r3]
  refine P_copyFrom s2 s1 hx.2.2.2.1 (by omega) (fun h3 f3 S3 h6 e6 => ?_)
  rw [S3.2.2.1, bo_1 hA.2.1.1.2.2.1 hk] at e6
  have f6 : Fr (fun a => a = q + 56) h3 h6 := by rw [e6]; exact Fr.pI rfl
  have em : ∀ j, ¬ j = 2 → h6.1 (q + 56) j = h3.1 (q + 56) j := fun j hj => by rw [e6, pI_n _ _ _ _ (by omega)]
  refine hQ h6 ((f3.mono (fun a ha => by unfold FSc at ha; unfold FX; omega)).tr (f6.mono (fun a ha => by unfold FX; omega))) ((BScr.out (fun a x y => (f3 a (by unfold FSc; omega)).1)).tr (BScr.out (fun a x y => (f6 a (by omega)).1))) ?_
  refine ⟨by rw [em 0 (by omega)]; exact S3.1, by rw [em 1 (by omega)]; exact S3.2.1, by rw [e6, pI_s]; rfl, by rw [em 3 (by omega)]; exact S3.2.2.2.1, fun j hj => ?_, fun j hj => ?_, fun j hj => ?_⟩
  · rw [(f6 _ (by omega)).1]; exact S3.2.2.2.2.1 j hj
  · rw [(f6 _ (by omega)).1]; exact S3.2.2.2.2.2.1 j hj
  · rw [(f6 _ (by omega)).1]; exact S3.2.2.2.2.2.2 j hj
theorem pcc : ∀ m : Fin 64, popc m.1 = cntF (fun k => m.1.testBit k) 6 := by decide +kernel
theorem cntF_tail {p : Nat → Bool} {n : Nat} : ∀ m, n ≤ m → (∀ k, n ≤ k → k < m → p k = false) → cntF p m = cntF p n := by
  intro m
  induction m with
  | zero => intro h _; rw [show n = 0 by omega]
  | succ m ih =>
    intro h hp
    by_cases e : n = m + 1
    · rw [e]
    · unfold cntF
      rw [if_neg (by rw [hp m (by omega) (by omega)]; decide)]
      have := ih (by omega) (fun k a b => hp k a (by omega))
      rw [this]
      conv => lhs; unfold cntF
/-- who is ahead of boat k when S has become S' -/
def ahdM (S S' : Sc) (k : Nat) : Nat := sO S ||| (sO S' &&& (2 ^ k - 1))
theorem lsr1 : ∀ k : Fin 6, ∀ j : Fin 6, (2 ^ k.1 - 1).testBit j.1 = decide (j.1 < k.1) := by decide
theorem ahd_cnt {B : By} {T T' : Nat} {S S' : Sc} {k : Nat} (hB : ByB B) (h : SI B T S) (h' : SI B T' S') (he : HE S S') (hk : k < bN B) (hl : (sL S').testBit k = true) : ahdM S S' k < 64 ∧ popc (ahdM S S' k) = cntF (fun o => decide (¬ o = k) && ((sO S').testBit o && (decide (sA S' o ≤ popc (sO S)) || decide (o < k)))) (bN B) := by
  have hn := hB.2.2.1
  have hm : ahdM S S' k < 64 := or_lt64 h.1.2.2.2.1 (and_lt64 h'.1.2.2.2.1)
  refine ⟨hm, ?_⟩
  have e := pcc ⟨_, hm⟩
  simp only [] at e
  have bit : ∀ o, o < 6 → (ahdM S S' k).testBit o = ((sO S).testBit o || ((sO S').testBit o && decide (o < k))) := by
    intro o ho
    have := lsr1 ⟨k, by omega⟩ ⟨o, ho⟩
    simp only [] at this
    unfold ahdM
    rw [Nat.testBit_or, Nat.testBit_and, this]
  rw [e, cntF_tail 6 hn (fun o a b => ?_)]
  · refine cntF_cg _ (fun o ho => ?_)
    rw [bit o (by omega)]
    have hev := he.2 o (by omega)
    have hk' : o = k → (sO S').testBit o = false := by
      intro e
      subst e
      cases hq : (sO S').testBit o with
      | true => rw [(h'.2.1 o ho hq).2.2] at hl; exact absurd hl (by decide)
      | false => rfl
    cases hq : (sO S).testBit o with
    | true =>
      obtain ⟨x, y⟩ := hev.1 hq
      have ne : ¬ o = k := fun e => by rw [hk' e] at x; exact absurd x (by decide)
      have le := (h.2.2.2.2.2.2 o ho hq).2
      rw [x, y, decide_eq_true ne, decide_eq_true le]; rfl
    | false =>
      cases hq2 : (sO S').testBit o with
      | true =>
        have ne : ¬ o = k := fun e => by rw [hk' e] at hq2; exact absurd hq2 (by decide)
        have gt := hev.2 hq hq2
        rw [decide_eq_true ne, decide_eq_false (show ¬ sA S' o ≤ popc (sO S) by omega)]
        simp
      | false => simp
  · rw [bit o b, (h.2.2.2.2.1 o a b).2.2, (h'.2.2.2.2.1 o a b).2.2]; rfl
theorem P_homeAhead {r : TR} {h : TH} {m L k p : Nat} {rk : Int32} {B : By} {S : Sc} {Q : Int32 → TH → Prop} (hr : RMo r m) (hO : MBay h m L rk B) (hB : ByB B) (hR : RowOK (h.1 (m + 32)) (bN B) (nI k) S) (hP : ScP (bN B) S) (hk : k < 6) (hp : p ≤ 6) (hQ : Q (nI (cntF (fun o => decide (¬ o = k) && ((sO S).testBit o && (decide (sA S o ≤ p) || decide (o < k)))) (bN B))) h) : D_Mo_homeAhead r m (nI k) (nI p) h Q := by
  have r25 : r m 25 = m + 12 := hr 25 (by decide) (by decide)
  have r49 : r m 49 = m + 32 := hr 49 (by decide) (by decide)
  have hL := hO.2.1
  have hn := hB.2.2.1
  unfold D_Mo_homeAhead
  refine lp_cnt (n := bN B) (fun o => decide (¬ o = k) && ((sO S).testBit o && (decide (sA S o ≤ p) || decide (o < k)))) ?_ ?_
  · intro o x K ho ht hf
    have e12 : (12 : Int32) + nI o = nI (12 + o) := nI_add 12 o
    unfold DB_Mo_homeAhead_5
    intro i e
    rw [hO.1] at e
    subst e
    rw [r25, r49, nI_clamp (n := L) (by omega), hO.2.2.2.2.2.1]
    refine ⟨vp_in_nI hL (by omega), fun q => absurd ((nI_leI (by omega) (by omega)).mp q) (by omega), fun _ => ⟨fun z y ey => ?_, fun z i9 e9 => ?_⟩⟩
    · rw [nI_1] at ey; subst ey
      refine hf ?_
      rw [decide_eq_false (fun w => w ((nI_eq (by omega) (by omega)).mp z))]; rfl
    · have ne : ¬ o = k := fun w => z (by rw [w])
      have g := ((hR.2.2.1 o ho).2.2.2.2 z).1
      rw [e12] at e9
      subst e9
      rw [nI_clamp (n := 12 + o) (by omega), g]
      refine ⟨vp_in_nI (by omega) (by omega), fun w y ey => ?_, fun w i13 e13 => ?_⟩
      · rw [nI_1] at ey; subst ey
        refine hf ?_
        cases hq : (sO S).testBit o with
        | true =>
          rw [hq] at w
          simp only [if_true] at w
          have := hP o ho hq
          exact absurd w (nI_nle (by omega) (by omega))
        | false => rw [decide_eq_true ne]; rfl
      · have hq : (sO S).testBit o = true := by
          cases hq : (sO S).testBit o with
          | true => rfl
          | false => rw [hq] at w; exact absurd (show (0 : Int32) ≤ 0 by decide) w
        have := hP o ho hq
        rw [e12] at e13
        subst e13
        rw [nI_clamp (n := 12 + o) (by omega), g, hq]
        simp only [if_true]
        refine ⟨vp_in_nI (by omega) (by omega), fun v y ey y2 ey2 => ?_, fun v => ⟨fun u y ey => ?_, fun u y ey y2 ey2 => ?_⟩⟩
        · rw [nI_1] at ey ey2; subst ey; subst ey2
          refine ht ?_
          rw [decide_eq_true ne, hq, decide_eq_true ((nI_leI (by omega) (by omega)).mp v)]; rfl
        · rw [nI_1] at ey; subst ey
          refine hf ?_
          have := (nI_leI (by omega) (by omega)).mp u
          rw [decide_eq_true ne, hq, decide_eq_false (fun w => v ((nI_leI (by omega) (by omega)).mpr w)), decide_eq_false (by omega)]; rfl
        · rw [nI_1] at ey ey2; subst ey; subst ey2
          refine ht ?_
          have : ¬ k ≤ o := fun w => u ((nI_leI (by omega) (by omega)).mpr w)
          rw [decide_eq_true ne, hq, decide_eq_true (show o < k by omega), Bool.or_true]; rfl
  · intro K
    unfold DB_Mo_homeAhead_5
    intro i e
    rw [hO.1] at e
    subst e
    rw [r25, nI_clamp (n := L) (by omega), hO.2.2.2.2.2.1]
    exact ⟨vp_in_nI hL (by omega), fun _ => hQ, fun q => absurd (Int32.le_refl _) q⟩
/-- t hours on, if place p is reached then -/
def inpF (B : By) (S : Sc) (k x p t : Nat) : Option Int32 := if x ≤ t ∧ popc (ahdM (hoursS B (nI (bSe B)) (t - 1) S) (hoursS B (nI (bSe B)) t S) k) + 1 = p then some (nI t) else none
theorem hours_lost {B : By} {S : Sc} {k : Nat} {seed : Int32} (hl : (sL S).testBit k = true) (hn : bN B ≤ 6) (hk : k < 6) (hB : ByB B) (hSB : ScB S) : ∀ t, sH S + t ≤ 1000000 → (sL (hoursS B seed t S)).testBit k = true := by
  intro t
  induction t with
  | zero => intro _; exact hl
  | succ t ih =>
    intro ht
    have i := ih (by omega)
    have b := hoursS_B (seed := seed) hB hSB t (by omega)
    have key : ∀ j, j ≤ bN B → (sL (mUp B (hoursS B seed t S) seed j)).testBit k = true := by
      intro j
      induction j with
      | zero => intro _; exact i
      | succ j ihj =>
        intro hj
        have e := ihj (by omega)
        have bj := (mUp_B (seed := seed) hB b.1 j (by omega)).1
        unfold mUp
        split
        · unfold moveS
          cases hb : besF (bW B) (bH B) (sC (mUp B (hoursS B seed t S) seed j) j) (wayF B (hoursS B seed t S) seed j (windF B (sH (hoursS B seed t S)))) with
          | none => exact e
          | some d =>
            show (sL (if wayF B (hoursS B seed t S) seed j (windF B (sH (hoursS B seed t S))) = 0 then ((3 : Int32), mUp B (hoursS B seed t S) seed j) else if bK B d = 1 then (2, lostS j (cellS j d (mUp B (hoursS B seed t S) seed j))) else if bK B d = 2 then (1, homeS j (cellS j d (mUp B (hoursS B seed t S) seed j))) else (0, cellS j d (mUp B (hoursS B seed t S) seed j))).2).testBit k = true
            split
            · exact e
            split
            · show (sL (mUp B (hoursS B seed t S) seed j) ||| 2 ^ j).testBit k = true
              rw [tbor bj.2.2.1 (by omega) hk, e]; rfl
            split
            · exact e
            · exact e
        · exact e
    have := layUp_same B (windF B (sH (nextH (mUp B (hoursS B seed t S) seed (bN B))))) (sailM B (nextH (mUp B (hoursS B seed t S) seed (bN B))) &&& sP (nextH (mUp B (hoursS B seed t S) seed (bN B)))) (nextH (mUp B (hoursS B seed t S) seed (bN B))) (bN B)
    show (sL (layAll B (nextH (mUp B (hoursS B seed t S) seed (bN B))))).testBit k = true
    unfold layAll
    rw [this.2.1]
    exact key (bN B) (Nat.le_refl _)
