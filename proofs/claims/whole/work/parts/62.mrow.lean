/-! the reference's bay and row -/
/-- the live side's bay, as it is looked at with a rock at rk -/
def MBay (h : TH) (m L : Nat) (rk : Int32) (B : By) : Prop := h.1 m 18 = nI L ∧ L < 2 ∧ h.1 m 52 = rk ∧ h.1 (m + 10) L = nI (bW B) ∧ h.1 (m + 9) L = nI (bH B) ∧ h.1 (m + 12) L = nI (bN B) ∧ h.1 (m + 17) L = nI (bCo B) ∧ h.1 (m + 18) L = nI (bSe B) ∧ (∀ c, c < 40 → c % 8 < bW B → c / 8 < bH B → (nI c = rk ∧ bK B c = 1) ∨ (¬ nI c = rk ∧ h.1 (m + 11) (40 * L + c) = nI (bK B c))) ∧ (∀ k, k < bN B → h.1 (m + 13) (6 * L + k) = nI (bX B k) ∧ h.1 (m + 14) (6 * L + k) = nI (bY B k) ∧ h.1 (m + 15) (6 * L + k) = nI (bS B k) ∧ h.1 (m + 16) (6 * L + k) = nI (bNo B k)) ∧ LawM h m (3 * L + 0) 0 (bPW B) ∧ LawM h m (3 * L + 1) 1 (bPS B) ∧ LawM h m (3 * L + 2) 1 (bPL B)
/-- cells that hours of the reference write -/
def FMs (m : Nat) : Nat → Prop := fun a => a = m ∨ a = m + 29 ∨ a = m + 30 ∨ a = m + 32 ∨ a = m + 33
def MK (m : Nat) (h h' : TH) : Prop := Fr (FMs m) h h' ∧ ∀ j, ¬ j = 47 → h'.1 m j = h.1 m j
theorem MK.rf {m : Nat} {h : TH} : MK m h h := ⟨Fr.rf, fun _ _ => rfl⟩
theorem MK.tr {m : Nat} {h h1 h2 : TH} (a : MK m h h1) (b : MK m h1 h2) : MK m h h2 := ⟨a.1.tr b.1, fun j hj => (b.2 j hj).trans (a.2 j hj)⟩
theorem MK.at {m : Nat} {h h' : TH} (a : MK m h h') {x : Nat} (hx : ¬ FMs m x) : h'.1 x = h.1 x := (a.1 x hx).1
theorem MK.sm {m : Nat} {h h' : TH} (s : SM m h h') : MK m h h' := ⟨s.1.mono (fun q hq => by unfold FMs; omega), s.2⟩
theorem MK.pI {m o j : Nat} {h : TH} {v : Int32} (ho : o = m + 29 ∨ o = m + 30 ∨ o = m + 32 ∨ o = m + 33) : MK m h (pI h o j v) := ⟨Fr.pI (by unfold FMs; omega), fun i _ => pI_n h o j v (by omega)⟩
theorem Seg.mk {m : Nat} {h h' : TH} {a b : Int32} {cs : List Nat} (s : MK m h h') (g : Seg h m a b cs) : Seg h' m a b cs := by
  obtain ⟨x, h1, h2, h3, h4, h5⟩ := g
  exact ⟨x, h1, h2, h3, fun i hi => by rw [s.at (by unfold FMs; omega), s.at (by unfold FMs; omega)]; exact h4 i hi, h5⟩
theorem LawM.mk {m a plain : Nat} {h h' : TH} {Ps : List (List Nat)} (s : MK m h h') (g : LawM h m a plain Ps) : LawM h' m a plain Ps := by
  obtain ⟨f, nb, h1, h2, h3, h4⟩ := g
  refine ⟨f, nb, by rw [s.at (by unfold FMs; omega)]; exact h1, by rw [s.at (by unfold FMs; omega)]; exact h2, h3, ?_⟩
  rcases h4 with h4 | ⟨a1, a2, a3, a4, a5⟩
  · exact Or.inl h4
  · right
    refine ⟨a1, a2, fun i hi => ?_, ?_, ?_⟩
    · obtain ⟨p1, p2, p3, p4⟩ := a3 i hi
      rw [s.at (x := m + 21) (by unfold FMs; omega), s.at (x := m + 22) (by unfold FMs; omega), s.at (x := m + 23) (by unfold FMs; omega), s.at (x := m + 24) (by unfold FMs; omega), s.at (x := m + 25) (by unfold FMs; omega)]
      exact ⟨p1, p2.mk s, p3.mk s, p4.mk s⟩
    · rw [s.at (x := m + 21) (by unfold FMs; omega)]; exact a4
    · rw [s.at (x := m + 24) (by unfold FMs; omega), s.at (x := m + 25) (by unfold FMs; omega)]; exact a5.mk s
theorem MBay.mk {m L : Nat} {rk : Int32} {h h' : TH} {B : By} (s : MK m h h') (g : MBay h m L rk B) : MBay h' m L rk B := by
  obtain ⟨a1, a2, a3, a4, a5, a6, a7, a8, a9, a10, a11, a12, a13⟩ := g
  refine ⟨by rw [s.2 18 (by omega)]; exact a1, a2, by rw [s.2 52 (by omega)]; exact a3, ?_, ?_, ?_, ?_, ?_, fun c h1 h2 h3 => ?_, fun k hk => ?_, a11.mk s, a12.mk s, a13.mk s⟩
  · rw [s.at (by unfold FMs; omega)]; exact a4
  · rw [s.at (by unfold FMs; omega)]; exact a5
  · rw [s.at (by unfold FMs; omega)]; exact a6
  · rw [s.at (by unfold FMs; omega)]; exact a7
  · rw [s.at (by unfold FMs; omega)]; exact a8
  · rw [s.at (by unfold FMs; omega)]; exact a9 c h1 h2 h3
  · rw [s.at (x := m + 13) (by unfold FMs; omega), s.at (x := m + 14) (by unfold FMs; omega), s.at (x := m + 15) (by unfold FMs; omega), s.at (x := m + 16) (by unfold FMs; omega)]; exact a10 k hk
/-- a laying as the reference writes it -/
def layH (y : Nat) : Int32 := if y = 0 then -2 else nI (y / 16 - 1)
def layT (y : Nat) : Int32 := if y = 0 then -2 else nI (y / 16 - 1 + y % 16)
/-- the reference's row is the scene; wo: the boat that is nowhere -/
def RowOK (f : Nat → Int32) (n : Nat) (wo : Int32) (S : Sc) : Prop := f 30 = nI (sH S) ∧ f 31 = nI (popc (sO S)) ∧ (∀ k, k < n → f k = nI (sC S k % 8) ∧ f (6 + k) = nI (sC S k / 8) ∧ f (24 + k) = (if (sP S).testBit k then 1 else 0) ∧ (nI k = wo → (sL S).testBit k = true) ∧ (¬ nI k = wo → f (12 + k) = (if (sO S).testBit k then nI (sA S k) else 0) ∧ f (18 + k) = (if (sL S).testBit k then 1 else 0))) ∧ ∀ c, c < 40 → ∀ d, d < n → f (32 + (6 * c + d)) = layH (sY S (40 * d + c)) ∧ f (272 + (6 * c + d)) = layT (sY S (40 * d + c))
/-- who is home has a place; nobody is both lost and home -/
def ScP (n : Nat) (S : Sc) : Prop := ∀ k, k < n → ((sO S).testBit k = true → 1 ≤ sA S k ∧ sA S k ≤ 6 ∧ (sL S).testBit k = false)
theorem P_Mo_isSailing {r : TR} {h : TH} {m n k : Nat} {wo : Int32} {S : Sc} {Q : Int32 → TH → Prop} (hr : RMo r m) (hR : RowOK (h.1 (m + 32)) n wo S) (hw : h.1 m 51 = wo) (hP : ScP n S) (hn : n ≤ 6) (hk : k < n) (h1 : sail S k = true → Q 1 h) (h0 : sail S k = false → Q 0 h) : D_Mo_isSailing r m (nI k) h Q := by
  have r49 : r m 49 = m + 32 := hr 49 (by decide) (by decide)
  obtain ⟨g1, g2, g3, g4, g5⟩ := hR.2.2.1 k hk
  unfold D_Mo_isSailing
  rw [hw, r49]
  refine ⟨fun q => h0 ?_, fun q => ?_⟩
  · unfold sail; rw [g4 q]; rfl
  · obtain ⟨p1, p2⟩ := g5 q
    intro i3 e3
    have e3' : i3 = nI (12 + k) := by rw [e3]; exact nI_add 12 k
    subst e3'
    rw [nI_clamp (by omega), p1]
    refine ⟨vp_in_nI (by omega) (by omega), fun q1 => h0 ?_, fun q1 => ?_⟩
    · cases ho : (sO S).testBit k with
      | true => unfold sail; rw [ho]; simp
      | false => rw [ho] at q1; exact absurd rfl q1
    · have ho : (sO S).testBit k = false := by
        cases ho : (sO S).testBit k with
        | false => rfl
        | true =>
          rw [ho] at q1
          have := hP k hk ho
          exact absurd q1 (nI_ne0 (by omega) (by omega))
      intro i6 e6
      have e6' : i6 = nI (18 + k) := by rw [e6]; exact nI_add 18 k
      subst e6'
      rw [nI_clamp (by omega), p2]
      refine ⟨vp_in_nI (by omega) (by omega), fun q2 => h0 ?_, fun q2 => h1 ?_⟩
      · cases hl : (sL S).testBit k with
        | true => unfold sail; rw [hl]; simp
        | false => rw [hl] at q2; exact absurd rfl q2
      · cases hl : (sL S).testBit k with
        | true => rw [hl] at q2; exact absurd q2 (by decide)
        | false => unfold sail; rw [hl, ho]; rfl
theorem nI_self (x : Int32) : x = nI x.toBitVec.toNat := by
  apply Int32.toBitVec_inj.1
  show x.toBitVec = BitVec.ofNat 32 x.toBitVec.toNat
  simp
theorem jushr1 (x : Int32) : ∃ j, j < 2 ^ 31 ∧ jushr x 1 = nI j := by
  have hx : x.toBitVec.toNat < 2 ^ 32 := x.toBitVec.isLt
  refine ⟨x.toBitVec.toNat / 2 ^ 1, by omega, ?_⟩
  conv => lhs; rw [nI_self x]
  unfold jushr
  exact pk_ushrN hx 1 1 (by decide)
theorem lot_nn (seed which : Int32) : ∃ j, j < 100 ∧ lotI seed which = nI j := by
  obtain ⟨j, hj, e⟩ := jushr1 (mixI (mixI seed 69) which)
  refine ⟨j % 100, Nat.mod_lt _ (by omega), ?_⟩
  unfold lotI
  rw [e]
  exact jrem_nI (d := 100) hj (by decide) (by decide)
theorem P_Mo_hasCold {r : TR} {h : TH} {m L : Nat} {k rk seed : Int32} {B : By} {t : Nat} {Q : Int32 → TH → Prop} (hr : RMo r m) (hO : MBay h m L rk B) (hB : ByB B) (hs : h.1 m 50 = seed) (ht : h.1 (m + 32) 30 = nI t) (h1 : coldB (bCo B) seed (16 * nI t + k) = true → Q 1 h) (h0 : coldB (bCo B) seed (16 * nI t + k) = false → Q 0 h) : D_Mo_hasCold r m k h Q := by
  have r49 : r m 49 = m + 32 := hr 49 (by decide) (by decide)
  have r30 : r m 30 = m + 17 := hr 30 (by decide) (by decide)
  have hL := hO.2.1
  have hc100 := hB.2.2.2.1
  have z30 : (30 : Int32).toNatClampNeg = 30 := by decide
  unfold D_Mo_hasCold D_Mo_mixed
  intro x1 e1 x2 e2
  rw [r49, z30, ht] at e2
  intro i7 e7
  rw [hO.1] at e7
  subst e7
  rw [r30, nI_clamp (by omega), hO.2.2.2.2.2.2.1]
  have el : jrem (jushr (x2 ^^^ jushr x2 15) 1) 100 = lotI seed (16 * nI t + k) := by rw [e2, e1, hs]; rfl
  rw [el]
  obtain ⟨j, hj, ej⟩ := lot_nn seed (16 * nI t + k)
  refine ⟨vp_in_nI (by omega) (by omega), fun q => h0 ?_, fun q => h1 ?_⟩
  · unfold coldB; simp [q]
  · unfold coldB
    simp only [Bool.and_eq_true, decide_eq_true_eq]
    refine ⟨fun z => q ?_, q⟩
    rw [ej]
    have := (nI_leI (a := bCo B) (b := 0) (by omega) (by omega)).mp z
    exact (nI_leI (by omega) (by omega)).mpr (by omega)
theorem P_looks {r : TR} {h : TH} {m : Nat} {t : Int32} {Q : TH → Prop} (hr : RMo r m) (hQ : ∀ h', Fr (fun a => a = m + 29) h h' → h'.1 (m + 29) 0 = t → (∀ i, 1 ≤ i → i < 9 → h'.1 (m + 29) i = 0) → Q h') : D_Mo_looks r m t h Q := by
  have r45 : r m 45 = m + 29 := hr 45 (by decide) (by decide)
  unfold D_Mo_looks
  intro h2 e2
  have z0 : (0 : Int32).toNatClampNeg = 0 := by decide
  rw [r45, z0] at e2
  refine lp_for 8 (fun j s => ∃ h', s = (nI (j + 1), h') ∧ Fr (fun a => a = m + 29) h h' ∧ h'.1 (m + 29) 0 = t ∧ ∀ i, 1 ≤ i → i < j + 1 → h'.1 (m + 29) i = 0) ?_ ?_ _ ⟨h2, rfl, by rw [e2]; exact Fr.pI rfl, by rw [e2, pI_s], fun i h1 h2 => by omega⟩
  · rintro j s K hj ⟨h', rfl, hF, h0, hz⟩ hK
    unfold DB_Mo_looks_9
    refine ⟨fun q => absurd ((nI_leI (a := 9) (by omega) (by omega)).mp q) (by omega), fun _ => ⟨vp_in_nI (by omega) (by omega), ?_⟩⟩
    intro h6 e6 x7 e7
    rw [r45, nI_clamp (by omega)] at e6
    rw [nI_1] at e7
    subst e7
    refine hK _ ⟨h6, rfl, hF.tr (by rw [e6]; exact Fr.pI rfl), by rw [e6, pI_n _ _ _ _ (by omega)]; exact h0, fun i h1 h2 => ?_⟩
    by_cases e : i = j + 1
    · rw [e6, e, pI_s]
    · rw [e6, pI_n _ _ _ _ (by omega)]; exact hz i h1 (by omega)
  · rintro s K ⟨h', rfl, hF, h0, hz⟩
    unfold DB_Mo_looks_9
    exact ⟨fun _ => hQ h' hF h0 (fun i a b => hz i a b), fun q => absurd (show (9 : Int32) ≤ nI (8 + 1) by decide) q⟩
theorem P_windIn {r : TR} {h : TH} {m L t : Nat} {rk : Int32} {B : By} {Q : Int32 → TH → Prop} (hr : RMo r m) (hO : MBay h m L rk B) (hQ : ∀ h', Fr (fun a => a = m ∨ a = m + 29 ∨ a = m + 30) h h' → MK m h h' → Q (nI (windF B t)) h') : D_Mo_windIn r m (nI t) h Q := by
  unfold D_Mo_windIn
  refine P_looks hr (fun h1 f1 v0 vz => ?_)
  have k1 : MK m h h1 := ⟨f1.mono (fun q hq => by unfold FMs; omega), fun j _ => congrFun (f1 m (by omega)).1 j⟩
  have O1 := hO.mk k1
  refine P_asks (k := 0) (plain := 0) hr O1.1 O1.2.1 (by omega) (by omega) O1.2.2.2.2.2.2.2.2.2.2.1 (fun h' hS => ?_)
  have wf : ∀ cs ∈ bPW B, wfT cs 0 = true := by
    obtain ⟨f, nb, -, -, -, hc⟩ := O1.2.2.2.2.2.2.2.2.2.2.1
    intro cs hcs
    obtain ⟨i, hi, rfl⟩ := List.getElem_of_mem hcs
    have gd : (bPW B).getD i [] = (bPW B)[i] := by rw [List.getD_eq_getElem?_getD, List.getElem?_eq_getElem hi]; rfl
    rcases hc with ⟨-, e⟩ | ⟨a1, a2, a3, a4, a5⟩
    · rw [← gd, e]
      have : i = 0 := by rw [e] at hi; simpa using hi
      subst this
      rfl
    · rw [← gd]
      by_cases hl : i < 3 * (nb - 1)
      · obtain ⟨p1, p2, p3, p4⟩ := a3 (i / 3) (by omega)
        rcases (show i = 3 * (i / 3) ∨ i = 3 * (i / 3) + 1 ∨ i = 3 * (i / 3) + 2 by omega) with e | e | e
        · rw [e]; exact p2.choose_spec.2.2.2.2
        · rw [e]; exact p3.choose_spec.2.2.2.2
        · rw [e]; exact p4.choose_spec.2.2.2.2
      · have e : i = 3 * (nb - 1) := by omega
        rw [e]; exact a5.choose_spec.2.2.2.2
  have ev : tellsF (h1.1 (m + 29)) (bPW B) = tellsF (windV t) (bPW B) := by
    refine tellsF_cg (fun i hi => ?_) _ _ (Nat.le_refl _) wf
    unfold windV
    by_cases z : i = 0
    · rw [if_pos z, z]; exact v0
    · rw [if_neg z]; exact vz i (by omega) hi
  rw [ev]
  have fin := hQ h' ((f1.mono (fun q hq => by omega)).tr (hS.1.mono (fun q hq => by omega))) (k1.tr (MK.sm hS))
  unfold windF way4 at fin
  refine ⟨fun q => ?_, fun q => ?_⟩
  · rw [if_pos q] at fin
    obtain ⟨j, hj, ej⟩ := nn_of q
    rw [ej] at fin ⊢
    rw [jr4 hj, nI_1]
    rw [nI_clamp hj] at fin
    exact fin
  · rw [if_neg q] at fin; exact fin
