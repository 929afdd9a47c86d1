/-! filling, clearing, copying, beginning: the class's side -/
theorem P_fill {r : TR} {h : TH} {a n : Nat} {v : Int32} {Q : TH → Prop} (hn : n < 2 ^ 31) (hQ : ∀ h', Fr (fun x => x = a) h h' → (∀ i, i < n → h'.1 a i = v) → Q h') : D_JA_fill r a n v h Q := by
  unfold D_JA_fill
  intro x2 e2
  have e2' : x2 = nI n := e2
  subst e2'
  refine lp_for n (fun j t => ∃ h', t = (nI j, h') ∧ Fr (fun x => x = a) h h' ∧ ∀ i, i < j → h'.1 a i = v) ?_ ?_ _ ⟨h, rfl, Fr.rf, fun i hi => absurd hi (Nat.not_lt_zero _)⟩
  · rintro j t K hj ⟨h', rfl, hF, hv⟩ hK
    unfold DB_JA_fill_5
    refine ⟨fun q => absurd ((nI_leI (a := n) (b := j) (by omega) (by omega)).mp q) (by omega), fun _ => ⟨vp_in_nI hj (by omega), ?_⟩⟩
    intro h2 e2 x e
    rw [nI_1] at e
    rw [nI_clamp (by omega)] at e2
    subst e
    refine hK _ ⟨h2, rfl, hF.tr (by rw [e2]; exact Fr.pI rfl), fun i hi => ?_⟩
    by_cases z : i = j
    · rw [e2, z, pI_s]
    · rw [e2, pI_n _ _ _ _ (by omega)]; exact hv i (by omega)
  · rintro t K ⟨h', rfl, hF, hv⟩
    unfold DB_JA_fill_5
    exact ⟨fun _ => hQ h' hF hv, fun q => absurd (Int32.le_refl _) q⟩
def emptyS : Sc := (0, 0, 0, 0, (fun _ => 0), (fun _ => 0), (fun _ => 0))
def FSc (s : Nat) : Nat → Prop := fun a => s ≤ a ∧ a < s + 4
theorem emptyS_B : ScB emptyS := ⟨by decide, by decide, by decide, by decide, fun _ _ => by show 0 < 40; omega, fun _ _ => Or.inl rfl⟩
theorem P_Sc_clear {r : TR} {h : TH} {s : Nat} {Q : TH → Prop} (hrs : RSc r s) (hQ : ∀ h', Fr (FSc s) h h' → ScOK h' s emptyS → Q h') : D_Sc_clear r s h Q := by
  unfold D_Sc_clear
  intro h1 e1 h2 e2 h3 e3 h4 e4
  rw [hrs.1, hrs.2.1, hrs.2.2]
  refine P_fill (by omega) (fun h6 f6 v6 => P_fill (by omega) (fun h9 f9 v9 => P_fill (by omega) (fun h12 f12 v12 => ?_)))
  have g : ∀ j, h12.1 s j = h4.1 s j := fun j => by rw [(f12 s (by omega)).1, (f9 s (by omega)).1, (f6 s (by omega)).1]
  refine hQ h12 ?_ ⟨?_, ?_, ?_, ?_, fun k hk => ?_, fun k hk => ?_, fun i hi => ?_⟩
  · have f4 : Fr (FSc s) h h4 := by
      rw [e4, e3, e2, e1]
      have f : ∀ (x : TH) (j : Nat) (v : Int32), Fr (FSc s) x (pI x s j v) := fun x j v => Fr.pI (by unfold FSc; omega)
      exact ((((f _ _ _).tr (f _ _ _)).tr (f _ _ _)).tr (f _ _ _))
    exact ((f4.tr (f6.mono (fun q hq => by unfold FSc; omega))).tr (f9.mono (fun q hq => by unfold FSc; omega))).tr (f12.mono (fun q hq => by unfold FSc; omega))
  · rw [g, e4, pI_n _ _ _ _ (by omega), e3, pI_n _ _ _ _ (by omega), e2, pI_n _ _ _ _ (by omega), e1, pI_s]; rfl
  · rw [g, e4, pI_n _ _ _ _ (by omega), e3, pI_n _ _ _ _ (by omega), e2, pI_s]; rfl
  · rw [g, e4, pI_n _ _ _ _ (by omega), e3, pI_s]; rfl
  · rw [g, e4, pI_s]; rfl
  · rw [(f12 (s + 1) (by omega)).1, (f9 (s + 1) (by omega)).1, v6 k hk]; rfl
  · rw [(f12 (s + 2) (by omega)).1, v9 k hk]; rfl
  · rw [v12 i hi]; rfl
theorem P_copyFrom {r : TR} {h : TH} {s t : Nat} {S : Sc} {Q : TH → Prop} (hrs : RSc r s) (hrt : RSc r t) (hS : ScOK h t S) (hap : s + 4 ≤ t ∨ t + 4 ≤ s) (hQ : ∀ h', Fr (FSc s) h h' → ScOK h' s S → Q h') : D_Sc_copyFrom r s t h Q := by
  unfold D_Sc_copyFrom
  intro h1 e1 h2 e2 h3 e3 h4 e4 h7 e7 h10 e10 h13 e13
  rw [hrs.1, hrt.1] at e7
  rw [hrs.2.1, hrt.2.1] at e10
  rw [hrs.2.2, hrt.2.2] at e13
  have z6 : (6 : Int32).toNatClampNeg = 6 := by decide
  have z240 : (240 : Int32).toNatClampNeg = 240 := by decide
  rw [z6] at e7 e10
  rw [z240] at e13
  have t4 : ∀ a, ¬ a = s → h4.1 a = h.1 a := fun a ha => by rw [e4, pI_o _ _ _ _ ha, e3, pI_o _ _ _ _ ha, e2, pI_o _ _ _ _ ha, e1, pI_o _ _ _ _ ha]
  have k13 : ∀ j, h13.1 s j = h4.1 s j := fun j => by rw [e13, pRow_o _ _ _ (by omega), e10, pRow_o _ _ _ (by omega), e7, pRow_o _ _ _ (by omega)]
  obtain ⟨a1, a2, a3, a4, a5, a6, a7⟩ := hS
  refine hQ h13 ?_ ⟨?_, ?_, ?_, ?_, fun k hk => ?_, fun k hk => ?_, fun i hi => ?_⟩
  · rw [e13, e10, e7, e4, e3, e2, e1]
    have f : ∀ (x : TH) (j : Nat) (v : Int32), Fr (FSc s) x (pI x s j v) := fun x j v => Fr.pI (by unfold FSc; omega)
    exact ((((((f _ _ _).tr (f _ _ _)).tr (f _ _ _)).tr (f _ _ _)).tr (Fr.pRow (by unfold FSc; omega))).tr (Fr.pRow (by unfold FSc; omega))).tr (Fr.pRow (by unfold FSc; omega))
  · rw [k13, e4, pI_n _ _ _ _ (by omega), e3, pI_n _ _ _ _ (by omega), e2, pI_n _ _ _ _ (by omega), e1, pI_s]; exact a1
  · rw [k13, e4, pI_n _ _ _ _ (by omega), e3, pI_n _ _ _ _ (by omega), e2, pI_s, e1, pI_o _ _ _ _ (by omega)]; exact a2
  · rw [k13, e4, pI_n _ _ _ _ (by omega), e3, pI_s, e2, pI_o _ _ _ _ (by omega), e1, pI_o _ _ _ _ (by omega)]; exact a3
  · rw [k13, e4, pI_s, e3, pI_o _ _ _ _ (by omega), e2, pI_o _ _ _ _ (by omega), e1, pI_o _ _ _ _ (by omega)]; exact a4
  · rw [e13, pRow_o _ _ _ (by omega), e10, pRow_o _ _ _ (by omega), e7, pRow_at, pk_cpy_in (by omega) (by omega), t4 _ (by omega)]
    have : 0 + (k - 0) = k := by omega
    rw [this]; exact a5 k hk
  · rw [e13, pRow_o _ _ _ (by omega), e10, pRow_at, pk_cpy_in (by omega) (by omega), e7, pRow_o _ _ _ (by omega), t4 _ (by omega)]
    have : 0 + (k - 0) = k := by omega
    rw [this]; exact a6 k hk
  · rw [e13, pRow_at, pk_cpy_in (by omega) (by omega), e10, pRow_o _ _ _ (by omega), e7, pRow_o _ _ _ (by omega), t4 _ (by omega)]
    have : 0 + (i - 0) = i := by omega
    rw [this]; exact a7 i hi
/-- the cell where a boat is told -/
def startF (B : By) (k : Nat) : Nat := 8 * bY B k + bX B k
theorem startF_lt {B : By} {k : Nat} (hB : ByB B) (hk : k < bN B) : startF B k < 40 := by
  have h1 := hB.2.2.2.2.2.2.1 k hk
  have h2 := hB.1
  have h3 := hB.2.1
  unfold startF
  omega
theorem P_startOf {r : TR} {h : TH} {b k : Nat} {B : By} {Q : Int32 → TH → Prop} (hr : RBa r b) (hO : BayOK h b B) (hB : ByB B) (hk : k < bN B) (hQ : Q (nI (startF B k)) h) : D_Bay_startOf r b (nI k) h Q := by
  have hn := hB.2.2.1
  unfold D_Bay_startOf
  refine ⟨vp_in_nI (by omega) (by omega), vp_in_nI (by omega) (by omega), ?_⟩
  rw [hr.1.2.2.2.2.1, hr.1.2.2.2.1, nI_clamp (by omega), (hO.2.2.2.2.2.2.1 k hk).1, (hO.2.2.2.2.2.2.1 k hk).2.1]
  have : (8 : Int32) * nI (bY B k) = nI (8 * bY B k) := pk_mul 8 _
  rw [this, nI_add]
  exact hQ
/-- the text begins: the first j boats are set -/
def begUp (B : By) : Nat → Sc
  | 0 => (0, 2 ^ bN B - 1, 0, 0, (fun _ => 0), (fun _ => 0), (fun _ => 0))
  | j + 1 => if bK B (startF B j) = 2 then homeS j (cellS j (startF B j) (begUp B j)) else cellS j (startF B j) (begUp B j)
def beginS (B : By) : Sc := layAll B (begUp B (bN B))
theorem begUp_B {B : By} (hB : ByB B) : ∀ j, j ≤ bN B → ScB (begUp B j) ∧ sH (begUp B j) = 0 := by
  have hn := hB.2.2.1
  intro j
  induction j with
  | zero => intro _; exact ⟨⟨by show 0 ≤ 1000000; omega, (ab1 ⟨bN B, by omega⟩).2, by show 0 < 64; omega, by show 0 < 64; omega, fun _ _ => by show 0 < 40; omega, fun _ _ => Or.inl rfl⟩, rfl⟩
  | succ j ih =>
    intro hj
    have h1 := ih (by omega)
    have hc := startF_lt hB (k := j) (by omega)
    unfold begUp
    split
    · exact ⟨homeS_B (cellS_B h1.1 hc) (by omega), h1.2⟩
    · exact ⟨cellS_B h1.1 hc, h1.2⟩
theorem beginS_B {B : By} (hB : ByB B) : ScB (beginS B) ∧ sH (beginS B) = 0 := ⟨layAll_B hB (begUp_B hB _ (Nat.le_refl _)).1, by unfold beginS layAll; rw [layUp_H]; exact (begUp_B hB _ (Nat.le_refl _)).2⟩
theorem P_begin {r : TR} {h : TH} {b s : Nat} {B : By} {Q : TH → Prop} (hr : RBa r b) (hrs : RSc r s) (hO : BayOK h b B) (hB : ByB B) (hap : apart b s)
    (hQ : ∀ h', Fr (FHo b s) h h' → BScr b h h' → ScOK h' s (beginS B) → Q h') : D_Bay_begin r b s h Q := by
  have hn := hB.2.2.1
  have apB : ∀ a, s ≤ a → a < s + 4 → ¬ (b ≤ a ∧ a < b + 23) := fun a p q => by unfold apart at hap; omega
  unfold D_Bay_begin
  refine P_Sc_clear hrs (fun h1 f1 S1 => ?_)
  have s1 : BScr b h h1 := BScr.out (fun a p1 p2 => (f1 a (fun hq => by unfold FSc at hq; exact apB a hq.1 hq.2 ⟨p1, p2⟩)).1)
  refine P_allBoats (hO.scr s1) hB ?_
  intro h5 e5
  have f5 : Fr (FHo b s) h h5 := (f1.mono (F' := FHo b s) (fun q hq => Or.inr hq)).tr (by rw [e5]; exact Fr.pI (by unfold FHo; right; omega))
  have s5 : BScr b h h5 := s1.tr (BScr.out (fun a p1 p2 => by rw [e5]; exact pI_o _ _ _ _ (fun z => apB a (by omega) (by omega) ⟨p1, p2⟩)))
  have S5 : ScOK h5 s (begUp B 0) := by
    obtain ⟨a1, a2, a3, a4, a5, a6, a7⟩ := S1
    refine ⟨?_, ?_, ?_, ?_, fun i hi => ?_, fun i hi => ?_, fun i hi => ?_⟩
    · rw [e5, pI_n _ _ _ _ (by omega)]; exact a1
    · rw [e5, pI_s]; rfl
    · rw [e5, pI_n _ _ _ _ (by omega)]; exact a3
    · rw [e5, pI_n _ _ _ _ (by omega)]; exact a4
    · rw [e5, pI_n _ _ _ _ (by omega)]; exact a5 i hi
    · rw [e5, pI_n _ _ _ _ (by omega)]; exact a6 i hi
    · rw [e5, pI_n _ _ _ _ (by omega)]; exact a7 i hi
  refine lp_for (bN B) (fun j t => ∃ h', t = (nI j, h') ∧ Fr (FHo b s) h h' ∧ BScr b h h' ∧ ScOK h' s (begUp B j)) ?_ ?_ _ ⟨h5, rfl, f5, s5, S5⟩
  · rintro j t K hj ⟨h', rfl, hF', hs', hS'⟩ hK
    have O' := hO.scr hs'
    have hc := startF_lt hB hj
    unfold DB_Bay_begin_14
    rw [O'.2.2.1]
    refine ⟨fun q => absurd ((nI_leI (by omega) (by omega)).mp q) (by omega), fun _ => ?_⟩
    refine P_startOf hr O' hB hj ⟨vp_in_nI (by omega) (by omega), ?_⟩
    intro h11 e11
    rw [hrs.1, nI_clamp (by omega)] at e11
    have s11 : BScr b h h11 := hs'.tr (BScr.out (fun a p1 p2 => by rw [e11]; exact pI_o _ _ _ _ (fun z => apB a (by omega) (by omega) ⟨p1, p2⟩)))
    have f11 : Fr (FHo b s) h h11 := hF'.tr (by rw [e11]; exact Fr.pI (by unfold FHo; right; omega))
    have S11 : ScOK h11 s (cellS j (startF B j) (begUp B j)) := by
      obtain ⟨a1, a2, a3, a4, a5, a6, a7⟩ := hS'
      refine ⟨?_, ?_, ?_, ?_, fun i hi => ?_, fun i hi => ?_, fun i hi => ?_⟩
      · rw [e11, pI_n _ _ _ _ (by omega)]; exact a1
      · rw [e11, pI_n _ _ _ _ (by omega)]; exact a2
      · rw [e11, pI_n _ _ _ _ (by omega)]; exact a3
      · rw [e11, pI_n _ _ _ _ (by omega)]; exact a4
      · show h11.1 (s + 1) i = nI (if i = j then startF B j else sC (begUp B j) i)
        by_cases e : i = j
        · rw [if_pos e, e11, e, pI_s]
        · rw [if_neg e, e11, pI_n _ _ _ _ (by omega)]; exact a5 i hi
      · rw [e11, pI_n _ _ _ _ (by omega)]; exact a6 i hi
      · rw [e11, pI_n _ _ _ _ (by omega)]; exact a7 i hi
    have O11 := hO.scr s11
    refine P_startOf hr O11 hB hj ⟨vp_in_nI hc (by omega), ?_⟩
    have hk3 : bK B (startF B j) ≤ 3 := by have := hB.2.2.2.2.2.1 _ hc; split at this <;> omega
    rw [hr.1.1, nI_clamp (by omega), O11.2.2.2.2.2.1 _ hc]
    refine ⟨fun q x16 e16 => ?_, fun q => ?_⟩
    · rw [nI_1] at e16
      subst e16
      refine hK _ ⟨h11, rfl, f11, s11, ?_⟩
      have : ¬ bK B (startF B j) = 2 := fun z => q (by rw [z]; rfl)
      unfold begUp
      rw [if_neg this]
      exact S11
    · have z : bK B (startF B j) = 2 := (nI_eq (a := bK B (startF B j)) (b := 2) (by omega) (by omega)).mp q
      refine P_bringHome hrs S11 (cellS_B (begUp_B hB j (by omega)).1 hc) (by omega) (fun h17 f17 S17 => ?_)
      intro x19 e19
      rw [nI_1] at e19
      subst e19
      refine hK _ ⟨h17, rfl, f11.tr (f17.mono (fun q hq => by unfold FHo; right; omega)), s11.tr (BScr.out (fun a p1 p2 => (f17 a (fun hq => apB a (by omega) (by omega) ⟨p1, p2⟩)).1)), ?_⟩
      unfold begUp
      rw [if_pos z]
      exact S17
  · rintro t K ⟨h', rfl, hF', hs', hS'⟩
    unfold DB_Bay_begin_14
    rw [(hO.scr hs').2.2.1]
    refine ⟨fun _ => ?_, fun q => absurd (Int32.le_refl _) q⟩
    refine P_layDishes hr hrs (hO.scr hs') hB hS' (begUp_B hB _ (Nat.le_refl _)).1 hap (fun h2 hF2 hs2 hS2 => hQ h2 (hF'.tr (hF2.mono (fun q hq => by unfold FHo; unfold FLa at hq; rcases hq with z | z; exact Or.inl z; right; omega))) (hs'.tr hs2) hS2)
