/-- width, height, boats, COLD, SEED, kinds of cells (3: beyond), X, Y as told, STRONG, NOSE, the three laws' pieces -/
abbrev By : Type := Nat × Nat × Nat × Nat × Nat × (Nat → Nat) × (Nat → Nat) × (Nat → Nat) × (Nat → Nat) × (Nat → Nat) × List (List Nat) × List (List Nat) × List (List Nat)
abbrev bW (B : By) : Nat := B.1
abbrev bH (B : By) : Nat := B.2.1
abbrev bN (B : By) : Nat := B.2.2.1
abbrev bCo (B : By) : Nat := B.2.2.2.1
abbrev bSe (B : By) : Nat := B.2.2.2.2.1
abbrev bK (B : By) : Nat → Nat := B.2.2.2.2.2.1
abbrev bX (B : By) : Nat → Nat := B.2.2.2.2.2.2.1
abbrev bY (B : By) : Nat → Nat := B.2.2.2.2.2.2.2.1
abbrev bS (B : By) : Nat → Nat := B.2.2.2.2.2.2.2.2.1
abbrev bNo (B : By) : Nat → Nat := B.2.2.2.2.2.2.2.2.2.1
abbrev bPW (B : By) : List (List Nat) := B.2.2.2.2.2.2.2.2.2.2.1
abbrev bPS (B : By) : List (List Nat) := B.2.2.2.2.2.2.2.2.2.2.2.1
abbrev bPL (B : By) : List (List Nat) := B.2.2.2.2.2.2.2.2.2.2.2.2
def m31 (Ps : List (List Nat)) : Prop := ∃ m, Ps.length = 3 * m + 1
def ByB (B : By) : Prop := bW B ≤ 8 ∧ bH B ≤ 5 ∧ bN B ≤ 6 ∧ bCo B ≤ 100 ∧ bSe B ≤ 9999 ∧ (∀ c, c < 40 → if c % 8 < bW B ∧ c / 8 < bH B then bK B c ≤ 2 else bK B c = 3) ∧ (∀ k, k < bN B → bX B k < bW B ∧ bY B k < bH B ∧ bS B k ≤ 9 ∧ bNo B k ≤ 9) ∧ m31 (bPW B) ∧ m31 (bPS B) ∧ m31 (bPL B)
def BayOK (h : TH) (b : Nat) (B : By) : Prop := h.1 b 0 = nI (bW B) ∧ h.1 b 1 = nI (bH B) ∧ h.1 b 2 = nI (bN B) ∧ h.1 b 3 = nI (bCo B) ∧ h.1 b 4 = nI (bSe B) ∧ (∀ c, c < 40 → h.1 (b + 1) c = nI (bK B c)) ∧ (∀ k, k < bN B → h.1 (b + 4) k = nI (bX B k) ∧ h.1 (b + 5) k = nI (bY B k) ∧ h.1 (b + 6) k = nI (bS B k) ∧ h.1 (b + 7) k = nI (bNo B k)) ∧ LawOK h (b + 8) (bPW B) ∧ LawOK h (b + 13) (bPS B) ∧ LawOK h (b + 18) (bPL B) ∧ (∀ i, 1 ≤ i → i < 9 → h.1 (b + 9) i = 0) ∧ (h.1 (b + 19) 3 = 0 ∧ h.1 (b + 19) 4 = 0 ∧ h.1 (b + 19) 5 = 0 ∧ h.1 (b + 19) 8 = 0)
def RBa (r : TR) (b : Nat) : Prop := (r b 5 = b + 1 ∧ r b 6 = b + 2 ∧ r b 7 = b + 3 ∧ r b 8 = b + 4 ∧ r b 9 = b + 5 ∧ r b 10 = b + 6 ∧ r b 11 = b + 7) ∧ (r b 12 = b + 8 ∧ r b 13 = b + 13 ∧ r b 14 = b + 18) ∧ RLw r (b + 8) ∧ RLw r (b + 13) ∧ RLw r (b + 18)
/-- cells that asking a bay's laws may write -/
def FBa (b : Nat) : Nat → Prop := fun a => a = b + 8 ∨ a = b + 9 ∨ a = b + 12 ∨ a = b + 13 ∨ a = b + 14 ∨ a = b + 17 ∨ a = b + 18 ∨ a = b + 19 ∨ a = b + 22
/-- a bay's laws were asked: what it tells stands -/
def BScr (b : Nat) (h h' : TH) : Prop := (∀ a, b ≤ a → a < b + 23 → ¬ FBa b a → h'.1 a = h.1 a) ∧ (∀ j, ¬ j = 6 → h'.1 (b + 8) j = h.1 (b + 8) j ∧ h'.1 (b + 13) j = h.1 (b + 13) j ∧ h'.1 (b + 18) j = h.1 (b + 18) j) ∧ (∀ i, 1 ≤ i → i < 9 → h'.1 (b + 9) i = h.1 (b + 9) i) ∧ (h'.1 (b + 19) 3 = h.1 (b + 19) 3 ∧ h'.1 (b + 19) 4 = h.1 (b + 19) 4 ∧ h'.1 (b + 19) 5 = h.1 (b + 19) 5 ∧ h'.1 (b + 19) 8 = h.1 (b + 19) 8)
theorem BScr.rf {b : Nat} {h : TH} : BScr b h h := ⟨fun _ _ _ _ => rfl, fun _ _ => ⟨rfl, rfl, rfl⟩, fun _ _ _ => rfl, rfl, rfl, rfl, rfl⟩
theorem BScr.tr {b : Nat} {h h1 h2 : TH} (x : BScr b h h1) (y : BScr b h1 h2) : BScr b h h2 := ⟨fun a p q s => (y.1 a p q s).trans (x.1 a p q s), fun j hj => ⟨(y.2.1 j hj).1.trans (x.2.1 j hj).1, (y.2.1 j hj).2.1.trans (x.2.1 j hj).2.1, (y.2.1 j hj).2.2.trans (x.2.1 j hj).2.2⟩, fun i p q => (y.2.2.1 i p q).trans (x.2.2.1 i p q), y.2.2.2.1.trans x.2.2.2.1, y.2.2.2.2.1.trans x.2.2.2.2.1, y.2.2.2.2.2.1.trans x.2.2.2.2.2.1, y.2.2.2.2.2.2.trans x.2.2.2.2.2.2⟩
theorem BScr.out {b : Nat} {h h' : TH} (e : ∀ a, b ≤ a → a < b + 23 → h'.1 a = h.1 a) : BScr b h h' := ⟨fun a p q _ => e a p q, fun j _ => ⟨congrFun (e (b + 8) (by omega) (by omega)) j, congrFun (e (b + 13) (by omega) (by omega)) j, congrFun (e (b + 18) (by omega) (by omega)) j⟩, fun i _ _ => congrFun (e (b + 9) (by omega) (by omega)) i, congrFun (e (b + 19) (by omega) (by omega)) 3, congrFun (e (b + 19) (by omega) (by omega)) 4, congrFun (e (b + 19) (by omega) (by omega)) 5, congrFun (e (b + 19) (by omega) (by omega)) 8⟩
theorem LawOK.mv {h h' : TH} {o : Nat} {Ps : List (List Nat)} (hL : LawOK h o Ps) (e5 : h'.1 o 5 = h.1 o 5) (e2 : h'.1 (o + 2) = h.1 (o + 2)) (e3 : h'.1 (o + 3) = h.1 (o + 3)) : LawOK h' o Ps := by
  obtain ⟨h1, h2, h3, h4, h5, h6⟩ := hL
  exact ⟨by rw [e5]; exact h1, h2, fun p hp => by rw [e3]; exact h3 p hp, h4, fun p hp i hi => by rw [e2]; exact h5 p hp i hi, h6⟩
theorem BayOK.scr {b : Nat} {h h' : TH} {B : By} (x : BScr b h h') (hO : BayOK h b B) : BayOK h' b B := by
  obtain ⟨h1, h2, h3, h4, h5, h6, h7, h8, h9, h10, h11, h12, h13, h14, h15⟩ := hO
  have e0 := x.1 b (by omega) (by omega) (by unfold FBa; omega)
  have e1 := x.1 (b + 1) (by omega) (by omega) (by unfold FBa; omega)
  have e4 := x.1 (b + 4) (by omega) (by omega) (by unfold FBa; omega)
  have e5 := x.1 (b + 5) (by omega) (by omega) (by unfold FBa; omega)
  have e6 := x.1 (b + 6) (by omega) (by omega) (by unfold FBa; omega)
  have e7 := x.1 (b + 7) (by omega) (by omega) (by unfold FBa; omega)
  have e10 := x.1 (b + 10) (by omega) (by omega) (by unfold FBa; omega)
  have e11 := x.1 (b + 11) (by omega) (by omega) (by unfold FBa; omega)
  have e15 := x.1 (b + 15) (by omega) (by omega) (by unfold FBa; omega)
  have e16 := x.1 (b + 16) (by omega) (by omega) (by unfold FBa; omega)
  have e20 := x.1 (b + 20) (by omega) (by omega) (by unfold FBa; omega)
  have e21 := x.1 (b + 21) (by omega) (by omega) (by unfold FBa; omega)
  refine ⟨by rw [e0]; exact h1, by rw [e0]; exact h2, by rw [e0]; exact h3, by rw [e0]; exact h4, by rw [e0]; exact h5, fun c hc => by rw [e1]; exact h6 c hc, fun k hk => by rw [e4, e5, e6, e7]; exact h7 k hk, h8.mv (x.2.1 5 (by omega)).1 e10 e11, h9.mv (x.2.1 5 (by omega)).2.1 e15 e16, h10.mv (x.2.1 5 (by omega)).2.2 e20 e21, fun i p q => by rw [x.2.2.1 i p q]; exact h11 i p q, ?_, ?_, ?_, ?_⟩
  · rw [x.2.2.2.1]; exact h12
  · rw [x.2.2.2.2.1]; exact h13
  · rw [x.2.2.2.2.2.1]; exact h14
  · rw [x.2.2.2.2.2.2]; exact h15
/-- asking the law at b + 8 -/
theorem BScr.ask8 {b : Nat} {h h' : TH} (s : SL (b + 8) h h') : BScr b h h' := by
  have e : ∀ a, ¬ a = b + 8 → ¬ a = b + 12 → h'.1 a = h.1 a := fun a p q => (s.1 a (by omega)).1
  exact ⟨fun a _ _ f => e a (fun z => f (by unfold FBa; omega)) (fun z => f (by unfold FBa; omega)), fun j hj => ⟨s.2 j hj, congrFun (e (b + 13) (by omega) (by omega)) j, congrFun (e (b + 18) (by omega) (by omega)) j⟩, fun i _ _ => congrFun (e (b + 9) (by omega) (by omega)) i, congrFun (e (b + 19) (by omega) (by omega)) 3, congrFun (e (b + 19) (by omega) (by omega)) 4, congrFun (e (b + 19) (by omega) (by omega)) 5, congrFun (e (b + 19) (by omega) (by omega)) 8⟩
theorem BScr.ask13 {b : Nat} {h h' : TH} (s : SL (b + 13) h h') : BScr b h h' := by
  have e : ∀ a, ¬ a = b + 13 → ¬ a = b + 17 → h'.1 a = h.1 a := fun a p q => (s.1 a (by omega)).1
  exact ⟨fun a _ _ f => e a (fun z => f (by unfold FBa; omega)) (fun z => f (by unfold FBa; omega)), fun j hj => ⟨congrFun (e (b + 8) (by omega) (by omega)) j, s.2 j hj, congrFun (e (b + 18) (by omega) (by omega)) j⟩, fun i _ _ => congrFun (e (b + 9) (by omega) (by omega)) i, congrFun (e (b + 19) (by omega) (by omega)) 3, congrFun (e (b + 19) (by omega) (by omega)) 4, congrFun (e (b + 19) (by omega) (by omega)) 5, congrFun (e (b + 19) (by omega) (by omega)) 8⟩
theorem BScr.ask18 {b : Nat} {h h' : TH} (s : SL (b + 18) h h') : BScr b h h' := by
  have e : ∀ a, ¬ a = b + 18 → ¬ a = b + 22 → h'.1 a = h.1 a := fun a p q => (s.1 a (by omega)).1
  exact ⟨fun a _ _ f => e a (fun z => f (by unfold FBa; omega)) (fun z => f (by unfold FBa; omega)), fun j hj => ⟨congrFun (e (b + 8) (by omega) (by omega)) j, congrFun (e (b + 13) (by omega) (by omega)) j, s.2 j hj⟩, fun i _ _ => congrFun (e (b + 9) (by omega) (by omega)) i, congrFun (e (b + 19) (by omega) (by omega)) 3, congrFun (e (b + 19) (by omega) (by omega)) 4, congrFun (e (b + 19) (by omega) (by omega)) 5, congrFun (e (b + 19) (by omega) (by omega)) 8⟩
/-- a variable of a law is set -/
theorem BScr.v9 {b : Nat} {h : TH} {v : Int32} : BScr b h (pI h (b + 9) 0 v) :=
  ⟨fun a _ _ f => pI_o h (b + 9) 0 v (fun z => f (by unfold FBa; omega)), fun j _ => ⟨congrFun (pI_o h (b + 9) 0 v (by omega)) j, congrFun (pI_o h (b + 9) 0 v (by omega)) j, congrFun (pI_o h (b + 9) 0 v (by omega)) j⟩, fun i p _ => pI_n h (b + 9) 0 v (by omega), congrFun (pI_o h (b + 9) 0 v (by omega)) 3, congrFun (pI_o h (b + 9) 0 v (by omega)) 4, congrFun (pI_o h (b + 9) 0 v (by omega)) 5, congrFun (pI_o h (b + 9) 0 v (by omega)) 8⟩
theorem BScr.v14 {b j : Nat} {h : TH} {v : Int32} : BScr b h (pI h (b + 14) j v) :=
  ⟨fun a _ _ f => pI_o h (b + 14) j v (fun z => f (by unfold FBa; omega)), fun i _ => ⟨congrFun (pI_o h (b + 14) j v (by omega)) i, congrFun (pI_o h (b + 14) j v (by omega)) i, congrFun (pI_o h (b + 14) j v (by omega)) i⟩, fun i p _ => congrFun (pI_o h (b + 14) j v (by omega)) i, congrFun (pI_o h (b + 14) j v (by omega)) 3, congrFun (pI_o h (b + 14) j v (by omega)) 4, congrFun (pI_o h (b + 14) j v (by omega)) 5, congrFun (pI_o h (b + 14) j v (by omega)) 8⟩
theorem BScr.v19 {b j : Nat} {h : TH} {v : Int32} (hj : ¬ j = 3 ∧ ¬ j = 4 ∧ ¬ j = 5 ∧ ¬ j = 8) : BScr b h (pI h (b + 19) j v) :=
  ⟨fun a _ _ f => pI_o h (b + 19) j v (fun z => f (by unfold FBa; omega)), fun i _ => ⟨congrFun (pI_o h (b + 19) j v (by omega)) i, congrFun (pI_o h (b + 19) j v (by omega)) i, congrFun (pI_o h (b + 19) j v (by omega)) i⟩, fun i p _ => congrFun (pI_o h (b + 19) j v (by omega)) i, pI_n h _ _ _ (by omega), pI_n h _ _ _ (by omega), pI_n h _ _ _ (by omega), pI_n h _ _ _ (by omega)⟩
/-- what a law tells hangs on the nine variables alone -/
theorem evT_cg {v v' : Nat → Int32} (e : ∀ i, i < 9 → v i = v' i) : ∀ (cs : List Nat) (d : Nat) (st : List Int32), wfT cs d = true → st.length = d → evT v cs st = evT v' cs st := by
  intro cs
  induction cs with
  | nil => intro d st _ _; simp only [evT]
  | cons c cs ih =>
    intro d st hw hd
    unfold wfT at hw
    by_cases h9 : c < 10009
    · rw [if_pos h9] at hw
      simp only [Bool.and_eq_true] at hw
      by_cases h4 : c < 10000
      · rw [evT_lit h4, evT_lit h4]; exact ih (d + 1) _ hw.2 (by simp [hd])
      · rw [evT_var h4 (by omega), evT_var h4 (by omega), e (c - 10000) (by omega)]; exact ih (d + 1) _ hw.2 (by simp [hd])
    · rw [if_neg h9] at hw
      simp only [Bool.and_eq_true, decide_eq_true_eq] at hw
      obtain ⟨y, x, rest, rfl⟩ : ∃ y x rest, st = y :: x :: rest := by
        match st, hd with
        | [], hd => simp at hd; omega
        | [a], hd => simp at hd; omega
        | y :: x :: rest, _ => exact ⟨y, x, rest, rfl⟩
      simp only [List.length_cons] at hd
      have go : ∀ z : Int32, evT v cs (z :: rest) = evT v' cs (z :: rest) := fun z => ih (d - 1) _ hw.2.2.2 (by simp only [List.length_cons]; omega)
      rw [evT_op hw.1, evT_op hw.1, go, go, go, go]
theorem evP_cg {v v' : Nat → Int32} (e : ∀ i, i < 9 → v i = v' i) {cs : List Nat} (hw : wfT cs 0 = true) : evP v cs = evP v' cs := by unfold evP; rw [evT_cg e cs 0 [] hw rfl]
theorem tellsF_cg {v v' : Nat → Int32} (e : ∀ i, i < 9 → v i = v' i) : ∀ (n : Nat) (Ps : List (List Nat)), Ps.length ≤ n → (∀ cs ∈ Ps, wfT cs 0 = true) → tellsF v Ps = tellsF v' Ps := by
  intro n
  induction n with
  | zero =>
    intro Ps hn _
    match Ps, hn with
    | [], _ => simp only [tellsF]
  | succ n ih =>
    intro Ps hn hw
    match Ps, hn, hw with
    | [], _, _ => simp only [tellsF]
    | [a], _, hw => simp only [tellsF]; rw [evP_cg e (hw a (by simp))]
    | [a, b], _, _ => simp only [tellsF]
    | [a, b, c], _, _ => simp only [tellsF]
    | a :: b :: c :: d :: rest, hn, hw =>
      simp only [tellsF]
      rw [evP_cg e (hw a (by simp)), evP_cg e (hw b (by simp)), evP_cg e (hw c (by simp)), ih (d :: rest) (by simp at hn ⊢; omega) (fun cs hc => hw cs (List.mem_cons_of_mem _ (List.mem_cons_of_mem _ (List.mem_cons_of_mem _ hc))))]
theorem LawOK.wf {h : TH} {o : Nat} {Ps : List (List Nat)} (hL : LawOK h o Ps) : ∀ cs ∈ Ps, wfT cs 0 = true := by
  intro cs hc
  obtain ⟨i, hi, rfl⟩ := List.getElem_of_mem hc
  have := hL.2.2.2.2.2 i hi
  rw [List.getD_eq_getElem?_getD, List.getElem?_eq_getElem hi] at this
  exact this
/-- the wind -/
def windV (t : Nat) : Nat → Int32 := fun i => if i = 0 then nI t else 0
def way4 (x : Int32) : Nat := if 0 ≤ x then x.toNatClampNeg % 4 + 1 else 1
def windF (B : By) (t : Nat) : Nat := way4 (tellsF (windV t) (bPW B))
theorem way4_le (x : Int32) : 1 ≤ way4 x ∧ way4 x ≤ 4 := by unfold way4; split <;> omega
theorem nn_of {x : Int32} (h : 0 ≤ x) : ∃ j : Nat, j < 2 ^ 31 ∧ x = nI j := nI_of (by rw [Int32.not_lt]; exact h)
theorem P_windAt {r : TR} {h : TH} {b t : Nat} {B : By} {Q : Int32 → TH → Prop} (hr : RBa r b) (hO : BayOK h b B) (hB : ByB B) (hQ : ∀ h', Fr (FBa b) h h' → BScr b h h' → Q (nI (windF B t)) h') : D_Bay_windAt r b (nI t) h Q := by
  unfold D_Bay_windAt
  intro h3 e3
  rw [hr.2.1.1] at e3 ⊢
  have hl : r (b + 8) 0 = b + 9 := hr.2.2.1.1
  rw [hl] at e3
  have z0 : (0 : Int32).toNatClampNeg = 0 := by decide
  rw [z0] at e3
  have s3 : BScr b h h3 := by rw [e3]; exact BScr.v9
  have O3 := hO.scr s3
  refine P_Law_tells hr.2.2.1 O3.2.2.2.2.2.2.2.1 hB.2.2.2.2.2.2.2.1 (fun h' hS => ?_)
  have ev : tellsF (h3.1 (b + 8 + 1)) (bPW B) = tellsF (windV t) (bPW B) := by
    refine tellsF_cg (fun i hi => ?_) _ _ (Nat.le_refl _) O3.2.2.2.2.2.2.2.1.wf
    show h3.1 (b + 9) i = windV t i
    unfold windV
    by_cases h0 : i = 0
    · rw [if_pos h0, h0, e3, pI_s]
    · rw [if_neg h0]; exact O3.2.2.2.2.2.2.2.2.2.2.1 i (by omega) hi
  rw [ev]
  have fr : Fr (FBa b) h h' := by
    refine Fr.tr (h1 := h3) (by rw [e3]; exact Fr.pI (by unfold FBa; omega)) (hS.1.mono (fun q hq => by unfold FBa; omega))
  have fin := hQ h' fr (s3.tr (BScr.ask8 hS))
  unfold windF way4 at fin
  refine ⟨fun q => ?_, fun q => ?_⟩
  · rw [if_pos q] at fin
    obtain ⟨j, hj, ej⟩ := nn_of q
    rw [ej] at fin ⊢
    rw [jr4 hj, nI_1]
    rw [nI_clamp hj] at fin
    exact fin
  · rw [if_neg q] at fin; exact fin
