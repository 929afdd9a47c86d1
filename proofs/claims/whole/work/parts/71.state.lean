/-! the whole state, of both sides -/
/-- bay, scene now, scenes to undo (oldest first), scenes held, what was told (pan, dishes), the tape (length, bytes), the place -/
abbrev St : Type := By × Sc × List Sc × (Nat → Option Sc) × List (Nat × Nat) × Nat × (Nat → Int32) × Int32
abbrev tB (A : St) : By := A.1
abbrev tS (A : St) : Sc := A.2.1
abbrev tU (A : St) : List Sc := A.2.2.1
abbrev tE (A : St) : Nat → Option Sc := A.2.2.2.1
abbrev tT (A : St) : List (Nat × Nat) := A.2.2.2.2.1
abbrev tL (A : St) : Nat := A.2.2.2.2.2.1
abbrev tA (A : St) : Nat → Int32 := A.2.2.2.2.2.2.1
abbrev tP (A : St) : Int32 := A.2.2.2.2.2.2.2
/-- what holds of every scene of a bay, up to the hour T -/
def SI (B : By) (T : Nat) (S : Sc) : Prop := ScB S ∧ ScP (bN B) S ∧ ScA S ∧ sH S ≤ T ∧ (∀ k, bN B ≤ k → k < 6 → (sP S).testBit k = false ∧ (sL S).testBit k = false ∧ (sO S).testBit k = false) ∧ (∀ k, k < bN B → sail S k = true → bK B (sC S k) = 0) ∧ ∀ k, k < bN B → (sO S).testBit k = true → bK B (sC S k) = 2 ∧ sA S k ≤ popc (sO S)
/-- what holds of every state, up to the hour T -/
def AI (T : Nat) (A : St) : Prop := ByB (tB A) ∧ SI (tB A) T (tS A) ∧ (tU A).length ≤ 30 ∧ (∀ i, i < (tU A).length → SI (tB A) T ((tU A).getD i emptyS)) ∧ (∀ s, s < 3 → ∀ S, tE A s = some S → SI (tB A) T S) ∧ (tT A).length ≤ 20 ∧ (∀ i, i < (tT A).length → ((tT A).getD i (0, 0)).1 < bN (tB A) ∧ ((tT A).getD i (0, 0)).2 < 64) ∧ tL A ≤ 2000 ∧ T ≤ 100000
/-- the class's references; b: the bay that is, d: the draft -/
def RX (r : TR) (q b d : Nat) : Prop := (r q 0 = q + 1 ∧ r q 1 = b ∧ r q 2 = q + 52 ∧ r q 3 = q + 56 ∧ r q 4 = q + 60 ∧ r q 5 = q + 182 ∧ r q 7 = q + 183 ∧ r q 8 = q + 188 ∧ r q 9 = q + 194) ∧ (r (q + 1) 0 = q + 2 ∧ r (q + 1) 2 = d ∧ r (q + 1) 7 = q + 26 ∧ r (q + 1) 8 = q + 27 ∧ r (q + 1) 9 = q + 28) ∧ (RSc r (q + 52) ∧ RSc r (q + 56) ∧ RSc r (q + 190)) ∧ (r (q + 60) 1 = q + 61 ∧ ∀ i, i < 30 → r (q + 61) i = q + 62 + 4 * i ∧ RSc r (q + 62 + 4 * i)) ∧ (∀ i, i < 3 → r (q + 182) i = q + 195 + 4 * i ∧ RSc r (q + 195 + 4 * i)) ∧ (r (q + 183) 1 = q + 184 ∧ r (q + 183) 2 = q + 185 ∧ r (q + 183) 3 = q + 186 ∧ r (q + 183) 4 = q + 187) ∧ (r (q + 188) 0 = q + 189 ∧ r (q + 188) 1 = q + 190) ∧ RBa r b ∧ RBa r d ∧ ((b = q + 29 ∧ d = q + 3) ∨ (b = q + 3 ∧ d = q + 29))
def PastOK (h : TH) (q : Nat) (U : List Sc) : Prop := ∃ nx, nx < 30 ∧ h.1 (q + 60) 2 = nI nx ∧ h.1 (q + 60) 0 = nI U.length ∧ ∀ i, i < U.length → ScOK h (q + 62 + 4 * ((nx + 30 - U.length + i) % 30)) (U.getD i emptyS)
def heldM (E : Nat → Option Sc) : Nat := (if (E 0).isSome then 1 else 0) + (if (E 1).isSome then 2 else 0) + (if (E 2).isSome then 4 else 0)
def SlotsOK (h : TH) (q : Nat) (E : Nat → Option Sc) : Prop := h.1 q 6 = nI (heldM E) ∧ ∀ s, s < 3 → ∀ S, E s = some S → ScOK h (q + 195 + 4 * s) S
def ToldOK (h : TH) (q : Nat) (T : List (Nat × Nat)) : Prop := h.1 (q + 183) 0 = nI T.length ∧ ∀ i, i < T.length → h.1 (q + 184) i = nI ((T.getD i (0, 0)).1) ∧ h.1 (q + 185) i = nI ((T.getD i (0, 0)).2)
/-- how many steps a cell is from a mark -/
def nextTo (B : By) (f : Nat → Option Nat) (c n : Nat) : Bool := [1, 2, 3, 4].any (fun w => match besF (bW B) (bH B) c w with
  | none => false
  | some d => f d == some n)
def farUp (B : By) : Nat → Nat → Option Nat
  | 0 => fun c => if bK B c = 2 then some 0 else none
  | n + 1 => fun c => match farUp B n c with
    | some x => some x
    | none => if bK B c = 0 ∧ nextTo B (farUp B n) c n = true then some (n + 1) else none
def farF (B : By) (c : Nat) : Option Nat := farUp B 40 c
/-- the variables that no law's asker writes -/
def Zs (h : TH) (d : Nat) : Prop := (∀ i, 1 ≤ i → i < 9 → h.1 (d + 9) i = 0) ∧ (h.1 (d + 19) 3 = 0 ∧ h.1 (d + 19) 4 = 0 ∧ h.1 (d + 19) 5 = 0 ∧ h.1 (d + 19) 8 = 0)
def AX (h : TH) (q b d : Nat) (A : St) : Prop := BayOK h b (tB A) ∧ (bN (tB A) = 0 ∨ ∀ c, c < 40 → h.1 (b + 2) c = optI (farF (tB A) c)) ∧ Zs h d ∧ ScOK h (q + 52) (tS A) ∧ PastOK h q (tU A) ∧ SlotsOK h q (tE A) ∧ ToldOK h q (tT A) ∧ (h.1 (q + 1) 1 = nI (tL A) ∧ ∀ i, i < tL A → h.1 (q + 2) i = tA A i) ∧ h.1 (q + 1) 3 = tP A
/-- cells that questions of the class write -/
def FX (q b : Nat) : Nat → Prop := fun a => FBa b a ∨ (q + 56 ≤ a ∧ a < q + 60) ∨ a = q + 186 ∨ a = q + 187 ∨ (q + 189 ≤ a ∧ a < q + 195)
theorem ScOK.fq {h h' : TH} {F : Nat → Prop} {s : Nat} {S : Sc} (f : Fr F h h') (e : ∀ a, s ≤ a → a < s + 4 → ¬ F a) (hS : ScOK h s S) : ScOK h' s S := hS.fr (fun a x y => (f a (e a x y)).1)
theorem PastOK.fq {h h' : TH} {F : Nat → Prop} {q : Nat} {U : List Sc} (f : Fr F h h') (e : ∀ a, q + 60 ≤ a → a < q + 182 → ¬ F a) (hU : U.length ≤ 30) (hS : PastOK h q U) : PastOK h' q U := by
  obtain ⟨nx, h1, h2, h3, h4⟩ := hS
  have e60 := (f (q + 60) (e _ (by omega) (by omega))).1
  refine ⟨nx, h1, by rw [e60]; exact h2, by rw [e60]; exact h3, fun i hi => (h4 i hi).fq f (fun a x y => e a (by omega) (by omega))⟩
theorem SlotsOK.fq {h h' : TH} {F : Nat → Prop} {q : Nat} {E : Nat → Option Sc} (f : Fr F h h') (e0 : ¬ F q) (e : ∀ a, q + 195 ≤ a → a < q + 207 → ¬ F a) (hS : SlotsOK h q E) : SlotsOK h' q E := ⟨by rw [(f q e0).1]; exact hS.1, fun s hs S hE => (hS.2 s hs S hE).fq f (fun a x y => e a (by omega) (by omega))⟩
theorem ToldOK.fq {h h' : TH} {F : Nat → Prop} {q : Nat} {T : List (Nat × Nat)} (f : Fr F h h') (e : ∀ a, q + 183 ≤ a → a < q + 186 → ¬ F a) (hS : ToldOK h q T) : ToldOK h' q T := by
  refine ⟨by rw [(f _ (e (q + 183) (by omega) (by omega))).1]; exact hS.1, fun i hi => ?_⟩
  rw [(f _ (e (q + 184) (by omega) (by omega))).1, (f _ (e (q + 185) (by omega) (by omega))).1]
  exact hS.2 i hi
def apt (q b d : Nat) : Prop := (b = q + 29 ∧ d = q + 3) ∨ (b = q + 3 ∧ d = q + 29)
theorem AX.q {h h' : TH} {q b d : Nat} {A : St} (ap : apt q b d) (hU : (tU A).length ≤ 30) (f : Fr (FX q b) h h') (s : BScr b h h') (g : AX h q b d A) : AX h' q b d A := by
  have nf : ∀ a, q ≤ a → (a < b ∨ b + 23 ≤ a) → ¬ (q + 56 ≤ a ∧ a < q + 60) → ¬ a = q + 186 → ¬ a = q + 187 → ¬ (q + 189 ≤ a ∧ a < q + 195) → ¬ FX q b a := by
    intro a h1 h2 h3 h4 h5 h6 hF
    unfold FX FBa at hF
    omega
  obtain ⟨g1, g2, g3, g4, g5, g6, g7, g8, g9⟩ := g
  have hb : q + 3 ≤ b ∧ b + 23 ≤ q + 52 := by rcases ap with x | x <;> omega
  have hd : q + 3 ≤ d ∧ d + 23 ≤ q + 52 := by rcases ap with x | x <;> omega
  have hbd : ∀ j, j < 23 → d + j < b ∨ b + 23 ≤ d + j := by intro j hj; rcases ap with x | x <;> omega
  have z : ∀ j, j < 23 → h'.1 (d + j) = h.1 (d + j) := fun j hj => (f _ (nf _ (by omega) (hbd j hj) (by omega) (by omega) (by omega) (by omega))).1
  refine ⟨g1.scr s, ?_, ?_, g4.fq f (fun a x y => nf a (by omega) (by omega) (by omega) (by omega) (by omega) (by omega)), g5.fq f (fun a x y => nf a (by omega) (by omega) (by omega) (by omega) (by omega) (by omega)) hU, g6.fq f (nf q (by omega) (by omega) (by omega) (by omega) (by omega) (by omega)) (fun a x y => nf a (by omega) (by omega) (by omega) (by omega) (by omega) (by omega)), g7.fq f (fun a x y => nf a (by omega) (by omega) (by omega) (by omega) (by omega) (by omega)), ?_, ?_⟩
  · rcases g2 with g2 | g2
    · exact Or.inl g2
    · refine Or.inr (fun c hc => ?_)
      rw [s.1 (b + 2) (by omega) (by omega) (by unfold FBa; omega)]
      exact g2 c hc
  · unfold Zs
    rw [z 9 (by omega), z 19 (by omega)]
    exact g3
  · rw [(f _ (nf (q + 1) (by omega) (by omega) (by omega) (by omega) (by omega) (by omega))).1, (f _ (nf (q + 2) (by omega) (by omega) (by omega) (by omega) (by omega) (by omega))).1]
    exact g8
  · rw [(f _ (nf (q + 1) (by omega) (by omega) (by omega) (by omega) (by omega) (by omega))).1]
    exact g9
/-- writes outside of the class's cells -/
theorem AX.out {h h' : TH} {q b d : Nat} {A : St} (ap : apt q b d) (hU : (tU A).length ≤ 30) (f : Fr (fun a => a < q ∨ q + 207 ≤ a) h h') (g : AX h q b d A) : AX h' q b d A := by
  obtain ⟨g1, g2, g3, g4, g5, g6, g7, g8, g9⟩ := g
  have hb : q + 3 ≤ b ∧ b + 23 ≤ q + 52 := by rcases ap with x | x <;> omega
  have hd : q + 3 ≤ d ∧ d + 23 ≤ q + 52 := by rcases ap with x | x <;> omega
  have z : ∀ a, q ≤ a → a < q + 207 → h'.1 a = h.1 a := fun a x y => (f a (by omega)).1
  refine ⟨g1.scr (BScr.out (fun a x y => z a (by omega) (by omega))), ?_, ?_, g4.fr (fun a x y => z a (by omega) (by omega)), g5.fq f (fun a x y => by omega) hU, g6.fq f (by omega) (fun a x y => by omega), g7.fq f (fun a x y => by omega), ?_, ?_⟩
  · rw [z (b + 2) (by omega) (by omega)]; exact g2
  · unfold Zs
    rw [z (d + 9) (by omega) (by omega), z (d + 19) (by omega) (by omega)]
    exact g3
  · rw [z (q + 1) (by omega) (by omega), z (q + 2) (by omega) (by omega)]; exact g8
  · rw [z (q + 1) (by omega) (by omega)]; exact g9
/-! the reference's state -/
/-- a byte, as an int -/
def isB (x : Int32) : Prop := ∃ z : Int32, x = z.toInt8.toInt32
/-- the words' letters, and the number that the reference has of each -/
def wdL : List (List Nat) := [[18, 15, 23], [2, 15, 1, 20], [23, 9, 14, 4], [19, 20, 5, 5, 18, 19], [12, 9, 5, 19], [3, 15, 12, 4], [19, 5, 5, 4], [9, 6], [20, 8, 5, 14], [5, 12, 19, 5], [8, 15, 21, 18], [5, 1, 19, 20], [19, 15, 21, 20, 8], [2, 12, 15, 23, 19], [19, 13, 5, 12, 12, 19], [14, 5, 1, 18], [23, 8, 9, 3, 8], [19, 20, 18, 15, 14, 7], [16, 12, 1, 3, 5, 4]]
def b27 (ls : List Nat) : Nat := ls.foldl (fun a c => 27 * a + c) 0
def regC (L : Nat) (x : Int32) : Prop := ∃ s, x = nI s ∧ 420 * L ≤ s ∧ s ≤ 420 * L + 420
/-- what none but read writes: the words' numbers; the live laws lie in the live half -/
def RG (h : TH) (m L : Nat) : Prop := (∀ k, k < 19 → h.2 (m + 7) k = lN (b27 (wdL.getD k []))) ∧ ∀ k, k < 3 → ∃ f g, h.1 (m + 19) (3 * L + k) = nI f ∧ h.1 (m + 20) (3 * L + k) = nI g ∧ f ≤ g ∧ g ≤ 260 ∧ (f = g ∨ (130 * L ≤ f ∧ g ≤ 130 * L + 130 ∧ ∀ i, f ≤ i → i < g → regC L (h.1 (m + 24) i) ∧ regC L (h.1 (m + 25) i) ∧ (h.1 (m + 21) i = 1 → regC L (h.1 (m + 22) i) ∧ regC L (h.1 (m + 23) i))))
theorem RG.mv {h h' : TH} {m L : Nat} (e : ∀ x, (x = m + 7 ∨ (m + 19 ≤ x ∧ x ≤ m + 25)) → h'.1 x = h.1 x ∧ h'.2 x = h.2 x) (g : RG h m L) : RG h' m L := by
  unfold RG
  rw [(e (m + 7) (by omega)).2, (e (m + 19) (by omega)).1, (e (m + 20) (by omega)).1, (e (m + 21) (by omega)).1, (e (m + 22) (by omega)).1, (e (m + 23) (by omega)).1, (e (m + 24) (by omega)).1, (e (m + 25) (by omega)).1]
  exact g
def AM (h : TH) (m L : Nat) (A : St) : Prop := MBay (pI h m 52 (-1)) m L (-1) (tB A) ∧ RowOK (h.1 (m + 31)) (bN (tB A)) (-1) (tS A) ∧ (h.1 m 54 = nI (tU A).length ∧ ∀ i, i < (tU A).length → RowOK (fun k => h.1 (m + 34) (512 * i + k)) (bN (tB A)) (-1) ((tU A).getD i emptyS)) ∧ (∀ s, s < 3 → h.1 (m + 42) s = (if (tE A s).isSome then 1 else 0) ∧ ∀ S, tE A s = some S → RowOK (fun k => h.1 (m + 43) (512 * s + k)) (bN (tB A)) (-1) S) ∧ (h.1 m 60 = nI (tT A).length ∧ ∀ i, i < (tT A).length → h.1 (m + 40) i = nI (((tT A).getD i (0, 0)).1) ∧ h.1 (m + 39) i = nI (((tT A).getD i (0, 0)).2)) ∧ (h.1 m 2 = nI (tL A) ∧ ∀ i, i < tL A → h.1 (m + 1) i = tA A i) ∧ (h.1 m 17 = tP A ∧ (∀ i, i < tL A → isB (tA A i)) ∧ RG h m L)
/-- cells that questions of the reference write -/
def FQ (m : Nat) : Nat → Prop := fun a => a = m ∨ a = m + 29 ∨ a = m + 30 ∨ a = m + 32 ∨ a = m + 33 ∨ a = m + 35 ∨ a = m + 36 ∨ a = m + 37 ∨ a = m + 38 ∨ a = m + 41
def Qm (m : Nat) (h h' : TH) : Prop := Fr (FQ m) h h' ∧ ∀ j, ¬ j = 47 → ¬ j = 50 → ¬ j = 51 → ¬ j = 52 → h'.1 m j = h.1 m j
theorem Qm.rf {m : Nat} {h : TH} : Qm m h h := ⟨Fr.rf, fun _ _ _ _ _ => rfl⟩
theorem Qm.tr {m : Nat} {h h1 h2 : TH} (a : Qm m h h1) (b : Qm m h1 h2) : Qm m h h2 := ⟨a.1.tr b.1, fun j x y z w => (b.2 j x y z w).trans (a.2 j x y z w)⟩
theorem Qm.mk {m : Nat} {h h' : TH} (a : MK m h h') : Qm m h h' := ⟨a.1.mono (fun q hq => by unfold FMs at hq; unfold FQ; omega), fun j x _ _ _ => a.2 j x⟩
theorem Qm.fr {m : Nat} {h h' : TH} {F : Nat → Prop} (f : Fr F h h') (e : ∀ a, F a → FQ m a ∧ ¬ a = m) : Qm m h h' := ⟨f.mono (fun q hq => (e q hq).1), fun j _ _ _ _ => congrFun (f m (fun x => (e m x).2 rfl)).1 j⟩
theorem Qm.at {m : Nat} {h h' : TH} (a : Qm m h h') {x : Nat} (hx : ¬ FQ m x) : h'.1 x = h.1 x := (a.1 x hx).1
theorem AM.q {h h' : TH} {m L : Nat} {A : St} (s : Qm m h h') (g : AM h m L A) : AM h' m L A := by
  obtain ⟨g1, g2, g3, g4, g5, g6, g7⟩ := g
  have z : ∀ a, ¬ FQ m a → h'.1 a = h.1 a := fun a x => s.at x
  refine ⟨g1.mv (fun x a b => ?_) ?_ (by rw [pI_s]), ?_, ?_, ?_, ?_, ?_, ?_⟩
  · rw [pI_o _ _ _ _ (by omega), pI_o _ _ _ _ (by omega)]; exact z x (by unfold FQ; omega)
  · rw [pI_n _ _ _ _ (by omega), pI_n _ _ _ _ (by omega)]; exact s.2 18 (by omega) (by omega) (by omega) (by omega)
  · rw [z (m + 31) (by unfold FQ; omega)]; exact g2
  · rw [z (m + 34) (by unfold FQ; omega), s.2 54 (by omega) (by omega) (by omega) (by omega)]; exact g3
  · rw [z (m + 42) (by unfold FQ; omega), z (m + 43) (by unfold FQ; omega)]; exact g4
  · rw [z (m + 39) (by unfold FQ; omega), z (m + 40) (by unfold FQ; omega), s.2 60 (by omega) (by omega) (by omega) (by omega)]; exact g5
  · rw [z (m + 1) (by unfold FQ; omega), s.2 2 (by omega) (by omega) (by omega) (by omega)]; exact g6
  · exact ⟨by rw [s.2 17 (by omega) (by omega) (by omega) (by omega)]; exact g7.1, g7.2.1, g7.2.2.mv (fun x hx => s.1 x (by unfold FQ; omega))⟩
theorem AM.out {h h' : TH} {m L : Nat} {A : St} (f : Fr (fun a => a < m ∨ m + 44 ≤ a) h h') (g : AM h m L A) : AM h' m L A := by
  obtain ⟨g1, g2, g3, g4, g5, g6, g7⟩ := g
  have z : ∀ a, m ≤ a → a < m + 44 → h'.1 a = h.1 a := fun a x y => (f a (by omega)).1
  refine ⟨g1.mv (fun x a b => ?_) ?_ (by rw [pI_s]), ?_, ?_, ?_, ?_, ?_, ?_⟩
  · rw [pI_o _ _ _ _ (by omega), pI_o _ _ _ _ (by omega)]; exact z x (by omega) (by omega)
  · rw [pI_n _ _ _ _ (by omega), pI_n _ _ _ _ (by omega), z m (by omega) (by omega)]
  · rw [z (m + 31) (by omega) (by omega)]; exact g2
  · rw [z (m + 34) (by omega) (by omega), z m (by omega) (by omega)]; exact g3
  · rw [z (m + 42) (by omega) (by omega), z (m + 43) (by omega) (by omega)]; exact g4
  · rw [z (m + 39) (by omega) (by omega), z (m + 40) (by omega) (by omega), z m (by omega) (by omega)]; exact g5
  · rw [z (m + 1) (by omega) (by omega), z m (by omega) (by omega)]; exact g6
  · exact ⟨by rw [z m (by omega) (by omega)]; exact g7.1, g7.2.1, g7.2.2.mv (fun x hx => f x (by omega))⟩
