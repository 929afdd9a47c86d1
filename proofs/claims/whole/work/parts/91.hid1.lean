/-! sets of cells: which cells an hour leads to, what would be smelt; the class's side -/
theorem shc1 : ∀ c : Fin 40, (((nI c.1).toInt64 &&& 63).toBitVec.smod 64).toNat = c.1 := by decide +kernel
theorem sarL {a d : Nat} {D : Int64} (hD : (D.toBitVec.smod 64).toNat = d) (h : a < 2 ^ 62) : lN a >>> D = lN (a / 2 ^ d) := by
  have hd : a / 2 ^ d ≤ a := Nat.div_le_self _ _
  apply Int64.toInt_inj.mp
  have e : (lN a >>> D).toInt = (lN a).toInt >>> d := by
    rw [← hD]
    exact BitVec.toInt_sshiftRight ..
  rw [e, Int.shiftRight_eq_div_pow, pk_lT (by omega), pk_lT (by omega)]
  rfl
theorem la_sar {a s : Nat} (ha : a < 2 ^ 62) (hs : s < 40) : jshr (lN a) (nI s) = lN (a / 2 ^ s) := sarL (shc1 ⟨s, hs⟩) ha
theorem cmp0 {x y : Int64} : lg_cmp x y = 0 ↔ x = y := by
  unfold lg_cmp
  by_cases h : x > y
  · rw [if_pos h]
    refine ⟨fun z => absurd z (by decide), fun e => ?_⟩
    subst e
    exact absurd h Int64.lt_irrefl
  · rw [if_neg h]
    by_cases e : x = y
    · rw [if_pos e]; exact ⟨fun _ => e, fun _ => rfl⟩
    · rw [if_neg e]; exact ⟨fun z => absurd z (by decide), fun z => absurd z e⟩
theorem lt62 {M : Nat} (h : M < 2 ^ 40) : M < 2 ^ 62 := Nat.lt_of_lt_of_le h (by decide)
theorem ltb {M c : Nat} (hM : M < 2 ^ 40) (hc : c < 40) : lg_cmp ((jshr (lN M) (nI c)) &&& 1) 1 = 0 ↔ M.testBit c = true := by
  rw [cmp0, la_sar (lt62 hM) hc]
  show lN (M / 2 ^ c) &&& lN 1 = lN 1 ↔ _
  rw [la_and, Nat.and_one_is_mod, pk_lEQ (by omega) (by omega), Nat.testBit_eq_decide_div_mod_eq, decide_eq_true_iff]
theorem ltb0 {M c : Nat} (hM : M < 2 ^ 40) (hc : c < 40) : ¬ lg_cmp ((jshr (lN M) (nI c)) &&& 1) 1 = 0 ↔ M.testBit c = false := by
  rw [ltb hM hc]
  cases M.testBit c <;> simp
theorem p2_40 {c : Nat} (hc : c < 40) : 2 ^ c < 2 ^ 40 := Nat.pow_lt_pow_right (by omega) hc
theorem or40 {a b : Nat} (ha : a < 2 ^ 40) (hb : b < 2 ^ 40) : a ||| b < 2 ^ 40 := Nat.or_lt_two_pow ha hb
theorem and40 {a b : Nat} (ha : a < 2 ^ 40) : a &&& b < 2 ^ 40 := Nat.lt_of_le_of_lt Nat.and_le_left ha
theorem land0 {a b : Nat} (ha : a < 2 ^ 40) : lg_cmp (lN a &&& lN b) 0 = 0 ↔ a &&& b = 0 := by
  rw [cmp0, la_and]
  show lN (a &&& b) = lN 0 ↔ _
  have := and40 (b := b) ha
  rw [pk_lEQ (by omega) (by omega)]
theorem lor1 {a c : Nat} (hc : c < 40) : lN a ||| jshl 1 (nI c) = lN (a ||| 2 ^ c) := by rw [lsh hc, la_or]
theorem lp_setL {F : (Int64 × Int32 × TH → Prop) → Int64 × Int32 × TH → Prop} (p : Nat → Bool) {n : Nat} {h : TH} (hn : n ≤ 40) (hs : ∀ j x K, j < n → (p j = true → ∀ y, y = lN x ||| jshl 1 (nI j) → K (y, nI (j + 1), h)) → (p j = false → K (lN x, nI (j + 1), h)) → F K (lN x, nI j, h)) (hx : ∀ K, F K (lN (setF p n), nI n, h)) : ∃ k, lp F k (0, 0, h) := by
  refine lp_for n (fun j t => t = (lN (setF p j), nI j, h)) ?_ ?_ _ rfl
  · rintro j t K hj rfl hK
    refine hs j _ K hj (fun hp y ey => ?_) (fun hp => ?_)
    · refine hK _ ?_
      rw [ey, lor1 (by omega)]
      conv => rhs; unfold setF
      rw [if_pos hp]
    · refine hK _ ?_
      conv => rhs; unfold setF
      rw [if_neg (by rw [hp]; decide)]
  · rintro t K rfl
    exact hx K
theorem bK_le {B : By} (hB : ByB B) {c : Nat} (hc : c < 40) : bK B c ≤ 3 := by have := hB.2.2.2.2.2.1 c hc; split at this <;> omega
def kindM (B : By) (x : Nat) : Nat := setF (fun c => decide (bK B c = x)) 40
theorem P_cellsOf {r : TR} {h : TH} {b x : Nat} {B : By} {Q : Int64 → TH → Prop} (hr : RBa r b) (hO : BayOK h b B) (hB : ByB B) (hx : x < 4) (hQ : Q (lN (kindM B x)) h) : D_Bay_cellsOf r b (nI x) h Q := by
  unfold D_Bay_cellsOf
  refine lp_setL (fun c => decide (bK B c = x)) (n := 40) (Nat.le_refl _) ?_ ?_
  · intro c M K hc ht hf
    have kd := bK_le hB hc
    unfold DB_Bay_cellsOf_5
    rw [hr.1.1, nI_clamp (n := c) (by omega), hO.2.2.2.2.2.1 c hc]
    refine ⟨fun q => absurd ((nI_leI (a := 40) (by omega) (by omega)).mp q) (by omega), fun _ => ⟨vp_in_nI hc (by omega), fun y x6 e6 => ?_, fun y x7 e7 x8 e8 => ?_⟩⟩
    · rw [nI_1] at e6; subst e6
      exact hf (decide_eq_false (fun e => y (by rw [e])))
    · rw [nI_1] at e8; subst e8
      exact ht (decide_eq_true ((nI_eq (by omega) (by omega)).mp y)) _ e7
  · intro K
    unfold DB_Bay_cellsOf_5
    exact ⟨fun _ => hQ, fun q => absurd (show (40 : Int32) ≤ nI 40 from Int32.le_refl _) q⟩
/-- the cells one step leads to -/
def spW (B : By) (c : Nat) : Nat → Nat → Nat
  | 0, F => F
  | j + 1, F => match besF (bW B) (bH B) c (j + 1) with
    | none => spW B c j F
    | some d => if bK B d = 1 then spW B c j F else spW B c j F ||| 2 ^ d
def spC (B : By) (R : Nat) : Nat → Nat
  | 0 => R
  | c + 1 => if R.testBit c = true then spW B c 4 (spC B R c) else spC B R c
theorem spW_n {B : By} {c j F : Nat} (h : besF (bW B) (bH B) c (j + 1) = none) : spW B c (j + 1) F = spW B c j F := by conv => lhs; unfold spW; rw [h]
theorem spW_s {B : By} {c j F d : Nat} (h : besF (bW B) (bH B) c (j + 1) = some d) : spW B c (j + 1) F = if bK B d = 1 then spW B c j F else spW B c j F ||| 2 ^ d := by conv => lhs; unfold spW; rw [h]
theorem spW_lt {B : By} (hB : ByB B) {c F : Nat} (hF : F < 2 ^ 40) : ∀ j, spW B c j F < 2 ^ 40 := by
  intro j
  induction j with
  | zero => exact hF
  | succ j ih =>
    cases h : besF (bW B) (bH B) c (j + 1) with
    | none => rw [spW_n h]; exact ih
    | some d =>
      rw [spW_s h]
      split
      · exact ih
      · exact or40 ih (p2_40 (besF_lt hB.1 hB.2.1 h).1)
theorem spC_lt {B : By} (hB : ByB B) {R : Nat} (hR : R < 2 ^ 40) : ∀ c, spC B R c < 2 ^ 40 := by
  intro c
  induction c with
  | zero => exact hR
  | succ c ih =>
    unfold spC
    split
    · exact spW_lt hB ih 4
    · exact ih
theorem P_spread {r : TR} {h : TH} {b R : Nat} {B : By} {Q : Int64 → TH → Prop} (hr : RBa r b) (hO : BayOK h b B) (hB : ByB B) (hR : R < 2 ^ 40) (hQ : Q (lN (spC B R 40)) h) : D_Bay_spread r b (lN R) h Q := by
  unfold D_Bay_spread
  refine lp_for 40 (fun c t => t = (lN (spC B R c), nI c, h)) ?_ ?_ _ rfl
  · rintro c t K hc rfl hK
    have hF := spC_lt hB hR c
    unfold DB_Bay_spread_5
    refine ⟨fun q => absurd ((nI_leI (a := 40) (by omega) (by omega)).mp q) (by omega), fun _ => ?_⟩
    cases hb : R.testBit c with
    | false =>
      refine ⟨0 + 1, lp_s ?_⟩
      unfold DB_Bay_spread_15
      have e : spC B R (c + 1) = spC B R c := by conv => lhs; unfold spC; rw [if_neg (by rw [hb]; decide)]
      refine ⟨fun q => absurd (show (5 : Int32) ≤ 1 from q) (by decide), fun _ => ⟨fun _ x22 e22 => ?_, fun q => absurd ((ltb hR hc).mp q) (by rw [hb]; decide)⟩⟩
      rw [nI_1] at e22; subst e22
      exact hK _ (by rw [e])
    | true =>
      have e : spC B R (c + 1) = spW B c 4 (spC B R c) := by conv => lhs; unfold spC; rw [if_pos hb]
      refine lp_for 4 (fun j t => t = (lN (spW B c j (spC B R c)), nI (1 + j), h)) ?_ ?_ _ rfl
      · rintro j t K2 hj rfl hK2
        have e1j : 1 + j = j + 1 := by omega
        unfold DB_Bay_spread_15
        refine ⟨fun q => absurd ((nI_leI (a := 5) (by omega) (by omega)).mp q) (by omega), fun _ => ⟨fun q => absurd hb (by rw [(ltb0 hR hc).mp q]; decide), fun _ => ?_⟩⟩
        refine P_beside hO.1 hO.2.1 hB.1 hB.2.1 hc (by omega) ?_
        rw [e1j]
        cases hbs : besF (bW B) (bH B) c (j + 1) with
        | none =>
          refine ⟨fun _ x11 e11 => ?_, fun q => absurd rfl q⟩
          have : x11 = nI (1 + (j + 1)) := by rw [e11]; show nI (j + 1) + 1 = _; rw [nI_1]; congr 1; omega
          subst this
          exact hK2 _ (by rw [spW_n hbs])
        | some d =>
          have hd := (besF_lt hB.1 hB.2.1 hbs).1
          have kd := bK_le hB hd
          have ed : h.1 (r b 5) (optI (some d)).toNatClampNeg = nI (bK B d) := by
            rw [hr.1.1]
            show h.1 (b + 1) (nI d).toNatClampNeg = _
            rw [nI_clamp (by omega), hO.2.2.2.2.2.1 d hd]
          refine ⟨fun q => absurd q (nI_nm1 (by omega)), fun _ => ⟨vp_in_nI hd (by omega), ?_⟩⟩
          rw [ed]
          refine ⟨fun y x14 e14 => ?_, fun y x15 e15 x16 e16 => ?_⟩
          · have : x14 = nI (1 + (j + 1)) := by rw [e14]; show nI (j + 1) + 1 = _; rw [nI_1]; congr 1; omega
            subst this
            exact hK2 _ (by rw [spW_s hbs, if_pos ((nI_eq (b := 1) (by omega) (by omega)).mp y)])
          · have : x16 = nI (1 + (j + 1)) := by rw [e16]; show nI (j + 1) + 1 = _; rw [nI_1]; congr 1; omega
            subst this
            have : x15 = lN (spW B c j (spC B R c) ||| 2 ^ d) := by rw [e15]; exact lor1 hd
            subst this
            exact hK2 _ (by rw [spW_s hbs, if_neg (fun z => y (by rw [z]; rfl))])
      · rintro t K2 rfl
        unfold DB_Bay_spread_15
        refine ⟨fun _ x22 e22 => ?_, fun q => absurd (show (5 : Int32) ≤ nI (1 + 4) from Int32.le_refl _) q⟩
        rw [nI_1] at e22; subst e22
        exact hK _ (by rw [e])
  · rintro t K rfl
    unfold DB_Bay_spread_5
    exact ⟨fun _ => hQ, fun q => absurd (show (40 : Int32) ≤ nI 40 from Int32.le_refl _) q⟩
/-- the cells in which a dish would be laid -/
def plF (B : By) (w : Nat) : Nat → Option Nat → Nat
  | 0, _ => 0
  | _ + 1, none => 0
  | n + 1, some c => 2 ^ c ||| plF B w n (downF B c w)
theorem plF_none (B : By) (w n : Nat) : plF B w n none = 0 := by cases n <;> rfl
theorem plF_lt {B : By} (hB : ByB B) {w : Nat} : ∀ n oc, (∀ c, oc = some c → c < 40) → plF B w n oc < 2 ^ 40 := by
  intro n
  induction n with
  | zero => intro oc _; show 0 < 2 ^ 40; decide
  | succ n ih =>
    intro oc ho
    cases oc with
    | none => show 0 < 2 ^ 40; decide
    | some c => exact or40 (p2_40 (ho c rfl)) (ih _ (fun d hd => downF_lt hB hd))
theorem P_plume {r : TR} {h : TH} {b c st w : Nat} {B : By} {Q : Int64 → TH → Prop} (hr : RBa r b) (hO : BayOK h b B) (hB : ByB B) (hc : c < 40) (hst : st ≤ 9) (hw : w < 8) (hQ : Q (lN (plF B w (st + 1) (some c))) h) : D_Bay_plume r b (nI c) (nI st) (nI w) h Q := by
  unfold D_Bay_plume
  refine lp_for (st + 1) (fun i t => ∃ F oc, t = (lN F, optI oc, nI i, h) ∧ (∀ d, oc = some d → d < 40) ∧ F ||| plF B w (st + 1 - i) oc = plF B w (st + 1) (some c)) ?_ ?_ _ ⟨0, some c, rfl, fun d hd => by cases hd; exact hc, by rw [Nat.zero_or]; rfl⟩
  · rintro i t K hi ⟨F, oc, rfl, hoc, eF⟩ hK
    unfold DB_Bay_plume_9
    refine ⟨fun q => absurd ((nI_ltI (by omega) (by omega)).mp q) (by omega), fun _ => ?_⟩
    cases oc with
    | none =>
      rw [plF_none, Nat.or_zero] at eF
      refine ⟨fun _ => ?_, fun q => absurd rfl q⟩
      rw [eF]; exact hQ
    | some d =>
      have hd := hoc d rfl
      have e1 : st + 1 - i = (st + 1 - (i + 1)) + 1 := by omega
      rw [e1] at eF
      refine ⟨fun q => absurd q (nI_nm1 (by omega)), fun _ x6 e6 => ?_⟩
      refine P_downwind hr hO hB hd hw (fun x10 e10 => ?_)
      rw [nI_1] at e10; subst e10
      have : x6 = lN (F ||| 2 ^ d) := by rw [e6]; exact lor1 hd
      subst this
      refine hK _ ⟨_, _, rfl, fun d' hd' => downF_lt hB hd', ?_⟩
      rw [← eF, Nat.or_assoc]
      rfl
  · rintro t K ⟨F, oc, rfl, hoc, eF⟩
    unfold DB_Bay_plume_9
    refine ⟨fun _ => ?_, fun q => absurd (nI_lt (a := st) (by omega) (by omega)) q⟩
    rw [Nat.sub_self] at eF
    have : plF B w 0 oc = 0 := rfl
    rw [this, Nat.or_zero] at eF
    rw [eF]; exact hQ
/-- the cells in which boats sail -/
def nsF (S : Sc) : Nat → Nat
  | 0 => 0
  | j + 1 => if sail S j = true then nsF S j ||| 2 ^ sC S j else nsF S j
theorem nsF_lt {S : Sc} (hS : ScB S) : ∀ j, j ≤ 6 → nsF S j < 2 ^ 40 := by
  intro j
  induction j with
  | zero => intro _; show 0 < 2 ^ 40; decide
  | succ j ih =>
    intro hj
    unfold nsF
    split
    · exact or40 (ih (by omega)) (p2_40 (hS.2.2.2.2.1 j (by omega)))
    · exact ih (by omega)
def unF (B : By) (S : Sc) (st F : Nat) : Nat := setF (fun c => F.testBit c && decide (plF B (windF B (sH S)) (st + 1) (some c) &&& nsF S (bN B) = 0)) 40
theorem P_unsmelt {r : TR} {h : TH} {b s st F : Nat} {B : By} {S : Sc} {Q : Int64 → TH → Prop} (hr : RBa r b) (hrs : RSc r s) (hO : BayOK h b B) (hB : ByB B) (hS : ScOK h s S) (hSB : ScB S) (hap : apart b s) (hF : F < 2 ^ 40) (hst : st ≤ 9) (hQ : ∀ h', Fr (FBa b) h h' → BScr b h h' → Q (lN (unF B S st F)) h') : D_Bay_unsmelt r b s (lN F) (nI st) h Q := by
  have hn := hB.2.2.1
  unfold D_Bay_unsmelt
  rw [hS.1]
  refine P_windAt hr hO hB (fun h1 f1 s1 => ?_)
  have O1 := hO.scr s1
  have S1 : ScOK h1 s S := hS.fr (fun a x y => (f1 a (by unfold FBa; unfold apart at hap; omega)).1)
  have ww := way4_le (tellsF (windV (sH S)) (bPW B))
  have hw : windF B (sH S) < 8 := by unfold windF; omega
  refine lp_for (bN B) (fun j t => t = (lN (nsF S j), nI j, h1)) ?_ ?_ _ rfl
  · rintro j t K hj rfl hK
    unfold DB_Bay_unsmelt_16
    rw [O1.2.2.1]
    refine ⟨fun q => absurd ((nI_leI (by omega) (by omega)).mp q) (by omega), fun _ => ?_⟩
    refine P_isSailing S1 hSB (by omega) (fun y => ⟨fun q => absurd q z01, fun _ => ⟨vp_in_nI (by omega) (by omega), fun x12 e12 x13 e13 => ?_⟩⟩) (fun y => ⟨fun _ x10 e10 => ?_, fun q => absurd rfl q⟩)
    · rw [nI_1] at e13; subst e13
      rw [hrs.1, nI_clamp (n := j) (by omega), S1.2.2.2.2.1 j (by omega)] at e12
      have : x12 = lN (nsF S j ||| 2 ^ sC S j) := by rw [e12]; exact lor1 (hSB.2.2.2.2.1 j (by omega))
      subst this
      refine hK _ ?_
      conv => rhs; unfold nsF
      rw [if_pos y]
    · rw [nI_1] at e10; subst e10
      refine hK _ ?_
      conv => rhs; unfold nsF
      rw [if_neg (by rw [y]; decide)]
  · rintro t K rfl
    unfold DB_Bay_unsmelt_16
    rw [O1.2.2.1]
    refine ⟨fun _ => ?_, fun q => absurd (Int32.le_refl _) q⟩
    refine lp_setL (fun c => F.testBit c && decide (plF B (windF B (sH S)) (st + 1) (some c) &&& nsF S (bN B) = 0)) (n := 40) (Nat.le_refl _) ?_ ?_
    · intro c M K hc ht hf
      have pl := plF_lt hB (w := windF B (sH S)) (st + 1) (some c) (fun d hd => by cases hd; exact hc)
      unfold DB_Bay_unsmelt_60
      refine ⟨fun q => absurd ((nI_leI (a := 40) (by omega) (by omega)).mp q) (by omega), fun _ => ⟨fun q x23 e23 => ?_, fun q => ?_⟩⟩
      · rw [nI_1] at e23; subst e23
        exact hf (by rw [(ltb0 hF hc).mp q]; rfl)
      · refine P_plume hr O1 hB hc hst hw ⟨fun y x27 e27 => ?_, fun y x28 e28 x29 e29 => ?_⟩
        · rw [nI_1] at e27; subst e27
          exact hf (by rw [decide_eq_false (fun z => y ((land0 pl).mpr z)), Bool.and_false])
        · rw [nI_1] at e29; subst e29
          exact ht (by rw [(ltb hF hc).mp q, decide_eq_true ((land0 pl).mp y)]; rfl) _ e28
    · intro K
      unfold DB_Bay_unsmelt_60
      exact ⟨fun _ => hQ _ f1 s1, fun q => absurd (show (40 : Int32) ≤ nI 40 from Int32.le_refl _) q⟩
