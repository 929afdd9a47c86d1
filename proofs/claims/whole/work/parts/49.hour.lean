/-! an hour: the class's side -/
theorem fa_and (a b : Nat) : nI a &&& nI b = nI (a &&& b) := by
  apply Int32.toBitVec_inj.1
  show BitVec.ofNat 32 a &&& BitVec.ofNat 32 b = BitVec.ofNat 32 (a &&& b)
  apply BitVec.eq_of_getLsbD_eq
  intro i hi
  simp [hi]
theorem fa_or (a b : Nat) : nI a ||| nI b = nI (a ||| b) := by
  apply Int32.toBitVec_inj.1
  show BitVec.ofNat 32 a ||| BitVec.ofNat 32 b = BitVec.ofNat 32 (a ||| b)
  apply BitVec.eq_of_getLsbD_eq
  intro i hi
  simp [hi]
theorem sh3 : ∀ j : Fin 6, (((nI (3 * j.1) &&& 31)).toBitVec.smod 32).toNat = 3 * j.1 := by decide +kernel
theorem e8 : ∀ j : Fin 7, 8 ^ j.1 = 2 ^ (3 * j.1) ∧ 8 ^ j.1 ≤ 262144 := by decide +kernel
/-- ways packed by threes of bits -/
theorem pack_or {p w j : Nat} (hj : j < 6) (hp : p < 8 ^ j) (hw : w < 8) : nI p ||| (nI w <<< ((3 * nI j) &&& 31)) = nI (p + w * 8 ^ j) ∧ p + w * 8 ^ j < 8 ^ (j + 1) := by
  have e3 : (3 : Int32) * nI j = nI (3 * j) := pk_mul 3 j
  have h8 : 8 ^ j = 2 ^ (3 * j) ∧ 8 ^ j ≤ 262144 := e8 ⟨j, by omega⟩
  have h81 : 8 ^ (j + 1) = 2 ^ (3 * (j + 1)) ∧ 8 ^ (j + 1) ≤ 262144 := e8 ⟨j + 1, by omega⟩
  have ep : 8 ^ (j + 1) = 8 ^ j * 8 := Nat.pow_succ ..
  have hb : w * 8 ^ j ≤ 7 * 8 ^ j := Nat.mul_le_mul_right _ (by omega)
  have hlt : p + w * 8 ^ j < 8 ^ (j + 1) := by rw [ep]; omega
  refine ⟨?_, hlt⟩
  rw [e3, pk_shlN _ (3 * j) (sh3 ⟨j, hj⟩) (by rw [← h8.1]; have := h81.2; omega), ← h8.1, fa_or]
  congr 1
  have hp2 : p < 2 ^ (3 * j) := by rw [← h8.1]; exact hp
  rw [h8.1, Nat.mul_comm w, Nat.or_comm, ← Nat.two_pow_add_eq_or_of_lt hp2, Nat.add_comm]
theorem unpack {p j : Nat} (hj : j < 6) (hp : p < 262145) : (nI p >>> ((3 * nI j) &&& 31)) &&& 7 = nI (p / 8 ^ j % 8) := by
  have e3 : (3 : Int32) * nI j = nI (3 * j) := pk_mul 3 j
  have h8 : 8 ^ j = 2 ^ (3 * j) ∧ 8 ^ j ≤ 262144 := e8 ⟨j, by omega⟩
  rw [e3, pk_shrN (by omega) _ (3 * j) (sh3 ⟨j, hj⟩), ← h8.1]
  have e7 : (7 : Int32) = nI (2 ^ 3 - 1) := rfl
  rw [e7, fa_and, Nat.and_two_pow_sub_one_eq_mod]
/-- a boat comes home -/
def homeS (k : Nat) (S : Sc) : Sc := (sH S, sP S, sL S, sO S ||| 2 ^ k, sC S, (fun i => if i = k then popc (sO S ||| 2 ^ k) else sA S i), sY S)
theorem P_bringHome {r : TR} {h : TH} {s k : Nat} {S : Sc} {Q : TH → Prop} (hrs : RSc r s) (hS : ScOK h s S) (hSB : ScB S) (hk : k < 6) (hQ : ∀ h', Fr (fun a => a = s ∨ a = s + 2) h h' → ScOK h' s (homeS k S) → Q h') : D_Sc_bringHome r s (nI k) h Q := by
  have ho := bo_lt hSB.2.2.2.1 hk
  unfold D_Sc_bringHome
  intro h1 e1
  rw [hS.2.2.2.1, bo_1 hSB.2.2.2.1 hk] at e1
  have e2 : h1.1 s 3 = nI (sO S ||| 2 ^ k) := by rw [e1, pI_s]
  rw [e2]
  refine P_bitCount ho ⟨vp_in_nI hk (by omega), ?_⟩
  intro h5 e5
  rw [hrs.2.1, nI_clamp (by omega)] at e5
  obtain ⟨a1, a2, a3, a4, a5, a6, a7⟩ := hS
  refine hQ h5 (by rw [e5, e1]; exact (Fr.pI (Or.inl rfl)).tr (Fr.pI (Or.inr rfl))) ⟨?_, ?_, ?_, ?_, fun i hi => ?_, fun i hi => ?_, fun i hi => ?_⟩
  · rw [e5, pI_n _ _ _ _ (by omega), e1, pI_n _ _ _ _ (by omega)]; exact a1
  · rw [e5, pI_n _ _ _ _ (by omega), e1, pI_n _ _ _ _ (by omega)]; exact a2
  · rw [e5, pI_n _ _ _ _ (by omega), e1, pI_n _ _ _ _ (by omega)]; exact a3
  · rw [e5, pI_n _ _ _ _ (by omega), e1, pI_s]; rfl
  · rw [e5, pI_n _ _ _ _ (by omega), e1, pI_n _ _ _ _ (by omega)]; exact a5 i hi
  · show h5.1 (s + 2) i = nI (if i = k then popc (sO S ||| 2 ^ k) else sA S i)
    by_cases e : i = k
    · rw [if_pos e, e5, e, pI_s]
    · rw [if_neg e, e5, pI_n _ _ _ _ (by omega), e1, pI_n _ _ _ _ (by omega)]; exact a6 i hi
  · rw [e5, pI_n _ _ _ _ (by omega), e1, pI_n _ _ _ _ (by omega)]; exact a7 i hi
theorem homeS_B {S : Sc} {k : Nat} (hSB : ScB S) (hk : k < 6) : ScB (homeS k S) := ⟨hSB.1, hSB.2.1, hSB.2.2.1, bo_lt hSB.2.2.2.1 hk, hSB.2.2.2.2.1, hSB.2.2.2.2.2⟩
/-- a boat is in another cell -/
def cellS (k c : Nat) (S : Sc) : Sc := (sH S, sP S, sL S, sO S, (fun i => if i = k then c else sC S i), sA S, sY S)
theorem cellS_B {S : Sc} {k c : Nat} (hSB : ScB S) (hc : c < 40) : ScB (cellS k c S) := ⟨hSB.1, hSB.2.1, hSB.2.2.1, hSB.2.2.2.1, fun i hi => by show (if i = k then c else sC S i) < 40; split; exact hc; exact hSB.2.2.2.2.1 i hi, hSB.2.2.2.2.2⟩
def lostS (k : Nat) (S : Sc) : Sc := (sH S, sP S, sL S ||| 2 ^ k, sO S, sC S, sA S, sY S)
theorem lostS_B {S : Sc} {k : Nat} (hSB : ScB S) (hk : k < 6) : ScB (lostS k S) := ⟨hSB.1, hSB.2.1, bo_lt hSB.2.2.1 hk, hSB.2.2.2.1, hSB.2.2.2.2.1, hSB.2.2.2.2.2⟩
/-- a boat goes a way: the answer, and how all is then -/
def moveS (B : By) (k w : Nat) (S : Sc) : Int32 × Sc := match besF (bW B) (bH B) (sC S k) w with
  | none => (3, S)
  | some d => if w = 0 then (3, S) else if bK B d = 1 then (2, lostS k (cellS k d S)) else if bK B d = 2 then (1, homeS k (cellS k d S)) else (0, cellS k d S)
theorem moveS_B {B : By} {k w : Nat} {S : Sc} (hB : ByB B) (hSB : ScB S) (hk : k < 6) : ScB (moveS B k w S).2 := by
  unfold moveS
  split
  · exact hSB
  · rename_i d hd
    have hd40 := (besF_lt hB.1 hB.2.1 hd).1
    split
    · exact hSB
    · split
      · exact lostS_B (cellS_B hSB hd40) hk
      · split
        · exact homeS_B (cellS_B hSB hd40) hk
        · exact cellS_B hSB hd40
def FMo (s : Nat) : Nat → Prop := fun a => a = s ∨ a = s + 1 ∨ a = s + 2
theorem P_move {r : TR} {h : TH} {b s k w : Nat} {B : By} {S : Sc} {Q : Int32 → TH → Prop} (hr : RBa r b) (hrs : RSc r s) (hO : BayOK h b B) (hB : ByB B) (hS : ScOK h s S) (hSB : ScB S) (hap : apart b s) (hk : k < bN B) (hw : w < 8)
    (hQ : ∀ h', Fr (FMo s) h h' → ScOK h' s (moveS B k w S).2 → Q (moveS B k w S).1 h') : D_Bay_move r b s (nI k) (nI w) h Q := by
  have hn := hB.2.2.1
  have hk6 : k < 6 := by omega
  have hc := hSB.2.2.2.2.1 k hk6
  unfold D_Bay_move
  rw [hrs.1, nI_clamp (n := k) (by omega), hS.2.2.2.2.1 k hk6]
  refine ⟨vp_in_nI hk6 (by omega), P_beside hO.1 hO.2.1 hB.1 hB.2.1 hc hw ?_⟩
  unfold moveS at hQ
  cases he : besF (bW B) (bH B) (sC S k) w with
  | none => rw [he] at hQ; exact ⟨fun _ => hQ h Fr.rf hS, fun q => absurd rfl q⟩
  | some d =>
    rw [he] at hQ
    dsimp only at hQ
    have hd := (besF_lt hB.1 hB.2.1 he).1
    have hkd : bK B d ≤ 3 := by have := hB.2.2.2.2.2.1 d hd; split at this <;> omega
    refine ⟨fun q => absurd q (nI_nm1 (by omega)), fun _ => ⟨fun q => ?_, fun q => ?_⟩⟩
    · have hw0 : ¬ w = 0 := fun z => q (by rw [z]; rfl)
      rw [if_neg hw0] at hQ
      refine ⟨vp_in_nI hk6 (by omega), ?_⟩
      intro h8 e8'
      have e8 : h8 = pI h (s + 1) k (nI d) := e8'
      have f8 : Fr (FMo s) h h8 := by rw [e8]; exact Fr.pI (by unfold FMo; omega)
      have S8 : ScOK h8 s (cellS k d S) := by
        obtain ⟨a1, a2, a3, a4, a5, a6, a7⟩ := hS
        refine ⟨?_, ?_, ?_, ?_, fun i hi => ?_, fun i hi => ?_, fun i hi => ?_⟩
        · rw [e8, pI_n _ _ _ _ (by omega)]; exact a1
        · rw [e8, pI_n _ _ _ _ (by omega)]; exact a2
        · rw [e8, pI_n _ _ _ _ (by omega)]; exact a3
        · rw [e8, pI_n _ _ _ _ (by omega)]; exact a4
        · show h8.1 (s + 1) i = nI (if i = k then d else sC S i)
          by_cases e : i = k
          · rw [if_pos e, e8, e, pI_s]
          · rw [if_neg e, e8, pI_n _ _ _ _ (by omega)]; exact a5 i hi
        · rw [e8, pI_n _ _ _ _ (by omega)]; exact a6 i hi
        · rw [e8, pI_n _ _ _ _ (by omega)]; exact a7 i hi
      have ek : h8.1 (r b 5) (optI (some d)).toNatClampNeg = nI (bK B d) := by
        rw [hr.1.1, e8, pI_o _ _ _ _ (by unfold apart at hap; omega)]
        show h.1 (b + 1) (nI d).toNatClampNeg = _
        rw [nI_clamp (by omega), hO.2.2.2.2.2.1 d hd]
      rw [ek]
      refine ⟨vp_in_nI hd (by omega), fun q1 => ⟨vp_in_nI hd (by omega), fun q2 => ?_, fun q2 => ?_⟩, fun q1 => ?_⟩
      · have n1 : ¬ bK B d = 1 := fun z => q1 (by rw [z]; rfl)
        have n2 : ¬ bK B d = 2 := fun z => q2 (by rw [z]; rfl)
        rw [if_neg n1, if_neg n2] at hQ
        exact hQ h8 f8 S8
      · have n1 : ¬ bK B d = 1 := fun z => q1 (by rw [z]; rfl)
        have n2 : bK B d = 2 := (nI_eq (a := bK B d) (b := 2) (by omega) (by omega)).mp q2
        rw [if_neg n1, if_pos n2] at hQ
        refine P_bringHome hrs S8 (cellS_B hSB hd) hk6 (fun h' hF' hS' => hQ h' (f8.tr (hF'.mono (fun q hq => by unfold FMo; omega))) hS')
      · have n1 : bK B d = 1 := (nI_eq (a := bK B d) (b := 1) (by omega) (by omega)).mp q1
        rw [if_pos n1] at hQ
        intro h15 e15
        rw [S8.2.2.1, bo_1 (show sL (cellS k d S) < 64 from hSB.2.2.1) hk6] at e15
        obtain ⟨a1, a2, a3, a4, a5, a6, a7⟩ := S8
        refine hQ h15 (f8.tr (by rw [e15]; exact Fr.pI (by unfold FMo; omega))) ⟨?_, ?_, ?_, ?_, fun i hi => ?_, fun i hi => ?_, fun i hi => ?_⟩
        · rw [e15, pI_n _ _ _ _ (by omega)]; exact a1
        · rw [e15, pI_n _ _ _ _ (by omega)]; exact a2
        · rw [e15, pI_s]; rfl
        · rw [e15, pI_n _ _ _ _ (by omega)]; exact a4
        · rw [e15, pI_n _ _ _ _ (by omega)]; exact a5 i hi
        · rw [e15, pI_n _ _ _ _ (by omega)]; exact a6 i hi
        · rw [e15, pI_n _ _ _ _ (by omega)]; exact a7 i hi
    · have hw0 : w = 0 := (nI_eq (a := w) (b := 0) (by omega) (by omega)).mp q
      rw [if_pos hw0] at hQ
      exact hQ h Fr.rf hS
/-- what the law of steering is asked with -/
def stV (B : By) (S : Sc) (k w m : Nat) : Nat → Int32 := fun i => if i = 0 then nI (sH S) else if i = 1 then eastI S k else if i = 2 then southI S k else if i = 3 then nI w else if i = 4 then nI (popc m) else if i = 5 then leastI m else if i = 6 then nI k else if i = 7 then nI (bS B k) else nI (popc (sO S))
def way5 (x : Int32) : Nat := if 0 ≤ x then x.toNatClampNeg % 5 else 0
theorem way5_lt (x : Int32) : way5 x < 5 := by unfold way5; split <;> omega
def wayF (B : By) (S : Sc) (seed : Int32) (k w : Nat) : Nat := way5 (tellsF (stV B S k w (smells B S seed k)) (bPS B))
theorem P_wayOf {r : TR} {h : TH} {b s k w : Nat} {B : By} {S : Sc} {seed : Int32} {Q : Int32 → TH → Prop} (hr : RBa r b) (hrs : RSc r s) (hO : BayOK h b B) (hB : ByB B) (hS : ScOK h s S) (hSB : ScB S) (hap : apart b s) (hk : k < bN B)
    (hQ : ∀ h', Fr (FBa b) h h' → BScr b h h' → Q (nI (wayF B S seed k w)) h') : D_Bay_wayOf r b s (nI k) (nI w) seed h Q := by
  have hn := hB.2.2.1
  have hk6 : k < 6 := by omega
  have hm := smells_lt (S := S) (seed := seed) (k := k) hB
  unfold D_Bay_wayOf
  refine P_dishesSmelledBy hr hrs hO hB hS hSB hk ?_
  have l13 : r b 13 = b + 13 := hr.2.1.2.1
  have lv0 : r (b + 13) 0 = b + 14 := hr.2.2.2.1.1
  have keep : ∀ (h1 : TH) (j : Nat) (v : Int32), ScOK h1 s S → ScOK (pI h1 (b + 14) j v) s S := fun h1 j v H1 => H1.fr (fun a p1 p2 => pI_o _ _ _ _ (by unfold apart at hap; omega))
  have z0 : (0 : Int32).toNatClampNeg = 0 := by decide
  have z1 : (1 : Int32).toNatClampNeg = 1 := by decide
  have z2 : (2 : Int32).toNatClampNeg = 2 := by decide
  have z3 : (3 : Int32).toNatClampNeg = 3 := by decide
  have z4 : (4 : Int32).toNatClampNeg = 4 := by decide
  have z5 : (5 : Int32).toNatClampNeg = 5 := by decide
  have z6 : (6 : Int32).toNatClampNeg = 6 := by decide
  have z7 : (7 : Int32).toNatClampNeg = 7 := by decide
  have z8 : (8 : Int32).toNatClampNeg = 8 := by decide
  intro h7 e7
  rw [l13, lv0, hS.1, z0] at e7
  have S7 : ScOK h7 s S := by rw [e7]; exact keep _ _ _ hS
  refine P_eastOf hrs S7 hSB hk6 ?_
  intro h10 e10
  rw [l13, lv0, z1] at e10
  have S10 : ScOK h10 s S := by rw [e10]; exact keep _ _ _ S7
  refine P_southOf hrs S10 hSB hk6 ?_
  intro h13 e13 h14 e14
  rw [l13, lv0, z2] at e13
  rw [l13, lv0, z3] at e14
  refine P_bitCount hm ?_
  intro h17 e17
  rw [l13, lv0, z4] at e17
  refine P_leastOf hm ?_
  intro h20 e20 h21 e21
  rw [l13, lv0, z5] at e20
  rw [l13, lv0, z6] at e21
  refine ⟨vp_in_nI hk6 (by omega), ?_⟩
  intro h23 e23
  rw [l13, lv0, z7, hr.1.2.2.2.2.2.1, nI_clamp (by omega)] at e23
  have g6 : h21.1 (b + 6) k = nI (bS B k) := by
    rw [e21, pI_o _ _ _ _ (by omega), e20, pI_o _ _ _ _ (by omega), e17, pI_o _ _ _ _ (by omega), e14, pI_o _ _ _ _ (by omega), e13, pI_o _ _ _ _ (by omega), e10, pI_o _ _ _ _ (by omega), e7, pI_o _ _ _ _ (by omega)]
    exact (hO.2.2.2.2.2.2.1 k hk).2.2.1
  rw [g6] at e23
  have S23 : ScOK h23 s S := by
    rw [e23, e21, e20, e17, e14, e13]
    exact keep _ _ _ (keep _ _ _ (keep _ _ _ (keep _ _ _ (keep _ _ _ (keep _ _ _ S10)))))
  rw [S23.2.2.2.1]
  refine P_bitCount hSB.2.2.2.1 ?_
  intro h26 e26
  rw [l13, lv0, z8] at e26
  have s26 : BScr b h h26 := by
    rw [e26, e23, e21, e20, e17, e14, e13, e10, e7]
    exact (((((((BScr.v14.tr BScr.v14).tr BScr.v14).tr BScr.v14).tr BScr.v14).tr BScr.v14).tr BScr.v14).tr BScr.v14).tr BScr.v14
  have f26 : Fr (FBa b) h h26 := by
    rw [e26, e23, e21, e20, e17, e14, e13, e10, e7]
    have f : ∀ (h1 : TH) (j : Nat) (v : Int32), Fr (FBa b) h1 (pI h1 (b + 14) j v) := fun h1 j v => Fr.pI (by unfold FBa; omega)
    exact ((((((((f _ _ _).tr (f _ _ _)).tr (f _ _ _)).tr (f _ _ _)).tr (f _ _ _)).tr (f _ _ _)).tr (f _ _ _)).tr (f _ _ _)).tr (f _ _ _)
  have O26 := hO.scr s26
  rw [l13]
  refine P_Law_tells hr.2.2.2.1 O26.2.2.2.2.2.2.2.2.1 hB.2.2.2.2.2.2.2.2.1 (fun h28 hS28 => ?_)
  have ev : tellsF (h26.1 (b + 13 + 1)) (bPS B) = tellsF (stV B S k w (smells B S seed k)) (bPS B) := by
    refine tellsF_cg (fun i hi => ?_) _ _ (Nat.le_refl _) O26.2.2.2.2.2.2.2.2.1.wf
    show h26.1 (b + 14) i = stV B S k w (smells B S seed k) i
    unfold stV
    rcases (show i = 0 ∨ i = 1 ∨ i = 2 ∨ i = 3 ∨ i = 4 ∨ i = 5 ∨ i = 6 ∨ i = 7 ∨ i = 8 by omega) with rfl | rfl | rfl | rfl | rfl | rfl | rfl | rfl | rfl
    · rw [e26, pI_n _ _ _ _ (by omega), e23, pI_n _ _ _ _ (by omega), e21, pI_n _ _ _ _ (by omega), e20, pI_n _ _ _ _ (by omega), e17, pI_n _ _ _ _ (by omega), e14, pI_n _ _ _ _ (by omega), e13, pI_n _ _ _ _ (by omega), e10, pI_n _ _ _ _ (by omega), e7, pI_s]; rfl
    · rw [e26, pI_n _ _ _ _ (by omega), e23, pI_n _ _ _ _ (by omega), e21, pI_n _ _ _ _ (by omega), e20, pI_n _ _ _ _ (by omega), e17, pI_n _ _ _ _ (by omega), e14, pI_n _ _ _ _ (by omega), e13, pI_n _ _ _ _ (by omega), e10, pI_s]; rfl
    · rw [e26, pI_n _ _ _ _ (by omega), e23, pI_n _ _ _ _ (by omega), e21, pI_n _ _ _ _ (by omega), e20, pI_n _ _ _ _ (by omega), e17, pI_n _ _ _ _ (by omega), e14, pI_n _ _ _ _ (by omega), e13, pI_s]; rfl
    · rw [e26, pI_n _ _ _ _ (by omega), e23, pI_n _ _ _ _ (by omega), e21, pI_n _ _ _ _ (by omega), e20, pI_n _ _ _ _ (by omega), e17, pI_n _ _ _ _ (by omega), e14, pI_s]; rfl
    · rw [e26, pI_n _ _ _ _ (by omega), e23, pI_n _ _ _ _ (by omega), e21, pI_n _ _ _ _ (by omega), e20, pI_n _ _ _ _ (by omega), e17, pI_s]; rfl
    · rw [e26, pI_n _ _ _ _ (by omega), e23, pI_n _ _ _ _ (by omega), e21, pI_n _ _ _ _ (by omega), e20, pI_s]; rfl
    · rw [e26, pI_n _ _ _ _ (by omega), e23, pI_n _ _ _ _ (by omega), e21, pI_s]; rfl
    · rw [e26, pI_n _ _ _ _ (by omega), e23, pI_s]; rfl
    · rw [e26, pI_s]; rfl
  rw [ev]
  have fin := hQ h28 (f26.tr (hS28.1.mono (fun q hq => by unfold FBa; omega))) (s26.tr (BScr.ask13 hS28))
  unfold wayF way5 at fin
  refine ⟨fun q => ?_, fun q => ?_⟩
  · rw [if_pos q] at fin
    obtain ⟨j, hj, ej⟩ := nn_of q
    rw [ej] at fin ⊢
    rw [jr5 hj]
    rw [nI_clamp hj] at fin
    exact fin
  · rw [if_neg q] at fin; exact fin
