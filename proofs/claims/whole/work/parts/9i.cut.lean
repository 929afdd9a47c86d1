/-! tokens: the reference's side -/
def mkK (k : Nat) : Nat := if k = 0 then 0 else if k = 1 then 3 else if k = 2 then 1 else if k = 3 then 2 else if k < 23 then k + 16 else if k = 23 then 4 else if k = 24 then 5 else if k = 25 then 8 else if k = 26 then 9 else if k = 27 then 10 else if k = 28 then 15 else if k = 29 then 13 else if k = 30 then 6 else 7
theorem la_mul (a b : Nat) : lN a * lN b = lN (a * b) := (Int64.ofNat_mul a b).symm
def TpM (r : TR) (h : TH) (m n : Nat) (f : Nat → Int32) : Prop := RMo r m ∧ h.1 m 4 = nI n ∧ n ≤ 2000 ∧ ∀ i, i < n → h.1 (m + 2) i = f i ∧ isB (f i)
def cbF' (f : Nat → Int32) (n i : Nat) : Nat := if i < n then byC (f i) else 0
theorem cb_lt {r : TR} {h : TH} {m n : Nat} {f : Nat → Int32} (t : TpM r h m n f) (i : Nat) : cbF' f n i < 256 := by
  unfold cbF'
  split
  · next z => exact (by_ok (t.2.2.2 i z).2).1
  · omega
theorem TpM.mv {r : TR} {h h' : TH} {m n : Nat} {f : Nat → Int32} (e1 : h'.1 m 4 = h.1 m 4) (e2 : h'.1 (m + 2) = h.1 (m + 2)) (t : TpM r h m n f) : TpM r h' m n f := ⟨t.1, e1.trans t.2.1, t.2.2.1, fun i hi => by rw [e2]; exact t.2.2.2 i hi⟩
theorem P_byteAt {r : TR} {h : TH} {m n i : Nat} {f : Nat → Int32} {Q : Int32 → TH → Prop} (t : TpM r h m n f) (hi : i < 2 ^ 30) (hQ : Q (nI (cbF' f n i)) h) : D_Mo_byteAt r m (nI i) h Q := by
  obtain ⟨hr, e1, n2, e2⟩ := t
  have r3 : r m 3 = m + 2 := hr 3 (by decide) (by decide)
  unfold D_Mo_byteAt
  rw [e1, r3, nI_clamp (n := i) (by omega)]
  unfold cbF' at hQ
  refine ⟨fun z => ?_, fun z => ?_⟩
  · rw [if_neg (by have := (nI_leI (by omega) (by omega)).mp z; omega)] at hQ
    exact hQ
  · have z' : i < n := by
      rcases Nat.lt_or_ge i n with w | w
      · exact w
      · exact absurd (nI_le w (by omega)) z
    rw [if_pos z'] at hQ
    rw [(e2 i z').1, (by_ok (e2 i z').2).2.1]
    exact ⟨vp_in_nI (by omega) (by omega), hQ⟩
theorem P_isLetter {r : TR} {h : TH} {c : Nat} {Q : Int32 → TH → Prop} (hc : c < 256) (h1 : isLt c = true → Q 1 h) (h0 : isLt c = false → Q 0 h) : D_Mo_isLetter r (nI c) h Q := by
  unfold D_Mo_isLetter
  refine ⟨fun z => h0 (bf_of (fun w => ?_)), fun z => ⟨fun y => h0 (bf_of (fun w => ?_)), fun y => h1 (isLt_i.mpr ⟨?_, ?_⟩)⟩⟩
  · have := (nI_ltI (b := 97) (by omega) (by omega)).mp z
    have := isLt_i.mp w
    omega
  · have := (nI_ltI (a := 122) (by omega) (by omega)).mp y
    have := isLt_i.mp w
    omega
  · rcases Nat.lt_or_ge c 97 with w | w
    · exact absurd (nI_lt (b := 97) w (by omega)) z
    · exact w
  · rcases Nat.lt_or_ge 122 c with w | w
    · exact absurd (nI_lt (a := 122) w (by omega)) y
    · exact w
theorem P_isDigit {r : TR} {h : TH} {c : Nat} {Q : Int32 → TH → Prop} (hc : c < 256) (h1 : isDg c = true → Q 1 h) (h0 : isDg c = false → Q 0 h) : D_Mo_isDigit r (nI c) h Q := by
  unfold D_Mo_isDigit
  refine ⟨fun z => h0 (bf_of (fun w => ?_)), fun z => ⟨fun y => h0 (bf_of (fun w => ?_)), fun y => h1 (isDg_i.mpr ⟨?_, ?_⟩)⟩⟩
  · have := (nI_ltI (b := 48) (by omega) (by omega)).mp z
    have := isDg_i.mp w
    omega
  · have := (nI_ltI (a := 57) (by omega) (by omega)).mp y
    have := isDg_i.mp w
    omega
  · rcases Nat.lt_or_ge c 48 with w | w
    · exact absurd (nI_lt (b := 48) w (by omega)) z
    · exact w
  · rcases Nat.lt_or_ge 57 c with w | w
    · exact absurd (nI_lt (a := 57) w (by omega)) y
    · exact w
/-- a token is put behind T others -/
def TokH (m T : Nat) (k p v : Int32) (nm : Int64) (h h' : TH) : Prop := Fr (fun a => a = m ∨ (m + 3 ≤ a ∧ a ≤ m + 6)) h h' ∧ (∀ x, ¬ x = 10 → h'.1 m x = h.1 m x) ∧ h'.1 m 10 = nI (T + 1) ∧ (∀ x, ¬ x = T → h'.1 (m + 3) x = h.1 (m + 3) x ∧ h'.1 (m + 4) x = h.1 (m + 4) x ∧ h'.1 (m + 5) x = h.1 (m + 5) x ∧ h'.2 (m + 6) x = h.2 (m + 6) x) ∧ h'.1 (m + 3) T = k ∧ h'.1 (m + 4) T = p ∧ h'.1 (m + 5) T = v ∧ h'.2 (m + 6) T = nm
theorem P_token {r : TR} {h : TH} {m T : Nat} {k p v : Int32} {nm : Int64} {Q : TH → Prop} (hr : RMo r m) (hT : T < 403) (e : h.1 m 10 = nI T) (hQ : ∀ h', TokH m T k p v nm h h' → Q h') : D_Mo_token r m k p v nm h Q := by
  have r5 : r m 5 = m + 3 := hr 5 (by decide) (by decide)
  have r6 : r m 6 = m + 4 := hr 6 (by decide) (by decide)
  have r7 : r m 7 = m + 5 := hr 7 (by decide) (by decide)
  have r8 : r m 8 = m + 6 := hr 8 (by decide) (by decide)
  unfold D_Mo_token
  rw [e, r5, r6, r7, r8, nI_clamp (n := T) (by omega)]
  refine ⟨vp_in_nI hT (by omega), fun h2 e2 => ?_⟩
  have f2 : h2.1 m 10 = nI T := by rw [e2, pI_o _ _ _ _ (by omega)]; exact e
  rw [f2, nI_clamp (n := T) (by omega)]
  refine ⟨vp_in_nI hT (by omega), fun h4 e4 => ?_⟩
  have f4 : h4.1 m 10 = nI T := by rw [e4, pI_o _ _ _ _ (by omega)]; exact f2
  rw [f4, nI_clamp (n := T) (by omega)]
  refine ⟨vp_in_nI hT (by omega), fun h6 e6 => ?_⟩
  have f6 : h6.1 m 10 = nI T := by rw [e6, pI_o _ _ _ _ (by omega)]; exact f4
  rw [f6, nI_clamp (n := T) (by omega)]
  refine ⟨vp_in_nI hT (by omega), fun h8 e8 h9 e9 => ?_⟩
  have f8 : h8.1 m 10 = nI T := by rw [e8, pL_i]; exact f6
  rw [f8, nI_1] at e9
  have w1 : ∀ a, ¬ a = m → h9.1 a = h6.1 a := fun a ha => by rw [e9, pI_o _ _ _ _ ha, e8, pL_i]
  have w2 : h9.2 = h8.2 := by rw [e9, pI_l]
  have v6 : h6.2 = h.2 := by rw [e6, pI_l, e4, pI_l, e2, pI_l]
  refine hQ h9 ⟨?_, fun x hx => ?_, by rw [e9, pI_s], fun x hx => ⟨?_, ?_, ?_, ?_⟩, ?_, ?_, ?_, ?_⟩
  · rw [e9, e8, e6, e4, e2]
    exact ((((Fr.pI (Or.inr (by omega))).tr (Fr.pI (Or.inr (by omega)))).tr (Fr.pI (Or.inr (by omega)))).tr (Fr.pL (Or.inr (by omega)))).tr (Fr.pI (Or.inl rfl))
  · rw [e9, pI_n _ _ _ _ (by omega), e8, pL_i, e6, pI_o _ _ _ _ (by omega), e4, pI_o _ _ _ _ (by omega), e2, pI_o _ _ _ _ (by omega)]
  · rw [w1 _ (by omega), e6, pI_o _ _ _ _ (by omega), e4, pI_o _ _ _ _ (by omega), e2, pI_n _ _ _ _ (by omega)]
  · rw [w1 _ (by omega), e6, pI_o _ _ _ _ (by omega), e4, pI_n _ _ _ _ (by omega), e2, pI_o _ _ _ _ (by omega)]
  · rw [w1 _ (by omega), e6, pI_n _ _ _ _ (by omega), e4, pI_o _ _ _ _ (by omega), e2, pI_o _ _ _ _ (by omega)]
  · rw [w2, e8, pL_n _ _ _ _ (by omega), v6]
  · rw [w1 _ (by omega), e6, pI_o _ _ _ _ (by omega), e4, pI_o _ _ _ _ (by omega), e2, pI_s]
  · rw [w1 _ (by omega), e6, pI_o _ _ _ _ (by omega), e4, pI_s]
  · rw [w1 _ (by omega), e6, pI_s]
  · rw [w2, e8, pL_s]
theorem iteI {p : Prop} [Decidable p] (a b : Nat) : nI (if p then a else b) = if p then nI a else nI b := by split <;> rfl
def sgM (c s0 : Nat) : Nat := if c = 60 then 13 else if c = 47 then 15 else if c = 42 then 10 else if c = 45 then 9 else if c = 43 then 8 else s0
theorem sg_ok : ∀ c : Fin 256, sgM c.1 (if c.1 = 59 then 4 else if c.1 = 61 then 5 else if c.1 = 40 then 6 else if c.1 = 41 then 7 else 3) = mkK (sgK c.1) := by decide +kernel
theorem P_sign {r : TR} {h : TH} {m T c i : Nat} {x : Int32} {Q : Int32 → TH → Prop} (hr : RMo r m) (hT : T < 403) (e : h.1 m 10 = nI T) (hc : c < 256) (hQ : ∀ h', TokH m T (nI (mkK (sgK c))) (nI i) 0 0 h h' → Q 1 h') : D_Mo_sign r m (nI i) (nI c) x h Q := by
  have nc : ∀ d : Nat, d < 256 → (nI c = nI d ↔ c = d) := fun d hd => nI_eq (by omega) (by omega)
  have t85 : ∀ s, nI (if c = 60 then 13 else s) = nI (mkK (sgK c)) → DJ_Mo_sign_85 r m (nI i) (nI c) (nI s) h Q := by
    intro s es
    unfold DJ_Mo_sign_85
    refine ⟨fun z => P_token hr hT e (fun h' t' => hQ h' ?_), fun z => P_token hr hT e (fun h' t' => hQ h' ?_)⟩
    · rw [if_neg (fun w => z ((nc 60 (by omega)).mpr w))] at es; rw [← es]; exact t'
    · rw [if_pos ((nc 60 (by omega)).mp z)] at es; rw [← es]; exact t'
  have t75 : ∀ s, nI (if c = 60 then 13 else if c = 47 then 15 else s) = nI (mkK (sgK c)) → DJ_Mo_sign_75 r m (nI i) (nI c) (nI s) h Q := by
    intro s es
    unfold DJ_Mo_sign_75
    refine ⟨fun z => t85 s ?_, fun z => t85 15 ?_⟩
    · rw [if_neg (show ¬ c = 47 from fun w => z ((nc 47 (by omega)).mpr w))] at es; exact es
    · rw [if_pos (show c = 47 from (nc 47 (by omega)).mp z)] at es; exact es
  have t65 : ∀ s, nI (if c = 60 then 13 else if c = 47 then 15 else if c = 42 then 10 else s) = nI (mkK (sgK c)) → DJ_Mo_sign_65 r m (nI i) (nI c) (nI s) h Q := by
    intro s es
    unfold DJ_Mo_sign_65
    refine ⟨fun z => t75 s ?_, fun z => t75 10 ?_⟩
    · rw [if_neg (show ¬ c = 42 from fun w => z ((nc 42 (by omega)).mpr w))] at es; exact es
    · rw [if_pos (show c = 42 from (nc 42 (by omega)).mp z)] at es; exact es
  have t55 : ∀ s, nI (if c = 60 then 13 else if c = 47 then 15 else if c = 42 then 10 else if c = 45 then 9 else s) = nI (mkK (sgK c)) → DJ_Mo_sign_55 r m (nI i) (nI c) (nI s) h Q := by
    intro s es
    unfold DJ_Mo_sign_55
    refine ⟨fun z => t65 s ?_, fun z => t65 9 ?_⟩
    · rw [if_neg (show ¬ c = 45 from fun w => z ((nc 45 (by omega)).mpr w))] at es; exact es
    · rw [if_pos (show c = 45 from (nc 45 (by omega)).mp z)] at es; exact es
  have t43 : ∀ s, nI (sgM c s) = nI (mkK (sgK c)) → DJ_Mo_sign_43 r m (nI i) (nI c) (nI s) h Q := by
    intro s es
    unfold sgM at es
    unfold DJ_Mo_sign_43
    refine ⟨fun z => t55 s ?_, fun z => t55 8 ?_⟩
    · rw [if_neg (show ¬ c = 43 from fun w => z ((nc 43 (by omega)).mpr w))] at es; exact es
    · rw [if_pos (show c = 43 from (nc 43 (by omega)).mp z)] at es; exact es
  have ok := sg_ok ⟨c, hc⟩
  simp only [] at ok
  unfold D_Mo_sign
  refine ⟨fun z1 => ⟨fun z2 => ⟨fun z3 => ⟨fun z4 => t43 3 ?_, fun z4 => t43 7 ?_⟩, fun z3 => t43 6 ?_⟩, fun z2 => t43 5 ?_⟩, fun z1 => t43 4 ?_⟩
  · rw [if_neg (fun w => z1 ((nc 59 (by omega)).mpr w)), if_neg (fun w => z2 ((nc 61 (by omega)).mpr w)), if_neg (fun w => z3 ((nc 40 (by omega)).mpr w)), if_neg (fun w => z4 ((nc 41 (by omega)).mpr w))] at ok; rw [ok]
  · rw [if_neg (fun w => z1 ((nc 59 (by omega)).mpr w)), if_neg (fun w => z2 ((nc 61 (by omega)).mpr w)), if_neg (fun w => z3 ((nc 40 (by omega)).mpr w)), if_pos ((nc 41 (by omega)).mp z4)] at ok; rw [ok]
  · rw [if_neg (fun w => z1 ((nc 59 (by omega)).mpr w)), if_neg (fun w => z2 ((nc 61 (by omega)).mpr w)), if_pos ((nc 40 (by omega)).mp z3)] at ok; rw [ok]
  · rw [if_neg (fun w => z1 ((nc 59 (by omega)).mpr w)), if_pos ((nc 61 (by omega)).mp z2)] at ok; rw [ok]
  · rw [if_pos ((nc 59 (by omega)).mp z1)] at ok; rw [ok]
/-- the reference's number of a word -/
def kkF (ls : List Nat) : Nat → Nat
  | 0 => 1
  | k + 1 => if wdL.getD k [] = ls then 20 + k else kkF ls k
theorem wkd_at {ls : List Nat} {w : Nat} (hw : w < 19) (e : wdL.getD w [] = ls) : wkd ls = 4 + w := wkF_at 19 0 w (Nat.zero_le _) (by omega) e (fun u _ hu z => by
  have := wdL_inj ⟨u, by omega⟩ ⟨w, hw⟩ (by rw [z, e])
  have := congrArg Fin.val this
  simp only [] at this
  omega)
theorem kkF_no {ls : List Nat} : ∀ k, (∀ v, v < k → ¬ wdL.getD v [] = ls) → kkF ls k = 1 := by
  intro k
  induction k with
  | zero => intro _; rfl
  | succ k ih => intro h; unfold kkF; rw [if_neg (h k (by omega))]; exact ih (fun v hv => h v (by omega))
theorem kkF_at {ls : List Nat} {w : Nat} (e : wdL.getD w [] = ls) (hw : w < 19) : ∀ k, w < k → k ≤ 19 → kkF ls k = 20 + w := by
  intro k
  induction k with
  | zero => intro h; omega
  | succ k ih =>
    intro h h2
    unfold kkF
    by_cases z : wdL.getD k [] = ls
    · have := wdL_inj ⟨k, by omega⟩ ⟨w, hw⟩ (by rw [z, e])
      have := congrArg Fin.val this
      simp only [] at this
      rw [if_pos z, this]
    · rw [if_neg z]
      rcases Nat.lt_or_ge w k with y | y
      · exact ih y (by omega)
      · have : w = k := by omega
        subst this; exact absurd e z
theorem kk_wkd (ls : List Nat) : kkF ls 19 = mkK (wkd ls) := by
  by_cases z : ∃ w, w < 19 ∧ wdL.getD w [] = ls
  · obtain ⟨w, hw, e⟩ := z
    rw [kkF_at e hw 19 hw (Nat.le_refl _), wkd_at hw e]
    unfold mkK
    rw [if_neg (by omega), if_neg (by omega), if_neg (by omega), if_neg (by omega), if_pos (by omega)]
    omega
  · have no : ∀ v, v < 19 → ¬ wdL.getD v [] = ls := fun v hv e => z ⟨v, hv, e⟩
    have : wkd ls = 2 := wkF_no 19 0 (fun v _ hv => no v (by omega))
    rw [kkF_no 19 no, this]; rfl
theorem kkF_lt (ls : List Nat) : ∀ k, k ≤ 19 → kkF ls k ≤ 38 := by
  intro k
  induction k with
  | zero => intro _; show (1 : Nat) ≤ 38; omega
  | succ k ih => intro h; unfold kkF; split; omega; exact ih (by omega)
