/-! tokens: the class's side, all of them -/
theorem lt_run {c : Nat → Nat} {n i : Nat} (hi : i ≤ n) : i + ltE c n i ≤ n ∧ (∀ j, j < ltE c n i → isLt (c (i + j)) = true) ∧ (i < n → (0 < ltE c n i ↔ isLt (c i) = true)) := by
  obtain ⟨a, b, d, e⟩ := runTo_p (p := fun j => isLt (c j)) (n := n) (i := i)
  have b' := b hi
  unfold ltE
  refine ⟨by omega, fun j hj => (d (i + j) (by omega) (by omega)).2, fun h => ⟨fun z => (d i (Nat.le_refl _) (by omega)).2, fun z => ?_⟩⟩
  have := runTo_s (p := fun j => isLt (c j)) h z
  have := (runTo_p (p := fun j => isLt (c j)) (n := n) (i := i + 1)).1
  omega
theorem dg_run {c : Nat → Nat} {n i : Nat} (hi : i ≤ n) : i + dgE c n i ≤ n ∧ (∀ j, j < dgE c n i → isDg (c (i + j)) = true) ∧ (i < n → (0 < dgE c n i ↔ isDg (c i) = true)) := by
  obtain ⟨a, b, d, e⟩ := runTo_p (p := fun j => isDg (c j)) (n := n) (i := i)
  have b' := b hi
  unfold dgE
  refine ⟨by omega, fun j hj => (d (i + j) (by omega) (by omega)).2, fun h => ⟨fun z => (d i (Nat.le_refl _) (by omega)).2, fun z => ?_⟩⟩
  have := runTo_s (p := fun j => isDg (c j)) h z
  have := (runTo_p (p := fun j => isDg (c j)) (n := n) (i := i + 1)).1
  omega
theorem P_scanToken {r : TR} {h : TH} {q n i j : Nat} {f : Nat → Int32} {Q : Int32 → TH → Prop} (t : TpX r h q n f) (r7 : r (q + 1) 7 = q + 26) (r9 : r (q + 1) 9 = q + 28) (hi : i ≤ n) (hj : j < 401) (hQ : ∀ h', Fr (fun a => a = q + 26 ∨ a = q + 28) h h' → (∀ x, ¬ x = j → h'.1 (q + 26) x = h.1 (q + 26) x ∧ h'.1 (q + 28) x = h.1 (q + 28) x) → h'.1 (q + 26) j = nI (tkK (fun j => byC (f j)) n i) → (2 ≤ tkK (fun j => byC (f j)) n i → tkK (fun j => byC (f j)) n i ≤ 3 → h'.1 (q + 28) j = nI (tkV (fun j => byC (f j)) n i)) → Q (nI (tkE (fun j => byC (f j)) n i)) h') : D_Rd_scanToken r (q + 1) (nI j) (nI i) h Q := by
  obtain ⟨r0, e1, n2, e2⟩ := id t
  have one : ∀ (K : Int32) (h' : TH), h' = pI h (q + 26) j K → ∀ k : Nat, K = nI k → k = tkK (fun j => byC (f j)) n i → (2 ≤ k → k ≤ 3 → False) → Q (nI (tkE (fun j => byC (f j)) n i)) h' := by
    intro K h' e k ek et no
    refine hQ h' (by rw [e]; exact Fr.pI (Or.inl rfl)) (fun x hx => ?_) (by rw [e, pI_s, ek, et]) (fun a b => absurd (no (by omega) (by omega)) id)
    rw [e, pI_n _ _ _ _ (by omega), pI_o _ _ _ _ (by omega)]; exact ⟨rfl, rfl⟩
  have two : ∀ (K V : Int32) (h1 h' : TH), h1 = pI h (q + 26) j K → h' = pI h1 (q + 28) j V → K = nI (tkK (fun j => byC (f j)) n i) → V = nI (tkV (fun j => byC (f j)) n i) → Q (nI (tkE (fun j => byC (f j)) n i)) h' := by
    intro K V h1 h' e1 e ek ev
    refine hQ h' ?_ (fun x hx => ?_) ?_ (fun _ _ => ?_)
    · rw [e, e1]; exact (Fr.pI (Or.inl rfl)).tr (Fr.pI (Or.inr rfl))
    · rw [e, e1, pI_o _ _ _ _ (by omega), pI_n _ _ _ _ (by omega), pI_n _ _ _ _ (by omega), pI_o _ _ _ _ (by omega)]; exact ⟨rfl, rfl⟩
    · rw [e, pI_o _ _ _ _ (by omega), e1, pI_s, ek]
    · rw [e, pI_s, ev]
  unfold D_Rd_scanToken
  rw [e1, r7]
  refine ⟨fun z => ?_, fun z => ⟨vp_in_nI hj (by omega), fun h33 e33 => ?_⟩⟩
  · have hin := (nI_ltI (by omega) (by omega)).mp z
    obtain ⟨l1, l2, l3⟩ := lt_run (c := fun j => byC (f j)) (n := n) (i := i) hi
    obtain ⟨d1, d2, d3⟩ := dg_run (c := fun j => byC (f j)) (n := n) (i := i) hi
    have fits : i + 1 ≤ n := by omega
    refine P_runOf (lo := 97) (hi := 122) (p := fun j => isLt (byC (f j))) t hi (fun j hj => (by_ok (e2 j hj).2).2.2.1) ?_
    show ((nI (ltE (fun j => byC (f j)) n i) ≤ 0 → _) ∧ (¬ nI (ltE (fun j => byC (f j)) n i) ≤ 0 → _))
    refine ⟨fun y => ?_, fun y => ?_⟩
    · have L0 : ¬ 0 < ltE (fun j => byC (f j)) n i := fun w => absurd y (nI_nle w (by omega))
      refine P_runOf (lo := 48) (hi := 57) (p := fun j => isDg (byC (f j))) t hi (fun j hj => (by_ok (e2 j hj).2).2.2.2.1) ?_
      show ((nI (dgE (fun j => byC (f j)) n i) ≤ 0 → _) ∧ (¬ nI (dgE (fun j => byC (f j)) n i) ≤ 0 → _))
      refine ⟨fun y2 => ⟨vp_in_nI (by omega) (by omega), ?_⟩, fun y2 => ?_⟩
      · have D0 : ¬ 0 < dgE (fun j => byC (f j)) n i := fun w => absurd y2 (nI_nle w (by omega))
        have bo := by_ok (e2 i hin).2
        have eK : tkK (fun j => byC (f j)) n i = sgK (byC (f i)) := by unfold tkK; rw [if_neg (by omega), if_neg L0, if_neg D0]
        have eE : tkE (fun j => byC (f j)) n i = i + 1 := by unfold tkE; rw [if_neg (by omega), if_neg L0, if_neg D0]
        rw [r0, nI_clamp (n := i) (by omega), (e2 i hin).1, bo.2.1, jch8 ⟨byC (f i), bo.1⟩]
        have sg := ix_sg ⟨byC (f i), bo.1⟩
        simp only [] at sg
        rw [eE, ← nI_1] at one
        refine P_indexOf (len := 9) (Or.inl rfl) rfl (by omega) (by omega) bo.1 ?_
        rcases sg with ⟨s1, s2⟩ | ⟨s1, s2, s3⟩
        · rw [s2]
          refine ⟨fun w => absurd w (by decide), fun _ => ⟨vp_in_nI hj (by omega), fun h17 e17 => ?_⟩⟩
          rw [nI_clamp (n := j) (by omega)] at e17
          exact one 1 h17 e17 1 rfl (by rw [eK, s1]) (fun a b => by omega)
        · rw [s3]
          refine ⟨fun _ => ⟨vp_in_nI hj (by omega), fun h16 e16 => ?_⟩, fun w => absurd (nI_pos' (by omega)) w⟩
          rw [nI_clamp (n := j) (by omega)] at e16
          exact one _ h16 e16 (sgK (byC (f i))) (by show nI 23 + nI (sgK (byC (f i)) - 23) = _; rw [nI_add]; congr 1; omega) (by rw [eK]) (fun a b => by omega)
      · have D1 : 0 < dgE (fun j => byC (f j)) n i := by
          rcases Nat.eq_zero_or_pos (dgE (fun j => byC (f j)) n i) with w | w
          · rw [w] at y2; exact absurd (Int32.le_refl _) y2
          · exact w
        have eE : tkE (fun j => byC (f j)) n i = i + dgE (fun j => byC (f j)) n i := by unfold tkE; rw [if_neg (by omega), if_neg L0, if_pos D1]
        have eV : tkV (fun j => byC (f j)) n i = nuF (fun j => byC (f j)) i (min (dgE (fun j => byC (f j)) n i) 4) := by unfold tkV; rw [if_neg L0]
        have em : (if (4 : Int32) < nI (dgE (fun j => byC (f j)) n i) then 4 else nI (dgE (fun j => byC (f j)) n i)) = nI (min (dgE (fun j => byC (f j)) n i) 4) := by
          by_cases w : 4 < dgE (fun j => byC (f j)) n i
          · rw [if_pos (show (4 : Int32) < nI _ from nI_lt (a := 4) w (by omega)), show min (dgE (fun j => byC (f j)) n i) 4 = 4 by omega]; rfl
          · rw [if_neg (show ¬ (4 : Int32) < nI (dgE (fun j => byC (f j)) n i) from fun u => w ((nI_ltI (a := 4) (by omega) (by omega)).mp u)), show min (dgE (fun j => byC (f j)) n i) 4 = dgE (fun j => byC (f j)) n i by omega]
        have go : ∀ K : Nat, K = tkK (fun j => byC (f j)) n i → DJ_Rd_scanToken_96 r (q + 1) (nI j) (nI i) (nI (dgE (fun j => byC (f j)) n i)) (nI K) (nI j) (q + 26) h Q := by
          intro K eK
          unfold DJ_Rd_scanToken_96
          refine ⟨vp_in_nI hj (by omega), fun h20 e20 => ?_⟩
          rw [nI_clamp (n := j) (by omega)] at e20
          rw [em]
          have t20 : TpX r h20 q n f := t.mv (by rw [e20, pI_o _ _ _ _ (by omega)]) (by rw [e20, pI_o _ _ _ _ (by omega)])
          refine P_numberAt t20 (by omega) (by omega) (fun k hk => d2 k (by omega)) ⟨vp_in_nI hj (by omega), fun h24 e24 => ?_⟩
          rw [r9, nI_clamp (n := j) (by omega)] at e24
          rw [nI_add, ← eE]
          exact two _ _ h20 h24 e20 e24 (by rw [eK]) (by rw [eV])
        refine ⟨fun w => go 3 ?_, fun w => go 1 ?_⟩
        · have w' := (nI_leI (a := dgE (fun j => byC (f j)) n i) (b := 4) (by omega) (by omega)).mp w
          unfold tkK; rw [if_neg (by omega), if_neg L0, if_pos D1, if_neg (by omega)]
        · have w' : ¬ dgE (fun j => byC (f j)) n i ≤ 4 := fun u => w (nI_le (a := dgE (fun j => byC (f j)) n i) (b := 4) u (by omega))
          unfold tkK; rw [if_neg (by omega), if_neg L0, if_pos D1, if_pos (by omega)]
    · have L1 : 0 < ltE (fun j => byC (f j)) n i := by
        rcases Nat.eq_zero_or_pos (ltE (fun j => byC (f j)) n i) with w | w
        · rw [w] at y; exact absurd (Int32.le_refl _) y
        · exact w
      have eE : tkE (fun j => byC (f j)) n i = i + ltE (fun j => byC (f j)) n i := by unfold tkE; rw [if_neg (by omega), if_pos L1]
      have eV : tkV (fun j => byC (f j)) n i = ltE (fun j => byC (f j)) n i := by unfold tkV; rw [if_pos L1]
      have go : ∀ K : Nat, K = tkK (fun j => byC (f j)) n i → DJ_Rd_scanToken_52 r (q + 1) (nI j) (nI i) (nI (ltE (fun j => byC (f j)) n i)) (nI K) (nI j) (q + 26) h Q := by
        intro K eK
        unfold DJ_Rd_scanToken_52
        refine ⟨vp_in_nI hj (by omega), fun h20 e20 => ⟨vp_in_nI hj (by omega), fun h24 e24 => ?_⟩⟩
        rw [nI_clamp (n := j) (by omega)] at e20
        rw [r9, nI_clamp (n := j) (by omega)] at e24
        rw [nI_add, ← eE]
        exact two _ _ h20 h24 e20 e24 (by rw [eK]) (by rw [eV])
      refine ⟨fun w => ?_, fun w => go 1 ?_⟩
      · have w' := (nI_leI (a := ltE (fun j => byC (f j)) n i) (b := 8) (by omega) (by omega)).mp w
        refine P_kindOfWord t w' l1 l2 (go _ ?_)
        unfold tkK; rw [if_neg (by omega), if_pos L1, if_neg (by omega)]; rfl
      · have w' : ¬ ltE (fun j => byC (f j)) n i ≤ 8 := fun u => w (nI_le (a := ltE (fun j => byC (f j)) n i) (b := 8) u (by omega))
        unfold tkK; rw [if_neg (by omega), if_pos L1, if_pos (by omega)]
  · have z' : n ≤ i := by
      rcases Nat.lt_or_ge i n with w | w
      · exact absurd (nI_lt w (by omega)) z
      · exact w
    rw [nI_clamp (n := j) (by omega)] at e33
    have eE : tkE (fun j => byC (f j)) n i = i := by unfold tkE; rw [if_pos z']
    rw [eE] at one
    exact one 0 h33 e33 0 rfl (by unfold tkK; rw [if_pos z']) (fun a b => by omega)
/-- the last token that is looked at -/
def stp (c : Nat → Nat) (n J : Nat) : Prop := J ≤ 400 ∧ (∀ j, j < J → 2 ≤ kdT c n j) ∧ (J = 400 ∨ kdT c n J ≤ 1)
def TkX (h : TH) (q : Nat) (c : Nat → Nat) (n J : Nat) : Prop := ∀ j, j ≤ J → h.1 (q + 26) j = nI (kdT c n j) ∧ h.1 (q + 27) j = nI (plT c n j) ∧ (2 ≤ kdT c n j → kdT c n j ≤ 3 → h.1 (q + 28) j = nI (vaT c n j))
theorem kdT_lt (c : Nat → Nat) (n j : Nat) : kdT c n j ≤ 31 := by
  unfold kdT tkK
  split
  · omega
  · split
    · split
      · omega
      · have := wkd_le (nmL c (plT c n j) (ltE c n (plT c n j))); omega
    · split
      · split <;> omega
      · unfold sgK
        split
        · omega
        · split
          · omega
          · split
            · omega
            · split
              · omega
              · split
                · omega
                · split
                  · omega
                  · split
                    · omega
                    · split
                      · omega
                      · split <;> omega
theorem P_scan {r : TR} {h : TH} {q n : Nat} {f : Nat → Int32} {Q : TH → Prop} (t : TpX r h q n f) (r7 : r (q + 1) 7 = q + 26) (r8 : r (q + 1) 8 = q + 27) (r9 : r (q + 1) 9 = q + 28) (hQ : ∀ h' J, Fr (fun a => q + 26 ≤ a ∧ a ≤ q + 28) h h' → stp (fun j => byC (f j)) n J → TkX h' q (fun j => byC (f j)) n J → Q h') : D_Rd_scan r (q + 1) h Q := by
  have n2 := t.2.2.1
  unfold D_Rd_scan
  refine lp_for 401 (fun j s => ∃ h', s = (nI (posT (fun j => byC (f j)) n j), nI j, h') ∧ Fr (fun a => q + 26 ≤ a ∧ a ≤ q + 28) h h' ∧ ∀ u, u < j → 2 ≤ kdT (fun j => byC (f j)) n u ∧ h'.1 (q + 26) u = nI (kdT (fun j => byC (f j)) n u) ∧ h'.1 (q + 27) u = nI (plT (fun j => byC (f j)) n u) ∧ (2 ≤ kdT (fun j => byC (f j)) n u → kdT (fun j => byC (f j)) n u ≤ 3 → h'.1 (q + 28) u = nI (vaT (fun j => byC (f j)) n u))) ?_ ?_ _ ⟨h, rfl, Fr.rf, fun u hu => by omega⟩
  · rintro j s K hj ⟨h', rfl, f', g'⟩ hK
    have pl := posT_le (c := fun j => byC (f j)) (n := n) j
    have kl := kdT_lt (fun j => byC (f j)) n j
    have t' : TpX r h' q n f := t.mv (by rw [(f' (q + 1) (by omega)).1]) ((f' (q + 2) (by omega)).1)
    unfold DB_Rd_scan_4
    refine ⟨fun z => absurd ((nI_ltI (a := 400) (by omega) (by omega)).mp z) (by omega), fun _ => ?_⟩
    refine P_behindBlanks t' pl.1 ⟨vp_in_nI hj (by omega), fun h8 e8 => ?_⟩
    rw [r8, nI_clamp (n := j) (by omega)] at e8
    have t8 : TpX r h8 q n f := t'.mv (by rw [e8, pI_o _ _ _ _ (by omega)]) (by rw [e8, pI_o _ _ _ _ (by omega)])
    refine P_scanToken t8 r7 r9 pl.2 hj (fun h9 f9 k9 e9 v9 => ?_)
    have ff : Fr (fun a => q + 26 ≤ a ∧ a ≤ q + 28) h h9 := (f'.tr (by rw [e8]; exact Fr.pI (by omega))).tr (f9.mono (fun a ha => by omega))
    have e27 : h9.1 (q + 27) = h8.1 (q + 27) := (f9 _ (by omega)).1
    have g9 : ∀ u, u ≤ j → h9.1 (q + 26) u = nI (kdT (fun j => byC (f j)) n u) ∧ h9.1 (q + 27) u = nI (plT (fun j => byC (f j)) n u) ∧ (2 ≤ kdT (fun j => byC (f j)) n u → kdT (fun j => byC (f j)) n u ≤ 3 → h9.1 (q + 28) u = nI (vaT (fun j => byC (f j)) n u)) := by
      intro u hu
      by_cases e : u = j
      · subst e
        exact ⟨e9, by rw [e27, e8, pI_s]; rfl, v9⟩
      · have g := g' u (by omega)
        rw [(k9 u e).1, (k9 u e).2, e27, e8, pI_o _ _ _ _ (by omega), pI_n _ _ _ _ (by omega), pI_o _ _ _ _ (by omega)]
        exact g.2
    rw [r7, nI_clamp (n := j) (by omega), e9]
    have stop : kdT (fun j => byC (f j)) n j ≤ 1 → Q h9 := fun w => hQ h9 j ff ⟨by omega, fun u hu => (g' u hu).1, Or.inr w⟩ g9
    refine ⟨vp_in_nI hj (by omega), fun z => stop ?_, fun z => ⟨vp_in_nI hj (by omega), fun z2 x16 e16 => ?_, fun z2 => stop ?_⟩⟩
    · have : kdT (fun j => byC (f j)) n j = 0 := (nI_eq (b := 0) (by omega) (by omega)).mp z
      omega
    · rw [nI_1] at e16; subst e16
      refine hK _ ⟨h9, rfl, ff, fun u hu => ⟨?_, g9 u (by omega)⟩⟩
      by_cases e : u = j
      · subst e
        have a : ¬ kdT (fun j => byC (f j)) n u = 0 := fun w => z (by show nI (kdT (fun j => byC (f j)) n u) = 0; rw [w]; rfl)
        have b : ¬ kdT (fun j => byC (f j)) n u = 1 := fun w => z2 (by show nI (kdT (fun j => byC (f j)) n u) = 1; rw [w]; rfl)
        omega
      · exact (g' u (by omega)).1
    · have : kdT (fun j => byC (f j)) n j = 1 := (nI_eq (b := 1) (by omega) (by omega)).mp z2
      omega
  · rintro s K ⟨h', rfl, f', g'⟩
    unfold DB_Rd_scan_4
    refine ⟨fun _ => hQ h' 400 f' ⟨by omega, fun u hu => (g' u (by omega)).1, Or.inl rfl⟩ (fun u hu => (g' u (by omega)).2), fun z => absurd (nI_lt (a := 400) (by omega) (by omega)) z⟩
