/-! tokens: the class's side -/
def TpX (r : TR) (h : TH) (q n : Nat) (f : Nat → Int32) : Prop := r (q + 1) 0 = q + 2 ∧ h.1 (q + 1) 1 = nI n ∧ n ≤ 2000 ∧ ∀ i, i < n → h.1 (q + 2) i = f i ∧ isB (f i)
theorem TpX.mv {r : TR} {h h' : TH} {q n : Nat} {f : Nat → Int32} (e1 : h'.1 (q + 1) 1 = h.1 (q + 1) 1) (e2 : h'.1 (q + 2) = h.1 (q + 2)) (t : TpX r h q n f) : TpX r h' q n f := ⟨t.1, e1.trans t.2.1, t.2.2.1, fun i hi => by rw [e2]; exact t.2.2.2 i hi⟩
theorem P_isBlank {r : TR} {h : TH} {x : Int32} {Q : Int32 → TH → Prop} (hx : isB x) (h1 : isBl (byC x) = true → Q 1 h) (h0 : isBl (byC x) = false → Q 0 h) : D_Rd_isBlank r x h Q := by
  have e := (by_ok hx).2.2.2.2.1
  unfold D_Rd_isBlank
  refine ⟨fun a => h1 (e.mp (Or.inl a)), fun a => ⟨fun b => h1 (e.mp (Or.inr (Or.inl b))), fun b => ⟨fun d => h1 (e.mp (Or.inr (Or.inr (Or.inl d)))), fun d => ⟨fun g => h0 (bf_of (fun z => ?_)), fun g => h1 (e.mp (Or.inr (Or.inr (Or.inr g))))⟩⟩⟩⟩
  rcases e.mpr z with w | w | w | w
  · exact a w
  · exact b w
  · exact d w
  · exact g w
theorem P_behindBlanks {r : TR} {h : TH} {q n i : Nat} {f : Nat → Int32} {Q : Int32 → TH → Prop} (t : TpX r h q n f) (hi : i ≤ n) (hQ : Q (nI (blE (fun j => byC (f j)) n i)) h) : D_Rd_behindBlanks r (q + 1) (nI i) h Q := by
  obtain ⟨r0, e1, n2, e2⟩ := t
  unfold D_Rd_behindBlanks
  refine lp_inv (fun s => ∃ j, s = (nI j, h) ∧ j ≤ n ∧ blE (fun j => byC (f j)) n i = blE (fun j => byC (f j)) n j) (fun s => n - s.1.toNatClampNeg) ?_ _ ⟨i, rfl, hi, rfl⟩
  rintro K s ⟨j, rfl, hj, eb⟩ hK
  unfold DB_Rd_behindBlanks_2
  rw [e1, r0, nI_clamp (n := j) (by omega)]
  refine ⟨fun z => ?_, fun z => ?_⟩
  · have z' := (nI_leI (by omega) (by omega)).mp z
    have : blE (fun j => byC (f j)) n j = j := runTo_x (by omega)
    rw [eb, this] at hQ
    exact hQ
  · have z' : j < n := by
      rcases Nat.lt_or_ge j n with w | w
      · exact w
      · exact absurd (nI_le w (by omega)) z
    refine ⟨vp_in_nI (by omega) (by omega), ?_⟩
    rw [(e2 j z').1]
    refine P_isBlank (e2 j z').2 (fun y => ⟨fun u => absurd u z01, fun _ x7 e7 => ?_⟩) (fun y => ⟨fun _ => ?_, fun u => absurd rfl u⟩)
    · rw [nI_1] at e7; subst e7
      refine hK _ ⟨j + 1, rfl, by omega, ?_⟩ ?_
      · rw [eb]; exact runTo_s z' y
      · show n - (nI (j + 1)).toNatClampNeg < n - (nI j).toNatClampNeg
        rw [nI_clamp (by omega), nI_clamp (by omega)]; omega
    · have : blE (fun j => byC (f j)) n j = j := runTo_x (fun w => by rw [y] at w; exact absurd w.2 (by decide))
      rw [eb, this] at hQ
      exact hQ
theorem P_runOf {r : TR} {h : TH} {q n i lo hi : Nat} {f : Nat → Int32} {p : Nat → Bool} {Q : Int32 → TH → Prop} (t : TpX r h q n f) (hin : i ≤ n) (hp : ∀ j, j < n → ((¬ f j < nI lo ∧ ¬ nI hi < f j) ↔ p j = true)) (hQ : Q (nI (runTo p n i - i)) h) : D_Rd_runOf r (q + 1) (nI i) (nI lo) (nI hi) h Q := by
  obtain ⟨r0, e1, n2, e2⟩ := t
  have fin : ∀ j, i ≤ j → j ≤ n → runTo p n i = j → Q (nI j - nI i) h := fun j a b e => by rw [pk_sub a, ← e]; exact hQ
  unfold D_Rd_runOf
  refine lp_inv (fun s => ∃ j, s = (nI j, h) ∧ i ≤ j ∧ j ≤ n ∧ runTo p n i = runTo p n j) (fun s => n - s.1.toNatClampNeg) ?_ _ ⟨i, rfl, Nat.le_refl _, hin, rfl⟩
  rintro K s ⟨j, rfl, hij, hj, eb⟩ hK
  unfold DB_Rd_runOf_3
  rw [e1, r0, nI_clamp (n := j) (by omega)]
  refine ⟨fun z => ?_, fun z => ?_⟩
  · have z' := (nI_leI (by omega) (by omega)).mp z
    exact fin j hij hj (by rw [eb]; exact runTo_x (by omega))
  · have z' : j < n := by
      rcases Nat.lt_or_ge j n with w | w
      · exact w
      · exact absurd (nI_le w (by omega)) z
    rw [(e2 j z').1]
    have pj := hp j z'
    refine ⟨vp_in_nI (by omega) (by omega), fun y => fin j hij hj ?_, fun y => ⟨vp_in_nI (by omega) (by omega), fun y2 => fin j hij hj ?_, fun y2 x7 e7 => ?_⟩⟩
    · rw [eb]; exact runTo_x (fun w => (pj.mpr w.2).1 y)
    · rw [eb]; exact runTo_x (fun w => (pj.mpr w.2).2 y2)
    · rw [nI_1] at e7; subst e7
      refine hK _ ⟨j + 1, rfl, by omega, by omega, ?_⟩ ?_
      · rw [eb]; exact runTo_s z' (pj.mp ⟨y, y2⟩)
      · show n - (nI (j + 1)).toNatClampNeg < n - (nI j).toNatClampNeg
        rw [nI_clamp (by omega), nI_clamp (by omega)]; omega
/-! the three texts -/
def wch (i : Nat) : Nat := (chS 0 (nI i)).toNatClampNeg
theorem wch_ok : ∀ i : Fin 152, chS 0 (nI i.1) = nI (wch i.1) ∧ wch i.1 < 128 := by decide +kernel
theorem wch_wd : ∀ w : Fin 19, ∀ i : Fin 8, wch (8 * w.1 + i.1) = if i.1 < (wdL.getD w.1 []).length then 96 + (wdL.getD w.1 []).getD i.1 0 else 32 := by decide +kernel
theorem nar_ch : ∀ c : Fin 128, jchar (nI c.1 &&& 255) = nI c.1 ∧ narrow .char (.int (nI c.1)) = .int (nI c.1) ∧ jchar (nI c.1) = nI c.1 := by decide +kernel
theorem P_charAt {r : TR} {h : TH} {i : Nat} {Q : Int32 → TH → Prop} (hi : i < 152) (hQ : Q (nI (wch i)) h) : D_St_charAt r 0 (nI i) h Q := by
  have a := wch_ok ⟨i, hi⟩
  simp only [] at a
  have b := nar_ch ⟨wch i, a.2⟩
  simp only [] at b
  unfold D_St_charAt D_St_isLatin1
  refine ⟨fun z => absurd z z01, fun _ => ⟨fun z => absurd rfl z, fun _ => ⟨fun z => absurd z z01, fun _ => ?_⟩⟩⟩
  unfold D_La_charAt D_St_checkIndex
  rw [a.1, b.1]
  refine ⟨nI_pos (by omega), nI_lt (a := i) (b := 152) hi (by omega), vp_in_nI hi (by decide), b.2.1, b.2.1, hQ⟩
def ixF (o : Nat) (v : Int32) : Nat → Nat → Int32
  | 0, _ => -1
  | k + 1, j => if chS o (nI j) = v then nI j else ixF o v k (j + 1)
theorem P_indexOf {r : TR} {h : TH} {o c len : Nat} {Q : Int32 → TH → Prop} (ho : o = 1 ∨ o = 2) (hl : lenS.getD o 0 = len) (hl0 : 0 < len) (hl1 : len < 100) (hc : c < 256) (hQ : Q (ixF o (nI c).toInt8.toInt32 len 0) h) : D_St_indexOf r o (nI c) h Q := by
  have e0 : (Int32.ofNat len) >>> ((0 : Int32) &&& 31) = nI len := by
    have : ((0 : Int32) &&& 31) = 0 := by decide
    rw [this]
    exact pk_shrN (n := len) (by omega) 0 0 (by decide) |>.trans (by rw [Nat.pow_zero, Nat.div_one])
  unfold D_St_indexOf D_St_indexOf2 D_St_isLatin1
  refine ⟨fun z => absurd z z01, fun _ => ⟨fun z => absurd rfl z, fun _ => ⟨fun z => absurd z z01, fun _ => ?_⟩⟩⟩
  unfold D_St_length D_St_coder
  rw [hl]
  refine ⟨fun z => absurd z z01, fun _ => ⟨by decide, ?_⟩⟩
  show D_La_indexOf r o (nI c) 0 (Int32.ofNat len >>> ((0 : Int32) &&& 31)) h (fun x9 h8 => Q x9 h8)
  rw [e0]
  unfold D_La_indexOf D_La_canEncode
  rw [hl]
  refine ⟨fun z => absurd z (nI_pos (by omega)), fun _ => ⟨fun z => absurd ((nI_ltI (a := 255) (by omega) (by omega)).mp z) (by omega), fun _ => ⟨fun _ x4 e4 x5 e5 => ?_, fun z => absurd z z01⟩⟩⟩
  have e4' : x4 = nI 0 := by rw [e4]; rfl
  have e5' : x5 = nI len := by rw [e5]; exact (ite_self _)
  subst e4'; subst e5'
  refine ⟨fun _ => ?_, fun z => absurd (nI_lt hl0 (by omega)) z⟩
  unfold D_La_indexOfChar
  refine lp_for len (fun j t => t = (nI j, h) ∧ ixF o (nI c).toInt8.toInt32 len 0 = ixF o (nI c).toInt8.toInt32 (len - j) j) ?_ ?_ _ ⟨rfl, rfl⟩
  · rintro j t K hj ⟨rfl, ex⟩ hK
    rw [show len - j = (len - (j + 1)) + 1 by omega] at ex
    unfold DB_La_indexOfChar_7
    rw [hl]
    refine ⟨fun z => absurd ((nI_leI (by omega) (by omega)).mp z) (by omega), fun _ => ⟨vp_in_nI hj (by omega), fun y x5 e5 => ?_, fun y => ?_⟩⟩
    · rw [nI_1] at e5; subst e5
      refine hK _ ⟨rfl, ?_⟩
      rw [ex]; conv => lhs; unfold ixF
      rw [if_neg y]
    · have e : ixF o (nI c).toInt8.toInt32 (len - (j + 1) + 1) j = nI j := by conv => lhs; unfold ixF
                                                                              rw [if_pos y]
      rw [ex, e] at hQ
      exact hQ
  · rintro t K ⟨rfl, ex⟩
    rw [Nat.sub_self] at ex
    unfold DB_La_indexOfChar_7
    refine ⟨fun _ => ?_, fun z => absurd (Int32.le_refl _) z⟩
    rw [ex] at hQ
    exact hQ
theorem ix_sg : ∀ c : Fin 256, (sgK c.1 = 1 ∧ ixF 1 (nI c.1).toInt8.toInt32 9 0 = -1) ∨ (23 ≤ sgK c.1 ∧ sgK c.1 ≤ 31 ∧ ixF 1 (nI c.1).toInt8.toInt32 9 0 = nI (sgK c.1 - 23)) := by decide +kernel
theorem jch8 : ∀ c : Fin 256, jchar (nI c.1) = nI c.1 := by decide +kernel
/-- a word, letter by letter -/
theorem wd_eq {w : Nat} {ls : List Nat} (hw : w < 19) (hl : ls.length ≤ 8) (hls : ltL ls) : (∀ i, i < 8 → wch (8 * w + i) = if i < ls.length then 96 + ls.getD i 0 else 32) ↔ wdL.getD w [] = ls := by
  have W := wdL_ok ⟨w, hw⟩
  simp only [] at W
  have X : ∀ i, i < 8 → wch (8 * w + i) = if i < (wdL.getD w []).length then 96 + (wdL.getD w []).getD i 0 else 32 := fun i hi => wch_wd ⟨w, hw⟩ ⟨i, hi⟩
  have pos : ∀ (l : List Nat), ltL l → ∀ i, i < l.length → 1 ≤ l.getD i 0 := by
    intro l hl i hi
    rw [List.getD_eq_getElem?_getD, List.getElem?_eq_getElem hi]
    exact (hl _ (List.getElem_mem hi)).1
  refine ⟨fun h => ?_, fun h i hi => by rw [X i hi, h]⟩
  have len : (wdL.getD w []).length = ls.length := by
    rcases Nat.lt_trichotomy (wdL.getD w []).length ls.length with z | z | z
    · have a := h (wdL.getD w []).length (by omega)
      rw [X _ (by omega), if_neg (by omega), if_pos z] at a
      have := pos ls hls _ z
      omega
    · exact z
    · have a := h ls.length (by omega)
      rw [X _ (by omega), if_pos z, if_neg (by omega)] at a
      have := pos _ W.2.2 _ z
      omega
  apply List.ext_getElem len
  intro i h1 h2
  have a := h i (by omega)
  rw [X i (by omega), if_pos h1, if_pos h2] at a
  have e1 : (wdL.getD w []).getD i 0 = (wdL.getD w [])[i] := by rw [List.getD_eq_getElem?_getD, List.getElem?_eq_getElem h1]; rfl
  have e2 : ls.getD i 0 = ls[i] := by rw [List.getD_eq_getElem?_getD, List.getElem?_eq_getElem h2]; rfl
  rw [e1, e2] at a
  omega
theorem P_isWord {r : TR} {h : TH} {q n i k w : Nat} {f : Nat → Int32} {Q : Int32 → TH → Prop} (t : TpX r h q n f) (hw : w < 19) (hk : k ≤ 8) (hik : i + k ≤ n) (hlt : ∀ j, j < k → isLt (byC (f (i + j))) = true) (h1 : wdL.getD w [] = nmL (fun j => byC (f j)) i k → Q 1 h) (h0 : ¬ wdL.getD w [] = nmL (fun j => byC (f j)) i k → Q 0 h) : D_Rd_isWord r (q + 1) (nI w) (nI i) (nI k) h Q := by
  obtain ⟨r0, e1, n2, e2⟩ := t
  have wq := wd_eq (w := w) (ls := nmL (fun j => byC (f j)) i k) hw (by rw [nmL_len]; exact hk) (nmL_lt hlt)
  rw [nmL_len] at wq
  have lt := fun j (hj : j < k) => isLt_i.mp (hlt j hj)
  unfold D_Rd_isWord
  refine lp_for 8 (fun j t => t = (nI j, h) ∧ ∀ u, u < j → wch (8 * w + u) = if u < k then 96 + (nmL (fun j => byC (f j)) i k).getD u 0 else 32) ?_ ?_ _ ⟨rfl, fun u hu => by omega⟩
  · rintro j t K hj ⟨rfl, ex⟩ hK
    have nx : (wch (8 * w + j) = if j < k then 96 + (nmL (fun j => byC (f j)) i k).getD j 0 else 32) → ∀ y : Int32, y = nI j + 1 → K (y, h) := by
      intro e y ey
      rw [nI_1] at ey; subst ey
      refine hK _ ⟨rfl, fun u hu => ?_⟩
      rcases Nat.lt_or_ge u j with z | z
      · exact ex u z
      · have : u = j := by omega
        subst this; exact e
    have wl := (wch_ok ⟨8 * w + j, by omega⟩).2
    simp only [] at wl
    have ei : (8 : Int32) * nI w + nI j = nI (8 * w + j) := by show nI 8 * nI w + nI j = _; rw [pk_mul, nI_add]
    unfold DB_Rd_isWord_3
    refine ⟨fun z => absurd ((nI_leI (a := 8) (by omega) (by omega)).mp z) (by omega), fun _ => ⟨fun z => ?_, fun z i10 e10 => ?_⟩⟩
    · have z' := (nI_leI (by omega) (by omega)).mp z
      unfold DJ_Rd_isWord_31
      rw [ei]
      refine P_charAt (by omega) ⟨fun y => nx ?_, fun y => h0 (fun e => y ?_)⟩
      · rw [if_neg (by omega)]; exact (nI_eq (b := 32) (by omega) (by omega)).mp y
      · have := wq.mpr e j hj
        rw [if_neg (by omega)] at this
        rw [this]; rfl
    · have z' : j < k := by
        rcases Nat.lt_or_ge j k with u | u
        · exact u
        · exact absurd (nI_le u (by omega)) z
      have e10' : i10 = nI (i + j) := by rw [e10, nI_add]
      subst e10'
      have l := lt j z'
      have eb := (by_ok (e2 (i + j) (by omega)).2).2.2.2.2.2 (by omega)
      refine ⟨vp_in_nI (by omega) (by omega), ?_⟩
      unfold DJ_Rd_isWord_31
      rw [ei, r0, nI_clamp (n := i + j) (by omega), (e2 (i + j) (by omega)).1, eb, jch8 ⟨byC (f (i + j)), by omega⟩]
      have ln : (nmL (fun j => byC (f j)) i k).getD j 0 = byC (f (i + j)) - 96 := nmL_at _ _ _ _ z'
      refine P_charAt (by omega) ⟨fun y => nx ?_, fun y => h0 (fun e => y ?_)⟩
      · rw [if_pos z', ln]
        have y' : nI (wch (8 * w + j)) = nI (byC (f (i + j))) := y
        have := (nI_eq (by omega) (by omega)).mp y'
        omega
      · have := wq.mpr e j hj
        rw [if_pos z', ln] at this
        show nI (wch (8 * w + j)) = nI (byC (f (i + j)))
        congr 1
        omega
  · rintro t K ⟨rfl, ex⟩
    unfold DB_Rd_isWord_3
    exact ⟨fun _ => h1 (wq.mp ex), fun z => absurd (show (8 : Int32) ≤ nI 8 from Int32.le_refl _) z⟩
theorem P_kindOfWord {r : TR} {h : TH} {q n i k : Nat} {f : Nat → Int32} {Q : Int32 → TH → Prop} (t : TpX r h q n f) (hk : k ≤ 8) (hik : i + k ≤ n) (hlt : ∀ j, j < k → isLt (byC (f (i + j))) = true) (hQ : Q (nI (wkd (nmL (fun j => byC (f j)) i k))) h) : D_Rd_kindOfWord r (q + 1) (nI i) (nI k) h Q := by
  have n2 := t.2.2.1
  unfold D_Rd_kindOfWord
  refine lp_for 19 (fun w s => s = (nI w, h) ∧ ∀ v, v < w → ¬ wdL.getD v [] = nmL (fun j => byC (f j)) i k) ?_ ?_ _ ⟨rfl, fun v hv => by omega⟩
  · rintro w s K hw ⟨rfl, ex⟩ hK
    unfold DB_Rd_kindOfWord_2
    refine ⟨fun z => absurd ((nI_leI (a := 19) (by omega) (by omega)).mp z) (by omega), fun _ => ?_⟩
    refine P_isWord t hw hk hik hlt (fun e => ⟨fun u => absurd u z01, fun _ => ?_⟩) (fun e => ⟨fun _ x6 e6 => ?_, fun u => absurd rfl u⟩)
    · have a : wkd (nmL (fun j => byC (f j)) i k) = 4 + w := wkF_at 19 0 w (Nat.zero_le _) (by omega) e (fun u _ hu => ex u hu)
      rw [a] at hQ
      rw [show (4 : Int32) + nI w = nI (4 + w) from nI_add 4 w]
      exact hQ
    · rw [nI_1] at e6; subst e6
      refine hK _ ⟨rfl, fun v hv => ?_⟩
      rcases Nat.lt_or_ge v w with z | z
      · exact ex v z
      · have : v = w := by omega
        subst this; exact e
  · rintro s K ⟨rfl, ex⟩
    unfold DB_Rd_kindOfWord_2
    refine ⟨fun _ => ?_, fun z => absurd (show (19 : Int32) ≤ nI 19 from Int32.le_refl _) z⟩
    have a : wkd (nmL (fun j => byC (f j)) i k) = 2 := wkF_no 19 0 (fun v _ hv => ex v (by omega))
    rw [a] at hQ
    exact hQ
theorem P_numberAt {r : TR} {h : TH} {q n i k : Nat} {f : Nat → Int32} {Q : Int32 → TH → Prop} (t : TpX r h q n f) (hk : k ≤ 4) (hik : i + k ≤ n) (hdg : ∀ j, j < k → isDg (byC (f (i + j))) = true) (hQ : Q (nI (nuF (fun j => byC (f j)) i k)) h) : D_Rd_numberAt r (q + 1) (nI i) (nI k) h Q := by
  obtain ⟨r0, e1, n2, e2⟩ := t
  unfold D_Rd_numberAt
  refine lp_for k (fun j s => s = (nI (nuF (fun j => byC (f j)) i j), nI j, h)) ?_ ?_ _ rfl
  · rintro j s K hj rfl hK
    have d := isDg_i.mp (hdg j hj)
    have eb := (by_ok (e2 (i + j) (by omega)).2).2.2.2.2.2 (by omega)
    unfold DB_Rd_numberAt_5
    refine ⟨fun z => absurd ((nI_leI (by omega) (by omega)).mp z) (by omega), fun _ i5 e5 => ?_⟩
    have e5' : i5 = nI (i + j) := by rw [e5, nI_add]
    subst e5'
    rw [r0, nI_clamp (n := i + j) (by omega), (e2 (i + j) (by omega)).1, eb]
    refine ⟨vp_in_nI (by omega) (by omega), fun x6 e6 x7 e7 => ?_⟩
    rw [nI_1] at e7; subst e7
    have : x6 = nI (nuF (fun j => byC (f j)) i (j + 1)) := by
      rw [e6]
      show (nI 10 * nI (nuF (fun j => byC (f j)) i j) + nI (byC (f (i + j)))) - nI 48 = _
      rw [pk_mul, nI_add, pk_sub (by omega)]
      show nI _ = nI (10 * nuF (fun j => byC (f j)) i j + (byC (f (i + j)) - 48))
      congr 1
      omega
    subst this
    exact hK _ rfl
  · rintro s K rfl
    unfold DB_Rd_numberAt_5
    exact ⟨fun _ => hQ, fun z => absurd (Int32.le_refl _) z⟩
