/-! what is done: kept scenes of both sides -/
/-- another scene now, other scenes to undo -/
def putS (S : Sc) (U : List Sc) (A : St) : St := (tB A, S, U, tE A, tT A, tL A, tA A, tP A)
/-- a scene more to undo, thirty at most -/
def pushU (U : List Sc) (S : Sc) : List Sc := (U ++ [S]).drop (U.length + 1 - 30)
theorem getD_drop (l : List Sc) (k i : Nat) : (l.drop k).getD i emptyS = l.getD (k + i) emptyS := by
  simp only [List.getD_eq_getElem?_getD, List.getElem?_drop]
theorem getD_app (l : List Sc) (S : Sc) (i : Nat) (h : i < l.length) : (l ++ [S]).getD i emptyS = l.getD i emptyS := by
  simp only [List.getD_eq_getElem?_getD]
  rw [List.getElem?_append_left h]
theorem getD_last (l : List Sc) (S : Sc) : (l ++ [S]).getD l.length emptyS = S := by
  simp only [List.getD_eq_getElem?_getD]
  rw [List.getElem?_append_right (Nat.le_refl _)]
  simp
theorem pushU_len (U : List Sc) (S : Sc) (hU : U.length ≤ 30) : (pushU U S).length = U.length + 1 - (U.length + 1 - 30) := by
  unfold pushU
  rw [List.length_drop, List.length_append]
  rfl
theorem pushU_at (U : List Sc) (S : Sc) (hU : U.length ≤ 30) (i : Nat) (hi : i < (pushU U S).length) : (i + 1 = (pushU U S).length ∧ (pushU U S).getD i emptyS = S) ∨ (i + 1 < (pushU U S).length ∧ (U.length + 1 - 30) + i < U.length ∧ (pushU U S).getD i emptyS = U.getD ((U.length + 1 - 30) + i) emptyS) := by
  have hl := pushU_len U S hU
  have e : (pushU U S).getD i emptyS = (U ++ [S]).getD ((U.length + 1 - 30) + i) emptyS := getD_drop _ _ _
  by_cases z : i + 1 = (pushU U S).length
  · left
    refine ⟨z, ?_⟩
    rw [e]
    have : U.length + 1 - 30 + i = U.length := by omega
    rw [this]
    exact getD_last U S
  · right
    refine ⟨by omega, by omega, ?_⟩
    rw [e]
    exact getD_app U S _ (by omega)
theorem AI.mono {T T' : Nat} {A : St} (h : AI T A) (t : T ≤ T') (ht : T' ≤ 100000) : AI T' A := ⟨h.1, h.2.1.mono t, h.2.2.1, fun i hi => (h.2.2.2.1 i hi).mono t, fun s hs S e => (h.2.2.2.2.1 s hs S e).mono t, h.2.2.2.2.2.1, h.2.2.2.2.2.2.1, h.2.2.2.2.2.2.2.1, ht⟩
theorem AI.put {T : Nat} {A : St} {S : Sc} {U : List Sc} (h : AI T A) (hS : SI (tB A) T S) (hl : U.length ≤ 30) (hU : ∀ i, i < U.length → SI (tB A) T (U.getD i emptyS)) : AI T (putS S U A) := ⟨h.1, hS, hl, hU, h.2.2.2.2⟩
theorem AI.push {T : Nat} {A : St} {S : Sc} (h : AI T A) (hS : SI (tB A) T S) : AI T (putS S (pushU (tU A) (tS A)) A) := by
  have hl := pushU_len (tU A) (tS A) h.2.2.1
  refine h.put hS (by have := h.2.2.1; omega) (fun i hi => ?_)
  rcases pushU_at (tU A) (tS A) h.2.2.1 i hi with ⟨-, e⟩ | ⟨-, z, e⟩
  · rw [e]; exact h.2.1
  · rw [e]; exact h.2.2.2.1 _ z
theorem AX.put {h h' : TH} {q b d : Nat} {A : St} {S : Sc} {U : List Sc} (ap : apt q b d) (s : BScr b h h') (f : Fr (fun a => FBa b a ∨ (q + 52 ≤ a ∧ a < q + 182)) h h') (hS : ScOK h' (q + 52) S) (hU : PastOK h' q U) (g : AX h q b d A) : AX h' q b d (putS S U A) := by
  have nf : ∀ a, q ≤ a → (a < b ∨ b + 23 ≤ a) → ¬ (q + 52 ≤ a ∧ a < q + 182) → ¬ (FBa b a ∨ (q + 52 ≤ a ∧ a < q + 182)) := by
    intro a h1 h2 h3 hF
    unfold FBa at hF
    omega
  obtain ⟨g1, g2, g3, g4, g5, g6, g7, g8, g9⟩ := g
  have hb : q + 3 ≤ b ∧ b + 23 ≤ q + 52 := by rcases ap with x | x <;> omega
  have hd : q + 3 ≤ d ∧ d + 23 ≤ q + 52 := by rcases ap with x | x <;> omega
  have hbd : ∀ j, j < 23 → d + j < b ∨ b + 23 ≤ d + j := by intro j hj; rcases ap with x | x <;> omega
  have z : ∀ j, j < 23 → h'.1 (d + j) = h.1 (d + j) := fun j hj => (f _ (nf _ (by omega) (hbd j hj) (by omega))).1
  refine ⟨g1.scr s, ?_, ?_, hS, hU, g6.fq f (nf q (by omega) (by omega) (by omega)) (fun a x y => nf a (by omega) (by omega) (by omega)), g7.fq f (fun a x y => nf a (by omega) (by omega) (by omega)), ?_, ?_⟩
  · rcases g2 with g2 | g2
    · exact Or.inl g2
    · refine Or.inr (fun c hc => ?_)
      rw [s.1 (b + 2) (by omega) (by omega) (by unfold FBa; omega)]
      exact g2 c hc
  · unfold Zs
    rw [z 9 (by omega), z 19 (by omega)]
    exact g3
  · rw [(f _ (nf (q + 1) (by omega) (by omega) (by omega))).1, (f _ (nf (q + 2) (by omega) (by omega) (by omega))).1]
    exact g8
  · rw [(f _ (nf (q + 1) (by omega) (by omega) (by omega))).1]
    exact g9
theorem jr30 {a : Nat} (h : a < 2 ^ 31) : jrem (nI a) 30 = nI (a % 30) := jrem_nI (d := 30) h (by omega) (by omega)
theorem P_keep {r : TR} {q b d T : Nat} {h : TH} {A : St} {Q : TH → Prop} (hR : RX r q b d) (hA : AI T A) (hx : AX h q b d A) (hQ : ∀ h', Fr (fun a => q + 60 ≤ a ∧ a < q + 182) h h' → PastOK h' q (pushU (tU A) (tS A)) → Q h') : D_Past_keep r (q + 60) (q + 52) h Q := by
  obtain ⟨⟨-, r1, r2, r3, -⟩, -, ⟨s1, s2, -⟩, ⟨p1, p2⟩, -, -, -, rb, -, ap⟩ := hR
  obtain ⟨nx, hnx, e2, e0, hsc⟩ := hx.2.2.2.2.1
  have hU := hA.2.2.1
  have hl := pushU_len (tU A) (tS A) hU
  unfold D_Past_keep
  intro i2 ei
  rw [e2] at ei
  subst ei
  rw [p1, nI_clamp (n := nx) (by omega), (p2 nx hnx).1]
  refine ⟨vp_in_nI hnx (by omega), P_copyFrom (p2 nx hnx).2 s1 hx.2.2.2.1 (by omega) (fun h4 f4 S4 h6 e6 h7 e7 => ?_)⟩
  have f60 : h4.1 (q + 60) = h.1 (q + 60) := (f4 _ (by unfold FSc; omega)).1
  rw [f60, e2, nI_1, jr30 (by omega)] at e6
  have e60 : h6.1 (q + 60) 0 = nI (tU A).length := by rw [e6, pI_n _ _ _ _ (by omega), f60]; exact e0
  rw [e60, nI_1] at e7
  have z : (if nI ((tU A).length + 1) < 30 then nI ((tU A).length + 1) else 30) = nI (pushU (tU A) (tS A)).length := by
    by_cases c : (tU A).length + 1 < 30
    · rw [if_pos (show nI ((tU A).length + 1) < (30 : Int32) from nI_lt (b := 30) c (by omega))]; congr 1; omega
    · rw [if_neg (show ¬ nI ((tU A).length + 1) < (30 : Int32) from fun w => c ((nI_ltI (b := 30) (by omega) (by omega)).mp w))]
      show nI 30 = _
      congr 1; omega
  rw [z] at e7
  have f7 : Fr (fun a => a = q + 60) h4 h7 := (show Fr _ h4 h6 by rw [e6]; exact Fr.pI rfl).tr (by rw [e7]; exact Fr.pI rfl)
  refine hQ h7 ((f4.mono (fun a ha => by unfold FSc at ha; omega)).tr (f7.mono (fun a ha => by omega))) ⟨(nx + 1) % 30, by omega, by rw [e7, pI_n _ _ _ _ (by omega), e6, pI_s], by rw [e7, pI_s], fun i hi => ?_⟩
  rcases pushU_at (tU A) (tS A) hU i hi with ⟨x, e⟩ | ⟨x, y, e⟩
  · rw [e]
    have : ((nx + 1) % 30 + 30 - (pushU (tU A) (tS A)).length + i) % 30 = nx := by omega
    rw [this]
    exact S4.fr (fun a u v => (f7 a (by omega)).1)
  · rw [e]
    have e' : ((nx + 1) % 30 + 30 - (pushU (tU A) (tS A)).length + i) % 30 = (nx + 30 - (tU A).length + ((tU A).length + 1 - 30 + i)) % 30 := by omega
    have ne : ¬ (nx + 30 - (tU A).length + ((tU A).length + 1 - 30 + i)) % 30 = nx := by omega
    rw [e']
    exact (hsc _ y).fr (fun a u v => by rw [(f7 a (by omega)).1]; exact (f4 a (by unfold FSc; omega)).1)
theorem AM.put {h h' : TH} {m L : Nat} {A : St} {S : Sc} {U : List Sc} (g : AM h m L A) (f : Fr (fun a => a = m ∨ a = m + 29 ∨ a = m + 30 ∨ a = m + 31 ∨ a = m + 32 ∨ a = m + 33 ∨ a = m + 34) h h') (k : ∀ j, ¬ j = 47 → ¬ j = 50 → ¬ j = 51 → ¬ j = 52 → ¬ j = 54 → h'.1 m j = h.1 m j) (hS : RowOK (h'.1 (m + 31)) (bN (tB A)) (-1) S) (hU : h'.1 m 54 = nI U.length ∧ ∀ i, i < U.length → RowOK (fun k => h'.1 (m + 34) (512 * i + k)) (bN (tB A)) (-1) (U.getD i emptyS)) : AM h' m L (putS S U A) := by
  obtain ⟨g1, g2, g3, g4, g5, g6, g7⟩ := g
  have z : ∀ a, ¬ (a = m ∨ a = m + 29 ∨ a = m + 30 ∨ a = m + 31 ∨ a = m + 32 ∨ a = m + 33 ∨ a = m + 34) → h'.1 a = h.1 a := fun a x => (f a x).1
  refine ⟨g1.mv (fun x a b => ?_) ?_ (by rw [pI_s]), hS, hU, ?_, ?_, ?_, ?_⟩
  · rw [pI_o _ _ _ _ (by omega), pI_o _ _ _ _ (by omega)]; exact z x (by omega)
  · rw [pI_n _ _ _ _ (by omega), pI_n _ _ _ _ (by omega)]; exact k 18 (by omega) (by omega) (by omega) (by omega) (by omega)
  · rw [z (m + 42) (by omega), z (m + 43) (by omega)]; exact g4
  · rw [z (m + 39) (by omega), z (m + 40) (by omega), k 60 (by omega) (by omega) (by omega) (by omega) (by omega)]; exact g5
  · rw [z (m + 1) (by omega), k 2 (by omega) (by omega) (by omega) (by omega) (by omega)]; exact g6
  · exact ⟨by rw [k 17 (by omega) (by omega) (by omega) (by omega) (by omega)]; exact g7.1, g7.2.1, g7.2.2.mv (fun x hx => f x (by omega))⟩
theorem P_k52 {r : TR} {m u : Nat} {h : TH} {Q E : TH → Prop} (hr : RMo r m) (hu : u < 30) (h54 : h.1 m 54 = nI u) (hE : ∀ h', Fr (fun a => a = m + 34) h h' → (∀ k, k < 512 → h'.1 (m + 34) (512 * u + k) = h.1 (m + 31) k) → (∀ j, j < 512 * u → h'.1 (m + 34) j = h.1 (m + 34) j) → E h') : ∃ n, lp (fun (K : Int32 × TH → Prop) (s : Int32 × TH) => DB_Mo_keeps_52 r m s.1 s.2 (fun y8 h9 => K (y8, h9)) E Q) n (0, h) := by
  have r55 : r m 55 = m + 34 := hr 55 (by decide) (by decide)
  have r48 : r m 48 = m + 31 := hr 48 (by decide) (by decide)
  refine lp_for 512 (fun j t => ∃ h', t = (nI j, h') ∧ Fr (fun a => a = m + 34) h h' ∧ (∀ k, k < j → h'.1 (m + 34) (512 * u + k) = h.1 (m + 31) k) ∧ (∀ i, i < 512 * u → h'.1 (m + 34) i = h.1 (m + 34) i)) ?_ ?_ _ ⟨h, rfl, Fr.rf, fun k hk => absurd hk (Nat.not_lt_zero _), fun _ _ => rfl⟩
  · rintro j t K hj ⟨h', rfl, f', v', o'⟩ hK
    have e54 : h'.1 m 54 = nI u := by rw [(f' m (by omega)).1]; exact h54
    have ei : (512 : Int32) * nI u + nI j = nI (512 * u + j) := by rw [show (512 : Int32) * nI u = nI (512 * u) from pk_mul 512 u, nI_add]
    unfold DB_Mo_keeps_52
    rw [r55, r48, e54, ei, nI_clamp (n := j) (by omega), nI_clamp (n := 512 * u + j) (by omega), (f' (m + 31) (by omega)).1]
    refine ⟨fun q => absurd ((nI_leI (a := 512) (by omega) (by omega)).mp q) (by omega), fun _ => ⟨vp_in_nI hj (by omega), vp_in_nI (by omega) (by omega), fun h6 e6 x7 e7 => ?_⟩⟩
    rw [nI_1] at e7; subst e7
    refine hK _ ⟨h6, rfl, f'.tr (by rw [e6]; exact Fr.pI rfl), fun k hk => ?_, fun i hi => ?_⟩
    · by_cases e : k = j
      · rw [e6, e, pI_s]
      · rw [e6, pI_n _ _ _ _ (by omega)]; exact v' k (by omega)
    · rw [e6, pI_n _ _ _ _ (by omega)]; exact o' i hi
  · rintro t K ⟨h', rfl, f', v', o'⟩
    unfold DB_Mo_keeps_52
    exact ⟨fun _ => hE h' f' v' o', fun q => absurd (show (512 : Int32) ≤ nI 512 from Int32.le_refl _) q⟩
theorem P_keeps {r : TR} {m L : Nat} {h : TH} {A : St} {S : Sc} {Q : TH → Prop} (hr : RMo r m) (hm : AM h m L A) (hn : bN (tB A) ≤ 6) (hU : (tU A).length ≤ 30) (hR : RowOK (h.1 (m + 32)) (bN (tB A)) (-1) S) (hQ : ∀ h', Fr (fun a => m ≤ a ∧ a < m + 44) h h' → AM h' m L (putS S (pushU (tU A) (tS A)) A) → Q h') : D_Mo_keeps r m h Q := by
  have r55 : r m 55 = m + 34 := hr 55 (by decide) (by decide)
  have hl := pushU_len (tU A) (tS A) hU
  have fin : ∀ (h4 h5 : TH) (u : Nat), u + 1 = (pushU (tU A) (tS A)).length → u < 30 → Fr (fun a => a = m ∨ a = m + 34) h h4 → (∀ j, ¬ j = 54 → h4.1 m j = h.1 m j) → h4.1 m 54 = nI u → (∀ i, i < u → RowOK (fun k => h4.1 (m + 34) (512 * i + k)) (bN (tB A)) (-1) ((pushU (tU A) (tS A)).getD i emptyS)) → Fr (fun a => a = m + 34) h4 h5 → (∀ k, k < 512 → h5.1 (m + 34) (512 * u + k) = h4.1 (m + 31) k) → (∀ j, j < 512 * u → h5.1 (m + 34) j = h4.1 (m + 34) j) → ∀ h11, h11 = pI h5 m 54 ((h5.1 m 54) + 1) → D_Mo_keepsRow r m h11 (fun h12 => Q h12) := by
    intro h4 h5 u hu hu30 f4 k4 e54 ho f5 v5 o5 h11 e11
    rw [(f5 m (by omega)).1, e54, nI_1, hu] at e11
    refine P_keepsRow hr (fun h12 f12 v12 => ?_)
    have F : Fr (fun a => a = m ∨ a = m + 31 ∨ a = m + 34) h h12 := ((f4.mono (fun a ha => by omega)).tr (f5.mono (fun a ha => by omega))).tr ((show Fr _ h5 h11 by rw [e11]; exact Fr.pI (Or.inl rfl)).tr (f12.mono (fun a ha => by omega)))
    have e32 : h11.1 (m + 32) = h.1 (m + 32) := by rw [e11, pI_o _ _ _ _ (by omega), (f5 _ (by omega)).1, (f4 _ (by omega)).1]
    have e34 : h12.1 (m + 34) = h5.1 (m + 34) := by rw [(f12 _ (by omega)).1, e11, pI_o _ _ _ _ (by omega)]
    have em : h12.1 m = h11.1 m := (f12 _ (by omega)).1
    refine hQ h12 (F.mono (fun a ha => by omega)) (hm.put (F.mono (fun a ha => by omega)) (fun j _ _ _ _ x => ?_) ?_ ⟨?_, fun i hi => ?_⟩)
    · rw [em, e11, pI_n _ _ _ _ (by omega), (f5 m (by omega)).1]; exact k4 j x
    · exact RowOK.cg hn (fun i hi => by rw [v12 i hi, e32]) hR
    · rw [em, e11, pI_s]
    · rw [e34]
      by_cases z : i = u
      · rcases pushU_at (tU A) (tS A) hU i hi with ⟨x, e⟩ | ⟨x, y, e⟩
        · rw [e, z]
          refine RowOK.cg hn (fun k hk => ?_) hm.2.1
          show h5.1 (m + 34) (512 * u + k) = h.1 (m + 31) k
          rw [v5 k hk, (f4 _ (by omega)).1]
        · omega
      · refine RowOK.cg hn (fun k hk => ?_) (ho i (by omega))
        exact o5 (512 * i + k) (by omega)
  unfold D_Mo_keeps
  rw [hm.2.2.1.1]
  refine ⟨fun z => ?_, fun z => ?_⟩
  · have hu : (tU A).length < 30 := by
      rcases Nat.lt_or_ge (tU A).length 30 with w | w
      · exact w
      · exact absurd (show nI (tU A).length = 30 from by rw [show (tU A).length = 30 by omega]; rfl) z
    refine P_k52 hr hu hm.2.2.1.1 (fun h5 f5 v5 o5 => fin h h5 (tU A).length (by omega) hu Fr.rf (fun _ _ => rfl) hm.2.2.1.1 (fun i hi => ?_) f5 v5 o5)
    rcases pushU_at (tU A) (tS A) hU i (by omega) with ⟨x, e⟩ | ⟨x, y, e⟩
    · omega
    · rw [e, show (tU A).length + 1 - 30 + i = i by omega]
      exact hm.2.2.1.2 i hi
  · have hu : (tU A).length = 30 := (nI_eq (b := 30) (by omega) (by omega)).mp z
    refine lp_for 14848 (fun j t => ∃ h', t = (nI j, h') ∧ Fr (fun a => a = m + 34) h h' ∧ (∀ k, k < j → h'.1 (m + 34) k = h.1 (m + 34) (k + 512)) ∧ (∀ i, j ≤ i → h'.1 (m + 34) i = h.1 (m + 34) i)) ?_ ?_ _ ⟨h, rfl, Fr.rf, fun k hk => absurd hk (Nat.not_lt_zero _), fun _ _ => rfl⟩
    · rintro j t K hj ⟨h', rfl, f', v', o'⟩ hK
      have ei : nI j + (512 : Int32) = nI (j + 512) := nI_add j 512
      unfold DB_Mo_keeps_11
      refine ⟨fun q => absurd ((nI_leI (a := 14848) (by omega) (by omega)).mp q) (by omega), fun _ i18 e18 => ?_⟩
      rw [ei] at e18
      subst e18
      refine ⟨vp_in_nI (by omega) (by omega), vp_in_nI (by omega) (by omega), fun h19 e19 x e => ?_⟩
      rw [nI_1] at e; subst e
      rw [r55, nI_clamp (n := j) (by omega), nI_clamp (n := j + 512) (by omega)] at e19
      replace e19 : h19 = pI h' (m + 34) j (h'.1 (m + 34) (j + 512)) := e19
      rw [o' (j + 512) (by omega)] at e19
      refine hK _ ⟨h19, rfl, f'.tr (by rw [e19]; exact Fr.pI rfl), fun k hk => ?_, fun i hi => ?_⟩
      · by_cases e : k = j
        · rw [e19, e, pI_s]
        · rw [e19, pI_n _ _ _ _ (by omega)]; exact v' k (by omega)
      · rw [e19, pI_n _ _ _ _ (by omega)]; exact o' i (by omega)
    · rintro t K ⟨h', rfl, f', v', o'⟩
      unfold DB_Mo_keeps_11
      refine ⟨fun _ h24 e24 => ?_, fun q => absurd (show (14848 : Int32) ≤ nI 14848 from Int32.le_refl _) q⟩
      replace e24 : h24 = pI h' m 54 ((h'.1 m 54) - 1) := e24
      rw [(f' m (by omega)).1, hm.2.2.1.1, hu, nI_s1 (by omega)] at e24
      have e54 : h24.1 m 54 = nI 29 := by rw [e24, pI_s]
      refine P_k52 hr (by omega) e54 (fun h5 f5 v5 o5 => fin h24 h5 29 (by omega) (by omega) ((f'.mono (fun a ha => by omega)).tr (by rw [e24]; exact Fr.pI (Or.inl rfl))) (fun j x => ?_) e54 (fun i hi => ?_) f5 v5 o5)
      · rw [e24, pI_n _ _ _ _ (by omega), (f' m (by omega)).1]
      · rcases pushU_at (tU A) (tS A) hU i (by omega) with ⟨x, e⟩ | ⟨x, y, e⟩
        · omega
        · rw [e]
          refine RowOK.cg hn (fun k hk => ?_) (hm.2.2.1.2 _ y)
          show h24.1 (m + 34) (512 * i + k) = h.1 (m + 34) (512 * ((tU A).length + 1 - 30 + i) + k)
          have ez : 512 * ((tU A).length + 1 - 30 + i) + k = 512 * i + k + 512 := by omega
          rw [e24, pI_o _ _ _ _ (by omega), v' _ (by omega), ez]
