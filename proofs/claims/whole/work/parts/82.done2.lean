/-! undo, hold, restore, tell, forget, back: both sides -/
theorem getD_dl (l : List Sc) (i : Nat) (h : i + 1 < l.length) : l.dropLast.getD i emptyS = l.getD i emptyS := by
  simp only [List.getD_eq_getElem?_getD, List.getElem?_dropLast]
  rw [if_pos (by omega)]
theorem AI.dl {T : Nat} {A : St} (h : AI T A) (h0 : 0 < (tU A).length) : AI T (putS ((tU A).getD ((tU A).length - 1) emptyS) (tU A).dropLast A) := by
  have hl : (tU A).dropLast.length = (tU A).length - 1 := List.length_dropLast
  refine h.put (h.2.2.2.1 _ (by omega)) (by have := h.2.2.1; omega) (fun i hi => ?_)
  rw [getD_dl _ _ (by omega)]
  exact h.2.2.2.1 i (by omega)
theorem J_undo {r : TR} {q b d m L T : Nat} {h : TH} {A : St} {Q : Int32 → Int32 → TH → Prop} (C : Cx r q b d m L T h A) (hQ : ∀ x h' A', Cx r q b d m L T h' A' → Q x x h') : D_SR_undo r q h (fun x h1 => D_Mo_undo r m h1 (fun y h2 => Q x y h2)) := by
  have hB := C.2.2.2.1.1
  have hn := hB.2.2.1
  have ap := C.1.ap
  obtain ⟨hR, hM, hqm, hA, hx, hm⟩ := id C
  obtain ⟨⟨-, r1, r2, r3, r4, -⟩, -, ⟨s1, s2, -⟩, ⟨p1, p2⟩, -, -, -, rb, -, ap'⟩ := id hR
  obtain ⟨nx, hnx, e2, e0, hsc⟩ := hx.2.2.2.2.1
  have hU := hA.2.2.1
  have hbq : q + 3 ≤ b ∧ b + 23 ≤ q + 52 := by rcases ap' with x | x <;> omega
  have r48 : r m 48 = m + 31 := hM 48 (by decide) (by decide)
  have r55 : r m 55 = m + 34 := hM 55 (by decide) (by decide)
  have hl : (tU A).dropLast.length = (tU A).length - 1 := List.length_dropLast
  unfold D_SR_undo D_Past_giveBack
  rw [r2, r4, e0]
  refine ⟨fun z h2 eh2 h3 eh3 i5 e5 => ?_, fun z => ?_⟩
  · have h0 : 0 < (tU A).length := by
      rcases Nat.eq_zero_or_pos (tU A).length with w | w
      · exact absurd (by rw [w]; rfl) z
      · exact w
    have en : jrem ((nI nx + 30) - 1) 30 = nI ((nx + 29) % 30) := by
      rw [show nI nx + (30 : Int32) = nI (nx + 30) from nI_add nx 30, nI_s1 (by omega), jr30 (by omega)]
      congr 1
    rw [e2, en] at eh2
    have e20 : h2.1 (q + 60) 0 = nI (tU A).length := by rw [eh2, pI_n _ _ _ _ (by omega)]; exact e0
    rw [e20, nI_s1 h0] at eh3
    have e32 : h3.1 (q + 60) 2 = nI ((nx + 29) % 30) := by rw [eh3, pI_n _ _ _ _ (by omega), eh2, pI_s]
    have e30 : h3.1 (q + 60) 0 = nI ((tU A).length - 1) := by rw [eh3, pI_s]
    rw [e32] at e5
    subst e5
    have hi : (nx + 29) % 30 < 30 := by omega
    have f3 : Fr (fun a => a = q + 60) h h3 := (show Fr _ h h2 by rw [eh2]; exact Fr.pI rfl).tr (by rw [eh3]; exact Fr.pI rfl)
    have S3 : ScOK h3 (q + 62 + 4 * ((nx + 29) % 30)) ((tU A).getD ((tU A).length - 1) emptyS) := by
      have := hsc ((tU A).length - 1) (by omega)
      have ei : (nx + 30 - (tU A).length + ((tU A).length - 1)) % 30 = (nx + 29) % 30 := by omega
      rw [ei] at this
      exact this.fr (fun a x y => (f3 a (by omega)).1)
    rw [p1, nI_clamp (n := (nx + 29) % 30) (by omega), (p2 _ hi).1]
    refine ⟨vp_in_nI hi (by omega), P_copyFrom s1 (p2 _ hi).2 S3 (by omega) (fun h7 f7 S7 => ⟨rfl, ?_⟩)⟩
    have F : Fr (fun a => FBa b a ∨ (q + 52 ≤ a ∧ a < q + 182)) h h7 := (f3.mono (fun a ha => Or.inr (by omega))).tr (f7.mono (fun a ha => Or.inr (by unfold FSc at ha; omega)))
    have bs : BScr b h h7 := (BScr.out (fun a x y => (f3 a (by omega)).1)).tr (BScr.out (fun a x y => (f7 a (by unfold FSc; omega)).1))
    have e7 : h7.1 (q + 60) = h3.1 (q + 60) := (f7 _ (by unfold FSc; omega)).1
    have U7 : PastOK h7 q (tU A).dropLast := by
      refine ⟨(nx + 29) % 30, hi, by rw [e7]; exact e32, by rw [e7, e30, hl], fun i hi2 => ?_⟩
      rw [getD_dl _ _ (by omega)]
      have := hsc i (by omega)
      have ei : ((nx + 29) % 30 + 30 - (tU A).dropLast.length + i) % 30 = (nx + 30 - (tU A).length + i) % 30 := by omega
      rw [ei]
      exact this.fr (fun a x y => by rw [(f7 a (by unfold FSc; omega)).1]; exact (f3 a (by omega)).1)
    have m7 := C.out (F.mono (fun a ha => FP_in ap ha))
    show D_Mo_undo r m h7 _
    unfold D_Mo_undo
    rw [m7.2.2.1.1]
    refine ⟨fun _ h8 e8 => ?_, fun w => absurd w z⟩
    rw [nI_s1 h0] at e8
    have e54 : h8.1 m 54 = nI ((tU A).length - 1) := by rw [e8, pI_s]
    refine lp_for 512 (fun j t => ∃ h', t = (nI j, h') ∧ Fr (fun a => a = m + 31) h8 h' ∧ (∀ k, k < j → h'.1 (m + 31) k = h8.1 (m + 34) (512 * ((tU A).length - 1) + k))) ?_ ?_ _ ⟨h8, rfl, Fr.rf, fun k hk => absurd hk (Nat.not_lt_zero _)⟩
    · rintro j t K hj ⟨h', rfl, f', v'⟩ hK
      have ei : (512 : Int32) * nI ((tU A).length - 1) + nI j = nI (512 * ((tU A).length - 1) + j) := by rw [show (512 : Int32) * nI ((tU A).length - 1) = nI (512 * ((tU A).length - 1)) from pk_mul 512 _, nI_add]
      have e54' : h'.1 m 54 = nI ((tU A).length - 1) := by rw [(f' m (by omega)).1]; exact e54
      unfold DB_Mo_undo_21
      refine ⟨fun q => absurd ((nI_leI (a := 512) (by omega) (by omega)).mp q) (by omega), fun _ i7 e7 => ?_⟩
      replace e7 : i7 = (512 * (h'.1 m 54)) + nI j := e7
      rw [e54', ei] at e7
      subst e7
      refine ⟨vp_in_nI (by omega) (by omega), vp_in_nI hj (by omega), fun h6 e6 x7 e7 => ?_⟩
      rw [nI_1] at e7; subst e7
      rw [r48, r55, nI_clamp (n := j) (by omega), nI_clamp (n := 512 * ((tU A).length - 1) + j) (by omega)] at e6
      replace e6 : h6 = pI h' (m + 31) j (h'.1 (m + 34) (512 * ((tU A).length - 1) + j)) := e6
      rw [(f' (m + 34) (by omega)).1] at e6
      refine hK _ ⟨h6, rfl, f'.tr (by rw [e6]; exact Fr.pI rfl), fun k hk => ?_⟩
      by_cases e : k = j
      · rw [e6, e, pI_s]
      · rw [e6, pI_n _ _ _ _ (by omega)]; exact v' k (by omega)
    · rintro t K ⟨h', rfl, f', v'⟩
      unfold DB_Mo_undo_21
      refine ⟨fun _ => ?_, fun q => absurd (show (512 : Int32) ≤ nI 512 from Int32.le_refl _) q⟩
      have F2 : Fr (fun a => a = m ∨ a = m + 31) h7 h' := (show Fr _ h7 h8 by rw [e8]; exact Fr.pI (Or.inl rfl)).tr (f'.mono (fun a ha => Or.inr ha))
      have e34 : h'.1 (m + 34) = h7.1 (m + 34) := (F2 _ (by omega)).1
      refine hQ _ _ _ (C.put (hA.dl h0) bs F S7 U7 (F2.mono (fun a ha => by omega)) (m7.put (F2.mono (fun a ha => by omega)) (fun j _ _ _ _ x => ?_) ?_ ⟨?_, fun i hi2 => ?_⟩))
      · rw [(f' m (by omega)).1, e8, pI_n _ _ _ _ (by omega)]
      · refine RowOK.cg hn (fun k hk => ?_) (m7.2.2.1.2 ((tU A).length - 1) (by omega))
        rw [v' k hk, e8, pI_o _ _ _ _ (by omega)]
      · rw [(f' m (by omega)).1, e54, hl]
      · rw [getD_dl _ _ (by omega), e34]
        exact m7.2.2.1.2 i (by omega)
  · refine ⟨rfl, ?_⟩
    show D_Mo_undo r m h _
    unfold D_Mo_undo
    rw [hm.2.2.1.1]
    exact ⟨fun w => absurd z w, fun _ => hQ _ _ _ C⟩
/-- a scene more is held -/
def holdS (s : Nat) (A : St) : St := (tB A, tS A, tU A, (fun i => if i = s then some (tS A) else tE A i), tT A, tL A, tA A, tP A)
theorem hm1 : ∀ m : Fin 8, ∀ s : Fin 3, (nI m.1 ||| ((1 : Int32) <<< (nI s.1 &&& 31))) = nI (m.1 ||| 2 ^ s.1) := by decide +kernel
theorem hm2 : ∀ m : Fin 8, ∀ s : Fin 3, (((nI m.1 >>> (nI s.1 &&& 31)) &&& 1) = 0 ↔ m.1.testBit s.1 = false) := by decide +kernel
theorem heldM_set : ∀ a b c : Bool, ∀ s : Fin 3, ((if (if (0 : Nat) = s.1 then true else a) then 1 else 0) + (if (if (1 : Nat) = s.1 then true else b) then 2 else 0) + (if (if (2 : Nat) = s.1 then true else c) then 4 else 0)) = (((if a then 1 else 0) + (if b then 2 else 0) + (if c then 4 else 0)) ||| 2 ^ s.1) := by decide
theorem heldM_bit : ∀ a b c : Bool, (((if a then 1 else 0) + (if b then 2 else 0) + (if c then 4 else 0)).testBit 0 = a ∧ ((if a then 1 else 0) + (if b then 2 else 0) + (if c then 4 else 0)).testBit 1 = b ∧ ((if a then 1 else 0) + (if b then 2 else 0) + (if c then 4 else 0)).testBit 2 = c) ∧ (if a then 1 else 0) + (if b then 2 else 0) + (if c then 4 else 0) < 8 := by decide
theorem heldM_lt (E : Nat → Option Sc) : heldM E < 8 := (heldM_bit _ _ _).2
theorem heldM_tb (E : Nat → Option Sc) {s : Nat} (hs : s < 3) : (heldM E).testBit s = (E s).isSome := by
  have := (heldM_bit (E 0).isSome (E 1).isSome (E 2).isSome).1
  match s, hs with
  | 0, _ => exact this.1
  | 1, _ => exact this.2.1
  | 2, _ => exact this.2.2
theorem heldM_hold (E : Nat → Option Sc) (S : Sc) {s : Nat} (hs : s < 3) : heldM (fun i => if i = s then some S else E i) = heldM E ||| 2 ^ s := by
  have := heldM_set (E 0).isSome (E 1).isSome (E 2).isSome ⟨s, hs⟩
  unfold heldM
  rw [← this]
  have e : ∀ i, (if i = s then some S else E i).isSome = (if i = s then true else (E i).isSome) := by
    intro i
    split <;> rfl
  rw [e, e, e]
theorem J_hold {r : TR} {q b d m L T : Nat} {h : TH} {A : St} {a1 : Int32} {Q : Int32 → Int32 → TH → Prop} (C : Cx r q b d m L T h A) (hQ : ∀ x h' A', Cx r q b d m L T h' A' → Q x x h') : D_SR_hold r q a1 h (fun x h1 => D_Mo_hold r m a1 h1 (fun y h2 => Q x y h2)) := by
  have hB := C.2.2.2.1.1
  have hn := hB.2.2.1
  have ap := C.1.ap
  obtain ⟨hR, hM, hqm, hA, hx, hm⟩ := id C
  obtain ⟨⟨-, r1, r2, r3, r4, r5, -⟩, -, ⟨s1, s2, -⟩, -, sl, -, -, rb, -, ap'⟩ := id hR
  have hbq : q + 3 ≤ b ∧ b + 23 ≤ q + 52 := by rcases ap' with x | x <;> omega
  have hdq : q + 3 ≤ d ∧ d + 23 ≤ q + 52 := by rcases ap' with x | x <;> omega
  have r48 : r m 48 = m + 31 := hM 48 (by decide) (by decide)
  have r64 : r m 64 = m + 42 := hM 64 (by decide) (by decide)
  have r65 : r m 65 = m + 43 := hM 65 (by decide) (by decide)
  unfold D_SR_hold
  refine P_within (fun z2 w2 => ⟨fun _ => ?_, fun z => absurd z z01⟩) (fun z2 => ⟨fun z => absurd rfl z, fun _ => ?_⟩)
  · obtain ⟨s, -, hs, rfl⟩ := wi_nI (x := 0) (y := 2) (by omega) z2 w2 (by omega)
    have hs3 : s < 3 := by omega
    rw [r5, r2, nI_clamp (n := s) (by omega), (sl s hs3).1]
    refine ⟨vp_in_nI hs3 (by omega), P_copyFrom (sl s hs3).2 s1 hx.2.2.2.1 (by omega) (fun h7 f7 S7 h9 e9 => ?_)⟩
    have hml := heldM_lt (tE A)
    rw [(f7 q (by unfold FSc; omega)).1, hx.2.2.2.2.2.1.1, hm1 ⟨_, hml⟩ ⟨s, hs3⟩] at e9
    replace e9 : h9 = pI h7 q 6 (nI (heldM (tE A) ||| 2 ^ s)) := e9
    have F : Fr (fun a => a = q ∨ (q + 195 + 4 * s ≤ a ∧ a < q + 195 + 4 * s + 4)) h h9 := (f7.mono (fun a ha => Or.inr (by unfold FSc at ha; omega))).tr (by rw [e9]; exact Fr.pI (Or.inl rfl))
    have X9 : AX h9 q b d (holdS s A) := by
      obtain ⟨g1, g2, g3, g4, g5, g6, g7, g8, g9⟩ := hx
      refine ⟨g1.scr (BScr.out (fun a x y => (F a (by omega)).1)), ?_, ?_, g4.fq F (fun a x y => by omega), g5.fq F (fun a x y => by omega) hA.2.2.1, ⟨?_, fun i hi S hE => ?_⟩, g7.fq F (fun a x y => by omega), ?_, ?_⟩
      · rw [(F (b + 2) (by omega)).1]; exact g2
      · unfold Zs
        rw [(F (d + 9) (by omega)).1, (F (d + 19) (by omega)).1]
        exact g3
      · rw [e9, pI_s]
        show nI _ = nI (heldM (fun i => if i = s then some (tS A) else tE A i))
        rw [heldM_hold _ _ hs3]
      · replace hE : (if i = s then some (tS A) else tE A i) = some S := hE
        by_cases e : i = s
        · rw [if_pos e] at hE
          cases hE
          rw [e]
          exact S7.fr (fun a x y => by rw [e9, pI_o _ _ _ _ (by omega)])
        · rw [if_neg e] at hE
          exact (g6.2 i hi S hE).fq F (fun a x y => by omega)
      · rw [(F (q + 1) (by omega)).1, (F (q + 2) (by omega)).1]; exact g8
      · rw [(F (q + 1) (by omega)).1]; exact g9
    have m9 := C.out (F.mono (fun a ha => by omega))
    unfold D_Mo_hold
    refine P_in1 z2 w2 ⟨fun _ => ?_, fun z => absurd z z01⟩
    rw [r64, nI_clamp (n := s) (by omega)]
    refine ⟨vp_in_nI hs3 (by omega), fun h5 e5 => ?_⟩
    replace e5 : h5 = pI h9 (m + 42) s 1 := e5
    refine lp_for 512 (fun j t => ∃ h', t = (nI j, h') ∧ Fr (fun a => a = m + 43) h5 h' ∧ (∀ k, k < j → h'.1 (m + 43) (512 * s + k) = h5.1 (m + 31) k) ∧ (∀ i, (i < 512 * s ∨ 512 * s + 512 ≤ i) → h'.1 (m + 43) i = h5.1 (m + 43) i)) ?_ ?_ _ ⟨h5, rfl, Fr.rf, fun k hk => absurd hk (Nat.not_lt_zero _), fun _ _ => rfl⟩
    · rintro j t K hj ⟨h', rfl, f', v', o'⟩ hK
      have ei : (512 : Int32) * nI s + nI j = nI (512 * s + j) := by rw [show (512 : Int32) * nI s = nI (512 * s) from pk_mul 512 s, nI_add]
      unfold DB_Mo_hold_20
      rw [r65, r48, ei, nI_clamp (n := j) (by omega), nI_clamp (n := 512 * s + j) (by omega), (f' (m + 31) (by omega)).1]
      refine ⟨fun q => absurd ((nI_leI (a := 512) (by omega) (by omega)).mp q) (by omega), fun _ => ⟨vp_in_nI hj (by omega), vp_in_nI (by omega) (by omega), fun h6 e6 x7 e7 => ?_⟩⟩
      rw [nI_1] at e7; subst e7
      refine hK _ ⟨h6, rfl, f'.tr (by rw [e6]; exact Fr.pI rfl), fun k hk => ?_, fun i hi => ?_⟩
      · by_cases e : k = j
        · rw [e6, e, pI_s]
        · rw [e6, pI_n _ _ _ _ (by omega)]; exact v' k (by omega)
      · rw [e6, pI_n _ _ _ _ (by omega)]; exact o' i hi
    · rintro t K ⟨h', rfl, f', v', o'⟩
      unfold DB_Mo_hold_20
      refine ⟨fun _ => ?_, fun q => absurd (show (512 : Int32) ≤ nI 512 from Int32.le_refl _) q⟩
      have F2 : Fr (fun a => a = m + 42 ∨ a = m + 43) h9 h' := (show Fr _ h9 h5 by rw [e5]; exact Fr.pI (Or.inl rfl)).tr (f'.mono (fun a ha => Or.inr ha))
      refine hQ _ _ (holdS s A) ⟨hR, hM, hqm, ?_, X9.out ap hA.2.2.1 (F2.mono (fun a ha => by omega)), ?_⟩
      · refine ⟨hA.1, hA.2.1, hA.2.2.1, hA.2.2.2.1, fun i hi S hE => ?_, hA.2.2.2.2.2⟩
        replace hE : (if i = s then some (tS A) else tE A i) = some S := hE
        by_cases e : i = s
        · rw [if_pos e] at hE; cases hE; exact hA.2.1
        · rw [if_neg e] at hE; exact hA.2.2.2.2.1 i hi S hE
      · obtain ⟨g1, g2, g3, g4, g5, g6, g7⟩ := m9
        refine ⟨g1.mv (fun x a b => ?_) ?_ (by rw [pI_s]), ?_, ?_, fun i hi => ?_, ?_, ?_, ?_⟩
        · rw [pI_o _ _ _ _ (by omega), pI_o _ _ _ _ (by omega)]; exact (F2 x (by omega)).1
        · rw [pI_n _ _ _ _ (by omega), pI_n _ _ _ _ (by omega), (F2 m (by omega)).1]
        · rw [(F2 (m + 31) (by omega)).1]; exact g2
        · rw [(F2 m (by omega)).1, (F2 (m + 34) (by omega)).1]; exact g3
        · have e42 : h'.1 (m + 42) = h5.1 (m + 42) := (f' _ (by omega)).1
          show h'.1 (m + 42) i = (if (if i = s then some (tS A) else tE A i).isSome then 1 else 0) ∧ ∀ S, (if i = s then some (tS A) else tE A i) = some S → _
          rw [e42, e5]
          by_cases e : i = s
          · subst e
            rw [if_pos rfl, pI_s]
            refine ⟨rfl, fun S hE => ?_⟩
            cases hE
            refine RowOK.cg hn (fun k hk => ?_) g2
            show h'.1 (m + 43) (512 * i + k) = h9.1 (m + 31) k
            rw [v' k hk, e5, pI_o _ _ _ _ (by omega)]
          · rw [if_neg e, pI_n _ _ _ _ (by omega)]
            refine ⟨(g4 i hi).1, fun S hE => ?_⟩
            refine RowOK.cg hn (fun k hk => ?_) ((g4 i hi).2 S hE)
            show h'.1 (m + 43) (512 * i + k) = h9.1 (m + 43) (512 * i + k)
            rw [o' _ (by omega), e5, pI_o _ _ _ _ (by omega)]
        · rw [(F2 m (by omega)).1, (F2 (m + 40) (by omega)).1, (F2 (m + 39) (by omega)).1]; exact g5
        · rw [(F2 m (by omega)).1, (F2 (m + 1) (by omega)).1]; exact g6
        · exact ⟨by rw [(F2 m (by omega)).1]; exact g7.1, g7.2.1, g7.2.2.mv (fun x hx => F2 x (by omega))⟩
  · unfold D_Mo_hold
    exact P_in0 z2 ⟨fun z => absurd rfl z, fun _ => hQ _ _ _ C⟩
theorem J_restore {r : TR} {q b d m L T : Nat} {h : TH} {A : St} {a1 : Int32} {Q : Int32 → Int32 → TH → Prop} (C : Cx r q b d m L T h A) (hQ : ∀ x h' A', Cx r q b d m L T h' A' → Q x x h') : D_SR_restore r q a1 h (fun x h1 => D_Mo_restore r m a1 h1 (fun y h2 => Q x y h2)) := by
  have hB := C.2.2.2.1.1
  have hn := hB.2.2.1
  have ap := C.1.ap
  obtain ⟨hR, hM, hqm, hA, hx, hm⟩ := id C
  obtain ⟨⟨-, r1, r2, r3, r4, r5, -⟩, -, ⟨s1, s2, -⟩, -, sl, -, -, rb, -, ap'⟩ := id hR
  have hbq : q + 3 ≤ b ∧ b + 23 ≤ q + 52 := by rcases ap' with x | x <;> omega
  have r48 : r m 48 = m + 31 := hM 48 (by decide) (by decide)
  have r64 : r m 64 = m + 42 := hM 64 (by decide) (by decide)
  have r65 : r m 65 = m + 43 := hM 65 (by decide) (by decide)
  unfold D_SR_restore
  refine P_within (fun z2 w2 => ⟨fun z => absurd z z01, fun _ => ?_⟩) (fun z2 => ⟨fun _ => ?_, fun z => absurd rfl z⟩)
  · obtain ⟨s, -, hs, rfl⟩ := wi_nI (x := 0) (y := 2) (by omega) z2 w2 (by omega)
    have hs3 : s < 3 := by omega
    have hb := hm2 ⟨_, heldM_lt (tE A)⟩ ⟨s, hs3⟩
    simp only [] at hb
    rw [heldM_tb _ hs3] at hb
    rw [hx.2.2.2.2.2.1.1]
    refine ⟨fun z => ?_, fun z => ?_⟩
    · obtain ⟨S, hE⟩ : ∃ S, tE A s = some S := by
        cases hq : tE A s with
        | some S => exact ⟨S, rfl⟩
        | none => exact absurd (hb.mpr (by rw [hq]; rfl)) z
      rw [r5, r2, r4, nI_clamp (n := s) (by omega), (sl s hs3).1]
      refine ⟨vp_in_nI hs3 (by omega), P_copyFrom s1 (sl s hs3).2 (hx.2.2.2.2.2.1.2 s hs3 S hE) (by omega) (fun h8 f8 S8 h11 e11 => ?_)⟩
      obtain ⟨nx, hnx, u2, u0, usc⟩ := hx.2.2.2.2.1
      have F : Fr (fun a => FBa b a ∨ (q + 52 ≤ a ∧ a < q + 182)) h h11 := (f8.mono (fun a ha => Or.inr (by unfold FSc at ha; omega))).tr (by rw [e11]; exact Fr.pI (Or.inr (by omega)))
      have f11 : Fr (fun a => a = q + 60) h8 h11 := by rw [e11]; exact Fr.pI rfl
      have bs : BScr b h h11 := (BScr.out (fun a x y => (f8 a (by unfold FSc; omega)).1)).tr (BScr.out (fun a x y => (f11 a (by omega)).1))
      have U11 : PastOK h11 q [] := ⟨nx, hnx, by rw [e11, pI_n _ _ _ _ (by omega), (f8 _ (by unfold FSc; omega)).1]; exact u2, by rw [e11, pI_s]; rfl, fun i hi => absurd hi (Nat.not_lt_zero _)⟩
      have S11 : ScOK h11 (q + 52) S := S8.fr (fun a x y => (f11 a (by omega)).1)
      have m11 := C.out (F.mono (fun a ha => FP_in ap ha))
      have h42 := (m11.2.2.2.1 s hs3).1
      rw [hE] at h42
      unfold D_Mo_restore
      refine P_in1 z2 w2 ⟨fun z => absurd z z01, fun _ => ?_⟩
      rw [r64, nI_clamp (n := s) (by omega), h42]
      refine ⟨vp_in_nI hs3 (by omega), fun _ => ?_, fun w => absurd w z01⟩
      refine lp_for 512 (fun j t => ∃ h', t = (nI j, h') ∧ Fr (fun a => a = m + 31) h11 h' ∧ (∀ k, k < j → h'.1 (m + 31) k = h11.1 (m + 43) (512 * s + k))) ?_ ?_ _ ⟨h11, rfl, Fr.rf, fun k hk => absurd hk (Nat.not_lt_zero _)⟩
      · rintro j t K hj ⟨h', rfl, f', v'⟩ hK
        have ei : (512 : Int32) * nI s + nI j = nI (512 * s + j) := by rw [show (512 : Int32) * nI s = nI (512 * s) from pk_mul 512 s, nI_add]
        unfold DB_Mo_restore_22
        refine ⟨fun q => absurd ((nI_leI (a := 512) (by omega) (by omega)).mp q) (by omega), fun _ i7 e7 => ?_⟩
        rw [ei] at e7
        subst e7
        refine ⟨vp_in_nI (by omega) (by omega), vp_in_nI hj (by omega), fun h6 e6 x7 e7 => ?_⟩
        rw [nI_1] at e7; subst e7
        rw [r48, r65, nI_clamp (n := j) (by omega), nI_clamp (n := 512 * s + j) (by omega)] at e6
        replace e6 : h6 = pI h' (m + 31) j (h'.1 (m + 43) (512 * s + j)) := e6
        rw [(f' (m + 43) (by omega)).1] at e6
        refine hK _ ⟨h6, rfl, f'.tr (by rw [e6]; exact Fr.pI rfl), fun k hk => ?_⟩
        by_cases e : k = j
        · rw [e6, e, pI_s]
        · rw [e6, pI_n _ _ _ _ (by omega)]; exact v' k (by omega)
      · rintro t K ⟨h', rfl, f', v'⟩
        unfold DB_Mo_restore_22
        refine ⟨fun _ h16 e16 => ?_, fun q => absurd (show (512 : Int32) ≤ nI 512 from Int32.le_refl _) q⟩
        replace e16 : h16 = pI h' m 54 0 := e16
        have F2 : Fr (fun a => a = m ∨ a = m + 31) h11 h16 := (f'.mono (fun a ha => Or.inr ha)).tr (by rw [e16]; exact Fr.pI (Or.inl rfl))
        refine hQ _ _ _ (C.put (hA.put (hA.2.2.2.2.1 s hs3 S hE) (Nat.zero_le _) (fun i hi => absurd hi (Nat.not_lt_zero _))) bs F S11 U11 (F2.mono (fun a ha => by omega)) (m11.put (F2.mono (fun a ha => by omega)) (fun j _ _ _ _ x => ?_) ?_ ⟨?_, fun i hi2 => absurd hi2 (Nat.not_lt_zero _)⟩))
        · rw [e16, pI_n _ _ _ _ (by omega), (f' m (by omega)).1]
        · refine RowOK.cg hn (fun k hk => ?_) ((m11.2.2.2.1 s hs3).2 S hE)
          rw [e16, pI_o _ _ _ _ (by omega), v' k hk]
        · rw [e16, pI_s]; rfl
    · have hN : tE A s = none := by
        cases hq : tE A s with
        | some S => rw [hq] at hb; exact absurd (hb.mp z) (fun w => by simp at w)
        | none => rfl
      have h42 := (hm.2.2.2.1 s hs3).1
      rw [hN] at h42
      unfold D_Mo_restore
      refine P_in1 z2 w2 ⟨fun z => absurd z z01, fun _ => ?_⟩
      rw [r64, nI_clamp (n := s) (by omega), h42]
      exact ⟨vp_in_nI hs3 (by omega), fun w => absurd rfl w, fun _ => hQ _ _ _ C⟩
  · unfold D_Mo_restore
    exact P_in0 z2 ⟨fun _ => hQ _ _ _ C, fun z => absurd rfl z⟩
