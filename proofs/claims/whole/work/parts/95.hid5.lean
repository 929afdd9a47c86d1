/-- HIDDEN -/
def hidG (B : By) (S : Sc) (k t : Nat) : Sc := hoursS B (nI (bSe B)) t (lostS k S)
def hidS (B : By) (S : Sc) (k : Nat) : Int32 := seekF (hidF B (hidG B S k) (bS B k) (2 ^ sC S k)) 40 1
def hidA (B : By) (S : Sc) (k : Nat) : Int32 := if (sL S).testBit k = true then -2 else if (sO S).testBit k = true then 0 else hidS B S k
theorem hid0_RI {B : By} {T k : Nat} {S : Sc} (hB : ByB B) (hS : SI B T S) (hk : k < bN B) (hs : sail S k = true) : RI B (2 ^ sC S k) := by
  have hc := hS.1.2.2.2.2.1 k (by have := hB.2.2.1; omega)
  have kw := hS.2.2.2.2.2.1 k hk hs
  refine ⟨p2_40 hc, fun c h => ?_⟩
  rw [Nat.testBit_two_pow, decide_eq_true_iff] at h
  subst h
  have := hB.2.2.2.2.2.1 _ hc
  split at this
  · next z => exact ⟨z.1, z.2, by omega⟩
  · omega
theorem hid_next {B : By} (hB : ByB B) {G : Nat → Sc} {st R0 t i : Nat} (h0 : RI B R0) (hn : exF (mkB B (spC B (hidR B G st R0 t) 40)) 40 = false) (hi : i < 40) : ((spC B (hidR B G st R0 t) 40).testBit i && (decide (bK B i = 0) && !htF B (windF B (sH (G (t + 1)))) (bcF (G (t + 1)) (bN B)) (st + 1) (some i))) = (hidR B G st R0 (t + 1)).testBit i := by
  have e : hidR B G st R0 (t + 1) = unF B (G (t + 1)) st (spC B (hidR B G st R0 t) 40) := rfl
  rw [e, unF_bit hi]
  cases q : (spC B (hidR B G st R0 t) 40).testBit i with
  | false => rfl
  | true =>
    have a := (spC_RI hB (hidR_RI hB (G := G) (st := st) h0 t)).2 i q
    have b := hB.2.2.2.2.2.1 i hi
    rw [if_pos ⟨a.1, a.2.1⟩] at b
    have c := exF_f hn hi
    unfold mkB at c
    rw [q, Bool.true_and] at c
    have c' := of_decide_eq_false c
    have k0 : bK B i = 0 := by omega
    rw [decide_eq_true k0, Bool.true_and]
theorem P_Mo_hidden {r : TR} {m L T k : Nat} {h : TH} {A : St} {Q : Int32 → TH → Prop} (hM : RMo r m) (hA : AI T A) (hm : AM h m L A) (hk : k < bN (tB A)) (hQ : ∀ h', Qm m h h' → Q (hidA (tB A) (tS A) k) h') : D_Mo_hidden r m (nI k) h Q := by
  have hB := hA.1
  have hn := hB.2.2.1
  have hT := hA.2.2.2.2.2.2.2.2
  have r49 : r m 49 = m + 32 := hM 49 (by decide) (by decide)
  have nk := nI_nm (k := k) (by omega)
  obtain ⟨SB, SP, SA, SH, SN, SW, SO⟩ := id hA.2.1
  unfold D_Mo_hidden
  refine P_MoisBoat hM hm.bay (rockB_B hB) (fun k' hk' e' => ⟨fun _ => ?_, fun z => absurd z z01⟩) (fun z => absurd rfl (z k hk))
  refine P_cp hM hm hB (fun h4 q4 O4 R4 w4 l4 => ?_)
  refine P_MoisLost hM R4 hn hk nk (fun z => ⟨fun q => absurd q z01, fun _ => ?_⟩) (fun z => ⟨fun _ i e => ?_, fun q => absurd rfl q⟩)
  · have := hQ h4 q4
    unfold hidA at this
    rw [if_pos z] at this
    exact this
  · have e' : i = nI (12 + k) := by rw [e]; exact nI_add 12 k
    subst e'
    rw [r49, nI_clamp (n := 12 + k) (by omega), ((R4.2.2.1 k hk).2.2.2.2 nk).1]
    have hq := hQ
    unfold hidA at hq
    rw [if_neg (by rw [z]; decide)] at hq
    refine ⟨vp_in_nI (by omega) (by omega), fun y => ?_, fun y => ?_⟩
    · have ho : (sO (tS A)).testBit k = false := by
        cases q : (sO (tS A)).testBit k with
        | false => rfl
        | true =>
          rw [q] at y
          have s := SP k hk q
          exact absurd y (nI_nle (by omega) (by omega))
      rw [if_neg (by rw [ho]; decide)] at hq
      have hs : sail (tS A) k = true := by unfold sail; rw [z, ho]; rfl
      have c40 := SB.2.2.2.2.1 k (by omega)
      have I0 := lostS_I hB hA.2.1 hk hs
      have R0 := hid0_RI hB hA.2.1 hk hs
      have hI : ∀ t, t ≤ 101 → SI (tB A) (T + t) (hidG (tB A) (tS A) k t) := fun t ht => hoursS_I (seed := nI (bSe (tB A))) hB I0 t (by omega)
      refine P_hid41 hM (by omega) c40 (R4.2.2.1 k hk).1 (R4.2.2.1 k hk).2.1 (fun h5 f5 g5 h6 e6 => ?_)
      have q6 : Qm m h4 h6 := by
        rw [e6]
        exact ⟨(f5.mono (fun a ha => by unfold FQ; omega)).tr (Fr.pI (Or.inl rfl)), fun j _ _ y _ => by rw [pI_n _ _ _ _ (by omega), (f5 m (by omega)).1]⟩
      have O6 : MBay h6 m L (-1) (tB A) := O4.mv (fun x a b => by rw [e6, pI_o _ _ _ _ (by omega), (f5 x (by omega)).1]) (by rw [e6, pI_n _ _ _ _ (by omega), (f5 m (by omega)).1]) (by rw [e6, pI_n _ _ _ _ (by omega), (f5 m (by omega)).1]; exact O4.2.2.1)
      have R6 : RowOK (h6.1 (m + 32)) (bN (tB A)) (nI k) (hidG (tB A) (tS A) k 0) := by rw [e6, pI_o _ _ _ _ (by omega), (f5 (m + 32) (by omega)).1]; exact R4.without hn SB.2.2.1 hk
      have w6 : h6.1 m 51 = nI k := by rw [e6, pI_s]
      have l6 : h6.1 m 50 = nI (bSe (tB A)) := by rw [e6, pI_n _ _ _ _ (by omega), (f5 m (by omega)).1]; exact l4
      have g6 : ∀ i, i < 40 → h6.1 (m + 36) i = bi ((hidR (tB A) (hidG (tB A) (tS A) k) (bS (tB A) k) (2 ^ sC (tS A) k) 0).testBit i) := fun i hi => by rw [e6, pI_o _ _ _ _ (by omega)]; exact g5 i hi
      refine lp_for 40 (fun t s => ∃ h7, s = (nI (1 + t), h7) ∧ Qm m h6 h7 ∧ MBay h7 m L (-1) (tB A) ∧ RowOK (h7.1 (m + 32)) (bN (tB A)) (nI k) (hidG (tB A) (tS A) k t) ∧ h7.1 m 51 = nI k ∧ h7.1 m 50 = nI (bSe (tB A)) ∧ (∀ i, i < 40 → h7.1 (m + 36) i = bi ((hidR (tB A) (hidG (tB A) (tS A) k) (bS (tB A) k) (2 ^ sC (tS A) k) t).testBit i)) ∧ hidS (tB A) (tS A) k = seekF (hidF (tB A) (hidG (tB A) (tS A) k) (bS (tB A) k) (2 ^ sC (tS A) k)) (40 - t) (1 + t)) ?_ ?_ _ ⟨h6, rfl, Qm.rf, O6, R6, w6, l6, g6, rfl⟩
      · rintro t s K ht ⟨h7, rfl, q7, O7, R7, w7, l7, g7, es⟩ hK
        have It := hI t (by omega)
        have It1 := hI (t + 1) (by omega)
        have en : 40 - t = (40 - (t + 1)) + 1 := by omega
        rw [en] at es
        have e1t : 1 + (t + 1) = 1 + t + 1 := by omega
        unfold DB_Mo_hidden_94
        refine ⟨fun q => absurd ((nI_ltI (a := 40) (by omega) (by omega)).mp q) (by omega), fun _ => ?_⟩
        refine P_hourGoes (seed := nI (bSe (tB A))) hM O7 hB rfl R7 w7 l7 It.1 It.2.1 (by have := It.2.2.2.1; omega) (fun h8 k8 R8 => ?_)
        replace R8 : RowOK (h8.1 (m + 32)) (bN (tB A)) (nI k) (hidG (tB A) (tS A) k (t + 1)) := R8
        have w8 : h8.1 m 51 = nI k := (k8.2 51 (by omega)).trans w7
        have g8 : ∀ i, i < 40 → h8.1 (m + 36) i = bi ((hidR (tB A) (hidG (tB A) (tS A) k) (bS (tB A) k) (2 ^ sC (tS A) k) t).testBit i) := fun i hi => by rw [k8.at (by unfold FMs; omega)]; exact g7 i hi
        refine P_hid109 hM (O7.mk k8) hB R8 w8 It1.2.1 hk It1.1 (hidR_RI hB R0 t) g8 (fun h9 f9 g9 => ?_)
        have q9 : Qm m h6 h9 := (q7.tr (Qm.mk k8)).tr f9.q
        have eF : hidF (tB A) (hidG (tB A) (tS A) k) (bS (tB A) k) (2 ^ sC (tS A) k) (1 + t) = if spC (tB A) (hidR (tB A) (hidG (tB A) (tS A) k) (bS (tB A) k) (2 ^ sC (tS A) k) t) 40 &&& kindM (tB A) 2 = 0 then none else some (nI (1 + t)) := by unfold hidF; rw [show 1 + t - 1 = t by omega]
        refine ⟨fun y9 => ?_, fun y9 => ?_⟩
        · have n9 := bi0 y9
          rw [if_pos (marks0.mpr n9)] at eF
          refine P_hid259 (p := fun i => (hidR (tB A) (hidG (tB A) (tS A) k) (bS (tB A) k) (2 ^ sC (tS A) k) (t + 1)).testBit i) hM (fun i hi => ?_) (fun hA' fA gA x81 e81 => ?_)
          · rw [g9 i hi, hid_next hB R0 n9 hi]
          · rw [nI_1] at e81; subst e81
            have qA : Qm m h9 hA' := Qm.fr fA (fun a ha => ⟨by unfold FQ; omega, by omega⟩)
            have OA : MBay hA' m L (-1) (tB A) := (f9.bay (O7.mk k8)).mv (fun x a b => (fA x (by omega)).1) (by rw [(fA m (by omega)).1]) (by rw [(fA m (by omega)).1]; exact (f9.bay (O7.mk k8)).2.2.1)
            refine hK _ ⟨hA', by rw [e1t], q9.tr qA, OA, ?_, ?_, ?_, gA, ?_⟩
            · rw [(fA (m + 32) (by omega)).1, (f9.1 (m + 32) (by omega)).1]; exact R8
            · rw [(fA m (by omega)).1, f9.2 51 (by omega)]; exact w8
            · rw [(fA m (by omega)).1, f9.2 50 (by omega), k8.2 50 (by omega)]; exact l7
            · rw [es, seekF_n eF, e1t]
        · have n9 := bi1 y9
          rw [if_neg (fun z => by rw [marks0.mp z] at n9; exact absurd n9 (by decide))] at eF
          have := hq h9 ((q4.tr q6).tr q9)
          rw [es, seekF_s eF] at this
          exact this
      · rintro s K ⟨h7, rfl, q7, O7, R7, w7, l7, g7, es⟩
        unfold DB_Mo_hidden_94
        refine ⟨fun _ => ?_, fun q => absurd (nI_lt (a := 40) (by omega) (by omega)) q⟩
        have := hq h7 ((q4.tr q6).tr q7)
        rw [es] at this
        exact this
    · have ho : (sO (tS A)).testBit k = true := by
        cases q : (sO (tS A)).testBit k with
        | true => rfl
        | false => rw [q] at y; exact absurd (Int32.le_refl _) y
      rw [if_pos ho] at hq
      exact hq h4 q4
theorem far0 {B : By} {c : Nat} (h : farF B c = some 0) : bK B c = 2 := by
  have a : farUp B 0 c = some 0 := farUp_down 40 (by rw [Nat.zero_add]; exact h)
  unfold farUp at a
  split at a
  · next z => exact z
  · cases a
theorem stepI_hid {B : By} {T k : Nat} {S : Sc} (hB : ByB B) (hS : SI B T S) (hk : k < bN B) (h : ¬ 0 < stepI B S k) : hidA B S k = stepI B S k := by
  unfold hidA stepI at *
  cases hl : (sL S).testBit k with
  | true => rw [if_pos rfl, if_pos rfl]
  | false =>
    rw [hl] at h
    rw [if_neg (show ¬ ((false : Bool) = true) by decide)] at h
    rw [if_neg (show ¬ ((false : Bool) = true) by decide), if_neg (show ¬ ((false : Bool) = true) by decide)]
    cases ho : (sO S).testBit k with
    | true => rw [if_pos rfl, if_pos rfl]
    | false =>
      rw [ho, if_neg (show ¬ ((false : Bool) = true) by decide)] at h
      rw [if_neg (show ¬ ((false : Bool) = true) by decide), if_neg (show ¬ ((false : Bool) = true) by decide)]
      have hs : sail S k = true := by unfold sail; rw [hl, ho]; rfl
      have kw := hS.2.2.2.2.2.1 k hk hs
      cases hf : farF B (sC S k) with
      | none =>
        show hidS B S k = -2
        refine seekF_no 40 1 (fun i a b => hid_no hB (hid0_RI hB hS hk hs) (fun c hc => ?_) a (by omega))
        rw [Nat.testBit_two_pow, decide_eq_true_iff] at hc
        subst hc
        exact ⟨kw, hf⟩
      | some x =>
        rw [hf] at h
        have h' : ¬ 0 < nI x := h
        rcases Nat.eq_zero_or_pos x with z | z
        · subst z
          have := far0 hf
          omega
        · exact absurd (nI_lt (a := 0) z (by have := farF_le hf; omega)) h'
theorem J_hidden {r : TR} {q b d m L T : Nat} {h : TH} {A : St} {a1 : Int32} {Q : Int32 → Int32 → TH → Prop} (C : Cx r q b d m L T h A) (hQ : ∀ x h', Cx r q b d m L T h' A → Q x x h') : D_SR_hidden r q a1 h (fun x h1 => D_Mo_hidden r m a1 h1 (fun y h2 => Q x y h2)) := by
  have hB := C.2.2.2.1.1
  have hn := hB.2.2.1
  obtain ⟨hR, hM, hqm, hA, hx, hm⟩ := id C
  obtain ⟨⟨-, r1, r2, r3, -⟩, -, ⟨s1, s2, -⟩, -, -, -, -, rb, -, ap⟩ := id hR
  have hT := hA.2.2.2.2.2.2.2.2
  have hap : apart b (q + 56) := by unfold apart; rcases ap with x | x <;> omega
  unfold D_SR_hidden
  refine P_SRisBoat (B := tB A) r1 hx.1.2.2.1 hB (fun k hk e => ⟨fun _ => ?_, fun z => absurd z z01⟩) (fun hnk => ⟨fun z => absurd rfl z, fun _ => ?_⟩)
  · subst e
    refine P_stepsToMark hR hA hx hk ⟨fun z => ?_, fun z => ?_⟩
    · obtain ⟨x, hx0, hx40, hs, hf, ex⟩ := stepI_pos z
      have c40 := hA.2.1.1.2.2.2.2.1 k (by omega)
      have I0 := lostS_I hB hA.2.1 hk hs
      have R0 := hid0_RI hB hA.2.1 hk hs
      have hst := (hB.2.2.2.2.2.2.1 k hk).2.2.1
      have hI : ∀ t, t ≤ 101 → SI (tB A) (T + t) (hidG (tB A) (tS A) k t) := fun t ht => hoursS_I (seed := nI (bSe (tB A))) hB I0 t (by omega)
      have ea : hidA (tB A) (tS A) k = hidS (tB A) (tS A) k := by
        unfold sail at hs
        rw [Bool.and_eq_true, Bool.not_eq_true', Bool.not_eq_true'] at hs
        unfold hidA
        rw [if_neg (by rw [hs.1]; decide), if_neg (by rw [hs.2]; decide)]
      have mo : ∀ h1 : TH, Fr (FX q b) h h1 → BScr b h h1 → D_Mo_hidden r m (nI k) h1 (fun y h2 => Q (hidS (tB A) (tS A) k) y h2) := by
        intro h1 f1 t1
        have C1 := C.x f1 t1
        refine P_Mo_hidden hM hA C1.2.2.2.2.2 hk (fun h2 q2 => ?_)
        rw [ea]
        exact hQ _ _ (C1.m q2)
      refine P_lookWithout hR hA hx (by omega) (fun h1 f1 t1 S1 => ⟨vp_in_nI (by omega) (by omega), fun x12 e12 => ?_⟩)
      have O1 := hx.1.scr t1
      have x1 := (C.x f1 t1).2.2.2.2.1
      rw [r2, s1.1, nI_clamp (n := k) (by omega), x1.2.2.2.1.2.2.2.2.1 k (by omega), lsh c40] at e12
      subst e12
      rw [r1]
      refine P_cellsOf (x := 2) rb O1 hB (by omega) ?_
      refine lp_for 40 (fun t s => ∃ h', s = (lN (hidR (tB A) (hidG (tB A) (tS A) k) (bS (tB A) k) (2 ^ sC (tS A) k) t), nI (1 + t), h') ∧ Fr (FX q b) h h' ∧ BScr b h h' ∧ ScOK h' (q + 56) (hidG (tB A) (tS A) k t) ∧ hidS (tB A) (tS A) k = seekF (hidF (tB A) (hidG (tB A) (tS A) k) (bS (tB A) k) (2 ^ sC (tS A) k)) (40 - t) (1 + t)) ?_ ?_ _ ⟨h1, rfl, f1, t1, S1, rfl⟩
      · rintro t s K ht ⟨h', rfl, f', t', S', es⟩ hK
        have It := hI t (by omega)
        have It1 := hI (t + 1) (by omega)
        have en : 40 - t = (40 - (t + 1)) + 1 := by omega
        rw [en] at es
        have e1t : 1 + (t + 1) = 1 + t + 1 := by omega
        have RIt := hidR_RI hB (G := hidG (tB A) (tS A) k) (st := bS (tB A) k) R0 t
        have RIs := spC_RI hB RIt
        have eF : hidF (tB A) (hidG (tB A) (tS A) k) (bS (tB A) k) (2 ^ sC (tS A) k) (1 + t) = if spC (tB A) (hidR (tB A) (hidG (tB A) (tS A) k) (bS (tB A) k) (2 ^ sC (tS A) k) t) 40 &&& kindM (tB A) 2 = 0 then none else some (nI (1 + t)) := by unfold hidF; rw [show 1 + t - 1 = t by omega]
        unfold DB_SR_hidden_52
        refine ⟨fun q => absurd ((nI_ltI (a := 40) (by omega) (by omega)).mp q) (by omega), fun _ => ?_⟩
        rw [r1, r3]
        refine P_hourX C f' t' S' It.1 (by have := It.2.2.2.1; omega) (fun h8 f8 t8 S8 => ?_)
        replace S8 : ScOK h8 (q + 56) (hidG (tB A) (tS A) k (t + 1)) := S8
        have O8 := hx.1.scr t8
        refine P_spread rb O8 hB RIt.1 ?_
        refine ⟨fun y => ⟨vp_in_nI (by omega) (by omega), ?_⟩, fun y => ?_⟩
        · have y' := (land0 RIs.1).mp y
          rw [if_pos y'] at eF
          rw [rb.1.2.2.2.2.2.1, nI_clamp (n := k) (by omega), (O8.2.2.2.2.2.2.1 k hk).2.2.1]
          refine P_unsmelt rb s2 O8 hB S8 It1.1 hap RIs.1 hst (fun h9 f9 t9 x36 e36 => ?_)
          rw [nI_1] at e36; subst e36
          have ff := f8.tr (f9.mono (fun a ha => Or.inl ha))
          refine hK _ ⟨h9, by rw [e1t]; rfl, ff, t8.tr t9, ?_, ?_⟩
          · exact S8.fr (fun a x y => (f9 a (by unfold FBa; unfold apart at hap; omega)).1)
          · rw [es, seekF_n eF, e1t]
        · have y' : ¬ spC (tB A) (hidR (tB A) (hidG (tB A) (tS A) k) (bS (tB A) k) (2 ^ sC (tS A) k) t) 40 &&& kindM (tB A) 2 = 0 := fun z => y ((land0 RIs.1).mpr z)
          rw [if_neg y'] at eF
          have := mo h8 f8 t8
          rw [es, seekF_s eF] at this
          exact this
      · rintro s K ⟨h', rfl, f', t', S', es⟩
        unfold DB_SR_hidden_52
        refine ⟨fun _ => ?_, fun q => absurd (nI_lt (a := 40) (by omega) (by omega)) q⟩
        have := mo h' f' t'
        rw [es] at this
        exact this
    · refine P_Mo_hidden hM hA hm hk (fun h2 q2 => ?_)
      rw [stepI_hid hB hA.2.1 hk z]
      exact hQ _ _ (C.m q2)
  · unfold D_Mo_hidden
    exact P_MoisBoat hM hm.bay (rockB_B hB) (fun k hk e => absurd e (hnk k hk)) (fun _ => ⟨fun z => absurd rfl z, fun _ => hQ _ _ C⟩)
