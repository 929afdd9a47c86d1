/-! read: the class's side, whole -/
theorem P_SRread {r : TR} {q b d T : Nat} {h : TH} {A : St} {Q : Int32 → TR → TH → Prop} (hR : RX r q b d) (hA : AI T A) (hx : AX h q b d A) (hb : ∀ i, i < tL A → isB (tA A i))
    (hok : ∀ J P, stp (fun j => byC (tA A j)) (tL A) J → rdP (fun j => byC (tA A j)) (tL A) = .ok P → PV P → dF P = none → aflB (dB P) = true → ∀ r' h', RX r' q d b → (∀ a, q + 2 ≤ a → r' a = r a) → Fr (fun a => q ≤ a ∧ a < q + 207) h h' → AX h' q d b (newS (dB P) (tA A)) → Q 0 r' h')
    (her : ∀ J e, stp (fun j => byC (tA A j)) (tL A) J → rdP (fun j => byC (tA A j)) (tL A) = .error e → ∀ h', Fr (fun a => q ≤ a ∧ a < q + 207) h h' → AX h' q b d (errS (nI e.2) A) → Q (nI e.1) r h') : D_SR_read r q h Q := by
  have ap := hR.ap
  have apd' : apd q d := by unfold apt at ap; unfold apd; omega
  have r0 := hR.1.1
  have r1 := hR.1.2.1
  have r2 := hR.1.2.2.1
  have r4 := hR.1.2.2.2.2.1
  have r7 := hR.1.2.2.2.2.2.2.1
  obtain ⟨rt, rd, rk, rp, rv⟩ := hR.2.1
  have rbD : RBa r d := hR.2.2.2.2.2.2.2.2.1
  have hU := hA.2.2.1
  have hn : tL A ≤ 2000 := hA.2.2.2.2.2.2.2.1
  obtain ⟨x1, x2, x3, x4, x5, x6, x7, ⟨x8, x9⟩, x10⟩ := hx
  have tp : TpX r h q (tL A) (tA A) := ⟨rt, x8, hn, fun i hi => ⟨x9 i hi, hb i hi⟩⟩
  unfold D_SR_read
  rw [r0]
  have bd : (b = q + 29 ∧ d = q + 3) ∨ (b = q + 3 ∧ d = q + 29) := ap
  have wide : ∀ a, (a = q + 1 ∨ (d ≤ a ∧ a < d + 23) ∨ (q + 26 ≤ a ∧ a ≤ q + 28)) → q ≤ a ∧ a < q + 207 := fun a ha => by clear x8 rt rd rk rp rv r0 r1 r2 r4 r7; omega
  refine P_parse apd' rd rk rp rv rbD tp (fun J P sJ hP h2 Y p3 D pv hf hal h6 e6 => ⟨fun z => absurd rfl z, fun _ => ?_⟩) (fun J e sJ hP he h2 Y p3 h6 e6 => ⟨fun _ => ?_, fun z => absurd z (nI_ne0 (by omega) (by omega))⟩)
  · have Y6 : ∀ a, ¬ (a = q + 1 ∨ (d ≤ a ∧ a < d + 23) ∨ (q + 26 ≤ a ∧ a ≤ q + 28)) → h6.1 a = h.1 a ∧ h6.2 a = h.2 a := fun a ha => by
      rw [e6, pI_o _ _ _ _ (fun w => ha (Or.inl w)), pI_l]; exact Y.1 a ha
    have q1 : ¬ q + 1 = d := by clear x8 rt rd rk rp rv r0 r1 r2 r4 r7; omega
    have o6 : ∀ a, d ≤ a → h6.1 a = h2.1 a ∧ h6.2 a = h2.2 a := fun a ha => by
      have : ¬ a = q + 1 := by clear x8 rt rd rk rp rv r0 r1 r2 r4 r7; omega
      rw [e6, pI_o _ _ _ _ this, pI_l]; exact ⟨rfl, rfl⟩
    have z6 : Zs h6 d := by
      unfold Zs
      rw [(o6 _ (Nat.le_add_right _ _)).1, (o6 _ (Nat.le_add_right _ _)).1, Y.2.2.1, Y.2.2.2.2]
      exact x3
    have D6 : DXb h6 d P ∧ DXl h6 d P := ⟨D.1.mv (fun a x _ => o6 a x), D.2.1.mv (fun a x _ => (o6 a (by omega)).1)⟩
    have FX6 : FlX h6 q (dF P) := D.2.2.mv (by rw [e6, pI_n _ _ _ _ (by omega)]) (by rw [e6, pI_n _ _ _ _ (by omega)])
    have O6 : BayOK h6 d (dB P) := DX.bay ⟨D6.1, D6.2, FX6⟩ hf z6
    obtain ⟨hB, hal2⟩ := pv.bay hf hal
    unfold D_SR_takeDraft
    intro r5 e5 r7' e7
    rw [r0, rd] at e5
    have e50 : r5 q 0 = q + 1 := by rw [e5]; show (if q = q ∧ 0 = 1 then d else r q 0) = q + 1; rw [if_neg (fun w => absurd w.2 (by decide))]; exact r0
    rw [e50, r1] at e7
    have Rs : ∀ a, q + 2 ≤ a → r7' a = r a := fun a ha => by
      have n0 : ¬ a = q := fun w => by rw [w] at ha; exact absurd ha (by omega)
      have n1 : ¬ a = q + 1 := fun w => by rw [w] at ha; exact absurd ha (by omega)
      rw [e7, e5]
      funext j
      show (if a = q + 1 ∧ j = 2 then b else if a = q ∧ j = 1 then d else r a j) = r a j
      rw [if_neg (fun w => n1 w.1), if_neg (fun w => n0 w.1)]
    have qne : ¬ q = q + 1 := by omega
    have R0 : ∀ j, ¬ j = 1 → r7' q j = r q j := fun j hj => by
      rw [e7, e5]
      show (if q = q + 1 ∧ j = 2 then b else if q = q ∧ j = 1 then d else r q j) = r q j
      rw [if_neg (fun w => qne w.1), if_neg (fun w => hj w.2)]
    have R1 : ∀ j, ¬ j = 2 → r7' (q + 1) j = r (q + 1) j := fun j hj => by
      rw [e7, e5]
      show (if q + 1 = q + 1 ∧ j = 2 then b else if q + 1 = q ∧ j = 1 then d else r (q + 1) j) = r (q + 1) j
      rw [if_neg (fun w => hj w.2), if_neg (fun w => qne w.1.symm)]
    have Rb : r7' q 1 = d := by
      rw [e7, e5]
      show (if q = q + 1 ∧ 1 = 2 then b else if q = q ∧ 1 = 1 then d else r q 1) = d
      rw [if_neg (fun w => qne w.1), if_pos ⟨rfl, rfl⟩]
    have Rd : r7' (q + 1) 2 = b := by
      rw [e7]
      show (if q + 1 = q + 1 ∧ 2 = 2 then b else r5 (q + 1) 2) = b
      rw [if_pos ⟨rfl, rfl⟩]
    have hR' : RX r7' q d b := hR.swap Rs R0 R1 Rb Rd
    rw [Rb, R0 2 (by decide), R0 4 (by decide), R0 7 (by decide), r2, r4, r7]
    have rb' : RBa r7' d := hR'.2.2.2.2.2.2.2.1
    have rs' : RSc r7' (q + 52) := hR'.2.2.1.1
    clear Rb Rd R1 R0 rt rd rk rp rv r0 r1 r2 r4 r7 e50
    obtain ⟨nx, p1, p2, -, -⟩ := x5
    refine P_chart rb' O6 hB (fun h9 f9 c9 => ?_)
    have O9 : BayOK h9 d (dB P) := O6.mv0 (fun a _ _ hne => (f9 a hne).1)
    refine P_begin rb' rs' O9 hB (by unfold apart; omega) (fun h13 f13 s13 S13 => ?_)
    unfold D_Past_clear
    intro h16 e16 h18 e18 h20 e20
    have N20 : ∀ a, ¬ a = q + 60 → ¬ a = q → ¬ a = q + 183 → h20.1 a = h13.1 a := fun a y1 y2 y3 => by rw [e20, pI_o _ _ _ _ y3, e18, pI_o _ _ _ _ y2, e16, pI_o _ _ _ _ y1]
    have N13 : ∀ a, ¬ (d ≤ a ∧ a < d + 23) → ¬ (q + 52 ≤ a ∧ a < q + 56) → h13.1 a = h6.1 a := fun a y1 y2 => by rw [(f13 a (by unfold FHo FBa; omega)).1, (f9 a (by omega)).1]
    have F20 : Fr (fun a => q ≤ a ∧ a < q + 207) h h20 := by
      intro a ha
      have y : h20.1 a = h13.1 a ∧ h20.2 a = h13.2 a := ⟨N20 a (by omega) (by omega) (by omega), by rw [e20, pI_l, e18, pI_l, e16, pI_l]⟩
      have y2 := f13 a (by unfold FHo FBa; omega)
      have y3 := f9 a (by omega)
      have y4 := Y6 a (by omega)
      exact ⟨by rw [y.1, y2.1, y3.1, y4.1], by rw [y.2, y2.2, y3.2, y4.2]⟩
    refine hok J P sJ hP pv hf hal r7' h20 hR' Rs F20 ⟨(O9.scr s13).mv0 (fun a y1 y2 _ => N20 a (by omega) (by omega) (by omega)), Or.inr (fun c hc => ?_), ?_, S13.fr (fun a y1 y2 => N20 a (by omega) (by omega) (by omega)), ⟨nx, p1, ?_, ?_, fun i hi => absurd hi (Nat.not_lt_zero _)⟩, ⟨?_, fun s hs S w => (by cases w)⟩, ⟨?_, fun i hi => absurd hi (Nat.not_lt_zero _)⟩, ⟨?_, fun i hi => absurd hi (Nat.not_lt_zero _)⟩, ?_⟩
    · rw [N20 _ (by omega) (by omega) (by omega), (f13 (d + 2) (by unfold FHo FBa; omega)).1]; exact c9 c hc
    · unfold Zs
      rw [N20 _ (by omega) (by omega) (by omega), N13 _ (by omega) (by omega), (Y6 _ (by omega)).1, N20 _ (by omega) (by omega) (by omega), N13 _ (by omega) (by omega), (Y6 _ (by omega)).1]
      exact ⟨x1.2.2.2.2.2.2.2.2.2.2.1, x1.2.2.2.2.2.2.2.2.2.2.2⟩
    · rw [e20, pI_o _ _ _ _ (by omega), e18, pI_o _ _ _ _ (by omega), e16, pI_n _ _ _ _ (by omega), N13 _ (by omega) (by omega), (Y6 _ (by omega)).1]; exact p2
    · rw [e20, pI_o _ _ _ _ (by omega), e18, pI_o _ _ _ _ (by omega), e16, pI_s]; rfl
    · rw [e20, pI_o _ _ _ _ (by omega), e18, pI_s]; rfl
    · rw [e20, pI_s]; rfl
    · rw [N20 _ (by omega) (by omega) (by omega), N13 _ (by omega) (by omega), e6, pI_s]; rfl
    · rw [N20 _ (by omega) (by omega) (by omega), N13 _ (by omega) (by omega), e6, pI_n _ _ _ _ (by omega)]; exact p3
  · clear rt rd rk rp rv r0 r1 r2 r4 r7
    have f6 : Fr (fun a => a = q + 1 ∨ (d ≤ a ∧ a < d + 23) ∨ (q + 26 ≤ a ∧ a ≤ q + 28)) h h6 := fun a ha => by
      rw [e6, pI_o _ _ _ _ (fun w => ha (Or.inl w)), pI_l]; exact Y.1 a ha
    have q9 : h6.1 (d + 9) = h.1 (d + 9) := by rw [e6, pI_o _ _ _ _ (by omega)]; exact Y.2.2.1
    have q19 : h6.1 (d + 19) = h.1 (d + 19) := by rw [e6, pI_o _ _ _ _ (by omega)]; exact Y.2.2.2.2
    refine her J e sJ hP h6 (f6.mono wide) ⟨x1.mv0 (fun a y1 y2 _ => (f6 a (by omega)).1), ?_, ?_, x4.fr (fun a y1 y2 => (f6 a (by omega)).1), x5.fq f6 (fun a y1 y2 => by omega) hU, x6.fq f6 (by omega) (fun a y1 y2 => by omega), x7.fq f6 (fun a y1 y2 => by omega), ⟨by rw [e6, pI_s]; rfl, fun i hi => absurd hi (Nat.not_lt_zero _)⟩, by rw [e6, pI_n _ _ _ _ (by omega)]; exact p3⟩
    · rw [(f6 (b + 2) (by omega)).1]; exact x2
    · unfold Zs
      rw [q9, q19]; exact x3
