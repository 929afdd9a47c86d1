/-- a law object was asked: its pile and its mark may differ, nothing else -/
def SL (o : Nat) (h h' : TH) : Prop := Fr (fun a => a = o ∨ a = o + 4) h h' ∧ ∀ j, ¬ j = 6 → h'.1 o j = h.1 o j
theorem SL.rf {o : Nat} {h : TH} : SL o h h := ⟨Fr.rf, fun _ _ => rfl⟩
theorem SL.tr {o : Nat} {h h1 h2 : TH} (a : SL o h h1) (b : SL o h1 h2) : SL o h h2 := ⟨a.1.tr b.1, fun j hj => (b.2 j hj).trans (a.2 j hj)⟩
theorem SL.fr {o : Nat} {h h' : TH} (a : Fr (fun a => a = o + 4) h h') : SL o h h' := ⟨a.mono (fun _ q => Or.inr q), fun j _ => congrFun (a o (by omega)).1 j⟩
theorem SL.mark {o : Nat} {h : TH} {v : Int32} : SL o h (pI h o 6 v) := ⟨Fr.pI (Or.inl rfl), fun j hj => pI_n h o 6 v (fun q => hj q.2)⟩
theorem SL.vars {o : Nat} {h h' : TH} (a : SL o h h') : h'.1 (o + 1) = h.1 (o + 1) := (a.1 (o + 1) (by omega)).1
theorem LawOK.sl {o : Nat} {h h' : TH} {Ps : List (List Nat)} (a : SL o h h') (hL : LawOK h o Ps) : LawOK h' o Ps := by
  obtain ⟨h1, h2, h3, h4, h5, h6⟩ := hL
  exact ⟨by rw [a.2 5 (by omega)]; exact h1, h2, fun p hp => by rw [(a.1 (o + 3) (by omega)).1]; exact h3 p hp, h4, fun p hp i hi => by rw [(a.1 (o + 2) (by omega)).1]; exact h5 p hp i hi, h6⟩
theorem P_Law_whole {r : TR} {o : Nat} {h : TH} {x : Int32} {Q : Int32 → TH → Prop} (h0 : h.1 o 6 = 0 → Q x h) (h1 : ¬ h.1 o 6 = 0 → Q 0 h) : D_Law_whole r o x h Q := ⟨h0, h1⟩
/-- whole(value(p)): the piece's value, 0 if it is broken -/
theorem P_Law_wv {r : TR} {o : Nat} {Ps : List (List Nat)} {p : Nat} {h : TH} {Q : Int32 → TH → Prop} (hr : RLw r o) (hL : LawOK h o Ps) (hp : p < Ps.length) (hb : h.1 o 6 = 0)
    (hQ : ∀ h', SL o h h' → Q ((evP (h.1 (o + 1)) (Ps.getD p [])).getD 0) h') : D_Law_value r o (nI p) h (fun x h1 => D_Law_whole r o x h1 (fun x h2 => Q x h2)) := by
  refine P_Law_value hr hL hp (fun h' x hF he => ?_) (fun h' hF he => ?_)
  · have hb' : h'.1 o 6 = 0 := by rw [(hF o (by omega)).1]; exact hb
    refine P_Law_whole (fun _ => ?_) (fun q => absurd hb' q)
    have := hQ h' (SL.fr hF)
    rw [he] at this
    exact this
  · refine P_Law_whole (fun q => ?_) (fun _ => ?_)
    · rw [pI_s] at q; exact absurd q (by decide)
    · have := hQ (pI h' o 6 1) ((SL.fr hF).tr SL.mark)
      rw [he] at this
      exact this
theorem P_tells_loop {r : TR} {o : Nat} {Ps : List (List Nat)} {h0 : TH} {Q : Int32 → TH → Prop} (hr : RLw r o) (hL : LawOK h0 o Ps) (hQ : ∀ h', SL o h0 h' → Q (tellsF (h0.1 (o + 1)) Ps) h') :
    ∀ (m j : Nat) (h : TH), 3 * j + 3 * m + 1 = Ps.length → SL o h0 h → h.1 o 6 = 0 → tellsF (h0.1 (o + 1)) Ps = tellsF (h0.1 (o + 1)) (Ps.drop (3 * j)) →
      lp (fun (K : Int32 × TH → Prop) (s : Int32 × TH) => DB_Law_tells_14 r o (nI (Ps.length - 1)) s.1 s.2 (fun y18 h19 => K (y18, h19)) (fun h20 => D_Law_value r o (nI (Ps.length - 1)) h20 (fun x22 h21 => D_Law_whole r o x22 h21 (fun x24 h23 => Q x24 h23))) Q) (m + 1) (nI (3 * j), h) := by
  intro m
  induction m with
  | zero =>
    intro j h hlen hS hb ht
    have h13 := hL.2.1
    refine lp_s ?_
    unfold DB_Law_tells_14
    simp only [litI, nI_add]
    refine ⟨fun _ => ?_, fun q => absurd ?_ q⟩
    · refine P_Law_wv hr (hL.sl hS) (by omega) hb (fun h' hS' => ?_)
      have h1 := hQ h' (hS.tr hS')
      rw [ht] at h1
      have e : Ps.drop (3 * j) = [Ps.getD (Ps.length - 1) []] := by
        have e1 : 3 * j = Ps.length - 1 := by omega
        rw [e1]
        apply List.ext_getElem?
        intro i
        rw [List.getElem?_drop]
        rcases Nat.eq_zero_or_pos i with z | z
        · subst z
          rw [Nat.add_zero, List.getD_eq_getElem?_getD, List.getElem?_eq_getElem (by omega)]
          rfl
        · rw [List.getElem?_eq_none (by omega), List.getElem?_eq_none (by simp; omega)]
      rw [e] at h1
      rw [hS.vars]
      exact h1
    · exact (nI_leI (by omega) (by omega)).mpr (by omega)
  | succ m ih =>
    intro j h hlen hS hb ht
    have h13 := hL.2.1
    have ed : Ps.drop (3 * j) = Ps.getD (3 * j) [] :: Ps.getD (3 * j + 1) [] :: Ps.getD (3 * j + 2) [] :: Ps.drop (3 * (j + 1)) := by
      have g : ∀ k, k < Ps.length → Ps.drop k = Ps.getD k [] :: Ps.drop (k + 1) := by
        intro k hk
        rw [List.drop_eq_getElem_cons hk, List.getD_eq_getElem?_getD, List.getElem?_eq_getElem hk]; rfl
      rw [g (3 * j) (by omega), g (3 * j + 1) (by omega), g (3 * j + 1 + 1) (by omega)]
      have e : 3 * (j + 1) = 3 * j + 1 + 1 + 1 := by omega
      rw [e]
    obtain ⟨d, rest, er⟩ : ∃ d rest, Ps.drop (3 * (j + 1)) = d :: rest := by
      cases hc : Ps.drop (3 * (j + 1)) with
      | nil =>
        have := congrArg List.length hc
        rw [List.length_drop, List.length_nil] at this
        omega
      | cons d rest => exact ⟨d, rest, rfl⟩
    rw [ed, er] at ht
    have hv := hS.vars
    have main : ∀ K : Int32 → TH → Prop, (∀ h', SL o h0 h' → h'.1 o 6 = 0 → tellsF (h0.1 (o + 1)) Ps = tellsF (h0.1 (o + 1)) (Ps.drop (3 * (j + 1))) → K (nI (3 * (j + 1))) h') → DB_Law_tells_14 r o (nI (Ps.length - 1)) (nI (3 * j)) h K (fun h20 => D_Law_value r o (nI (Ps.length - 1)) h20 (fun x22 h21 => D_Law_whole r o x22 h21 (fun x24 h23 => Q x24 h23))) Q := by
      intro K hK
      unfold DB_Law_tells_14
      simp only [litI, nI_add]
      refine ⟨fun q => absurd ((nI_leI (by omega) (by omega)).mp q) (by omega), fun _ => ?_⟩
      refine P_Law_value hr (hL.sl hS) (by omega) (fun h1 x hF1 he1 => ?_) (fun h1 hF1 he1 => ?_)
      · have hS1 : SL o h0 h1 := hS.tr (SL.fr hF1)
        have hb1 : h1.1 o 6 = 0 := by rw [(hF1 o (by omega)).1]; exact hb
        refine P_Law_value hr (hL.sl hS1) (by omega) (fun h2 y hF2 he2 => ?_) (fun h2 hF2 he2 => ?_)
        · have hS2 : SL o h0 h2 := hS1.tr (SL.fr hF2)
          have hb2 : h2.1 o 6 = 0 := by rw [(hF2 o (by omega)).1]; exact hb1
          rw [hv] at he1
          rw [hS1.vars] at he2
          refine ⟨fun _ => ⟨fun q x13 e13 => ?_, fun q => ?_⟩, fun q => absurd hb2 q⟩
          · have e3 : x13 = nI (3 * (j + 1)) := by
              rw [e13]
              exact congrArg nI (by omega)
            rw [e3]
            refine hK h2 hS2 hb2 ?_
            rw [ht, tellsF, he1, he2, er]
            exact if_neg (by rw [Int32.not_lt]; exact q)
          · refine P_Law_wv hr (hL.sl hS2) (by omega) hb2 (fun h3 hS3 => ?_)
            have h9 := hQ h3 (hS2.tr hS3)
            rw [ht, tellsF, he1, he2] at h9
            have q' : x < y := by rw [← Int32.not_le]; exact q
            dsimp only at h9
            rw [if_pos q'] at h9
            rw [hS2.vars]
            exact h9
        · refine ⟨fun q => ?_, fun _ => ?_⟩
          · rw [pI_s] at q; exact absurd q (by decide)
          · have h9 := hQ (pI h2 o 6 1) (hS1.tr ((SL.fr hF2).tr SL.mark))
            rw [hv] at he1
            rw [hS1.vars] at he2
            rw [ht, tellsF, he1, he2] at h9
            exact h9
      · have hS1 : SL o h0 (pI h1 o 6 1) := hS.tr ((SL.fr hF1).tr SL.mark)
        rw [hv] at he1
        refine P_Law_value hr (hL.sl hS1) (by omega) (fun h2 y hF2 he2 => ?_) (fun h2 hF2 he2 => ?_)
        · have hb2 : h2.1 o 6 = 1 := by rw [(hF2 o (by omega)).1, pI_s]
          refine ⟨fun q => ?_, fun _ => ?_⟩
          · rw [hb2] at q; exact absurd q (by decide)
          · have h9 := hQ h2 (hS1.tr (SL.fr hF2))
            rw [ht, tellsF, he1] at h9
            exact h9
        · refine ⟨fun q => ?_, fun _ => ?_⟩
          · rw [pI_s] at q; exact absurd q (by decide)
          · have h9 := hQ (pI h2 o 6 1) (hS1.tr ((SL.fr hF2).tr SL.mark))
            rw [ht, tellsF, he1] at h9
            exact h9
    exact lp_s (main _ (fun h' h1 h2 h3 => ih (j + 1) h' (by omega) h1 h2 h3))
/-- tells(): what the law tells -/
theorem P_Law_tells {r : TR} {o : Nat} {Ps : List (List Nat)} {h : TH} {Q : Int32 → TH → Prop} (hr : RLw r o) (hL : LawOK h o Ps) (hm : ∃ m, Ps.length = 3 * m + 1) (hQ : ∀ h', SL o h h' → Q (tellsF (h.1 (o + 1)) Ps) h') : D_Law_tells r o h Q := by
  obtain ⟨m, hm⟩ := hm
  have h13 := hL.2.1
  unfold D_Law_tells
  intro h1 e1 x2 e2
  have hS : SL o h h1 := by rw [e1]; exact SL.mark
  have e3 : x2 = nI (Ps.length - 1) := by
    rw [e2, (hL.sl hS).1]
    exact nI_s1 (by omega)
  rw [e3]
  have hv := hS.vars
  refine ⟨m + 1, P_tells_loop (h0 := h1) hr (hL.sl hS) (fun h' hS' => ?_) m 0 h1 (by omega) SL.rf (by rw [e1, pI_s]) rfl⟩
  rw [hv]
  exact hQ h' (hS.tr hS')
