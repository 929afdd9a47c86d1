theorem nm_ok {c : Nat → Nat} {n t : Nat} (h : kdT c n t = 2) : 0 < ltE c n (plT c n t) ∧ ltE c n (plT c n t) ≤ 8 ∧ plT c n t + ltE c n (plT c n t) ≤ n ∧ (∀ j, j < ltE c n (plT c n t) → isLt (c (plT c n t + j)) = true) ∧ vaT c n t = ltE c n (plT c n t) ∧ nmT c n t = nmL c (plT c n t) (ltE c n (plT c n t)) := by
  obtain ⟨l1, l2, -⟩ := lt_run (c := c) (n := n) (i := plT c n t) (posT_le t).2
  have pos : 0 < ltE c n (plT c n t) := by
    rcases Nat.eq_zero_or_pos (ltE c n (plT c n t)) with z | z
    · exfalso
      unfold kdT tkK at h
      split at h
      · omega
      · rw [z, if_neg (by omega)] at h
        split at h
        · split at h <;> omega
        · have : ∀ x, ¬ sgK x = 2 := by
            intro x
            unfold sgK
            split
            · omega
            · split
              · omega
              · split
                · omega
                · split
                  · omega
                  · split
                    · omega
                    · split
                      · omega
                      · split
                        · omega
                        · split
                          · omega
                          · split <;> omega
          exact this _ h
    · exact z
  refine ⟨pos, ?_, l1, l2, ?_, rfl⟩
  · unfold kdT tkK at h
    split at h
    · omega
    · split at h
      · omega
      · next w => omega
  · unfold vaT tkV; rw [if_pos pos]
theorem ix_or : ∀ c : Fin 256, 97 ≤ c.1 → c.1 ≤ 122 → (lok (c.1 - 96) = true ∧ ixF 2 (nI c.1).toInt8.toInt32 3 0 = nI (lkd (c.1 - 96))) ∨ (lok (c.1 - 96) = false ∧ ixF 2 (nI c.1).toInt8.toInt32 3 0 = -1) := by decide +kernel
theorem lkd_le (x : Nat) : lkd x ≤ 2 := by unfold lkd; split; omega; split <;> omega
theorem P_addRow {r : TR} {h0 h : TH} {q d n J t t1 : Nat} {f : Nat → Int32} {P : PSt} {Q : TH → Prop} (ha : apd q d) (rd : r (q + 1) 2 = d) (rb : r d 5 = d + 1) (tp : TpX r h q n f) (s : RD r h0 h q d (fun j => byC (f j)) n J t P) (hk : kdT (fun j => byC (f j)) n t1 = 2) (hH : bH (dB P) < 5) (hQ : ∀ h', RD r h0 h' q d (fun j => byC (f j)) n J t (rowS (nmT (fun j => byC (f j)) n t1) (plT (fun j => byC (f j)) n t1) P) → Q h') : D_Rd_addRow r (q + 1) (nI (plT (fun j => byC (f j)) n t1)) (nI (vaT (fun j => byC (f j)) n t1)) h Q := by
  have ha' := ha
  unfold apd at ha'
  obtain ⟨L0, L8, Ln, Ll, eV, eN⟩ := nm_ok hk
  have n2 := tp.2.2.1
  rw [eV]
  generalize plT (fun j => byC (f j)) n t1 = i0 at *
  generalize hLL : ltE (fun j => byC (f j)) n i0 = L at *
  have el : ∀ i, i < L → (nmT (fun j => byC (f j)) n t1).getD i 0 = byC (f (i0 + i)) - 96 := fun i hi => by rw [eN]; exact nmL_at _ _ _ _ hi
  have len : (nmT (fun j => byC (f j)) n t1).length = L := by rw [eN]; exact nmL_len _ _ _
  generalize nmT (fun j => byC (f j)) n t1 = ls at *
  /- the letters, then the flaw -/
  have body : ∀ (b0 : Bool) (h1 : TH), PX q d h h1 → (∀ a, ¬ a = d → h1.1 a = h.1 a) → (∀ x, ¬ x = 0 → h1.1 d x = h.1 d x) → h1.2 = h.2 → h1.1 d 0 = nI (rowW ls (dB P)) → b0 = decide (L = rowW ls (dB P)) → ∃ n', lp (fun (K : Int32 × Int32 × TH → Prop) (s : Int32 × Int32 × TH) => DB_Rd_addRow_38 r (q + 1) (nI i0) (nI L) s.1 s.2.1 s.2.2 (fun y21 y22 h23 => K (y21, y22, h23)) (fun x24 h25 => ∀ h27, h27 = pI h25 (r (q + 1) 2) 1 ((h25.1 (r (q + 1) 2) 1) + 1) → ((¬ x24 = 0 → Q h27) ∧ (x24 = 0 → D_Rd_addFlaw r (q + 1) 6 (nI i0) h27 (fun h29 => Q h29)))) Q) n' (bi b0, 0, h1) := by
    intro b0 h1 X1 o1 d1 l1 e0 eb
    have tp1 : TpX r h1 q n f := X1.tp ha tp
    have e1 : h1.1 d 1 = nI (bH (dB P)) := by rw [d1 1 (by omega)]; exact s.2.2.1.2.1.1
    refine lp_for L (fun j s' => ∃ h', s' = (bi (b0 && !exF (fun i => !lok (ls.getD i 0)) j), nI j, h') ∧ Fr (fun a => a = d + 1) h1 h' ∧ (∀ x, ¬ (8 * bH (dB P) ≤ x ∧ x < 8 * bH (dB P) + j) → h'.1 (d + 1) x = h1.1 (d + 1) x) ∧ ∀ i, i < j → lok (ls.getD i 0) = true → h'.1 (d + 1) (8 * bH (dB P) + i) = nI (lkd (ls.getD i 0))) ?_ ?_ _ ⟨h1, by rw [show exF (fun i => !lok (ls.getD i 0)) 0 = false from rfl, Bool.not_false, Bool.and_true]; rfl, Fr.rf, fun _ _ => rfl, fun i hi => by omega⟩
    · rintro j s' K hj ⟨h', rfl, f', o', g'⟩ hK
      have tp' : TpX r h' q n f := tp1.mv (by rw [(f' _ (by omega)).1]) ((f' _ (by omega)).1)
      have cl := isLt_i.mp (Ll j hj)
      have eb2 := (by_ok (tp'.2.2.2 (i0 + j) (by omega)).2).2.2.2.2.2 (by omega)
      have exs : exF (fun i => !lok (ls.getD i 0)) (j + 1) = (exF (fun i => !lok (ls.getD i 0)) j || !lok (ls.getD j 0)) := rfl
      have ei : (8 : Int32) * nI (bH (dB P)) + nI j = nI (8 * bH (dB P) + j) := by show nI 8 * nI (bH (dB P)) + nI j = _; rw [pk_mul, nI_add]
      have fin : ∀ (v : Int32) (b1 : Bool), b1 = (b0 && !exF (fun i => !lok (ls.getD i 0)) (j + 1)) → (lok (ls.getD j 0) = true → v = nI (lkd (ls.getD j 0))) → DJ_Rd_addRow_75 r (q + 1) (nI i0) (nI L) (nI j) v (bi b1) h' (fun y21 y22 h23 => K (y21, y22, h23)) (fun x24 h25 => ∀ h27, h27 = pI h25 (r (q + 1) 2) 1 ((h25.1 (r (q + 1) 2) 1) + 1) → ((¬ x24 = 0 → Q h27) ∧ (x24 = 0 → D_Rd_addFlaw r (q + 1) 6 (nI i0) h27 (fun h29 => Q h29)))) Q := by
        intro v b1 eb1 ev
        unfold DJ_Rd_addRow_75
        rw [rd, rb, (f' d (by omega)).1, e1, ei, nI_clamp (n := 8 * bH (dB P) + j) (by omega)]
        refine ⟨vp_in_nI (by omega) (by omega), fun h18 e18 x19 e19 => ?_⟩
        rw [nI_1] at e19; subst e19
        refine hK _ ⟨h18, by rw [eb1], f'.tr (by rw [e18]; exact Fr.pI rfl), fun x hx => ?_, fun i hi hl => ?_⟩
        · rw [e18, pI_n _ _ _ _ (by omega)]; exact o' x (by omega)
        · rw [e18]
          by_cases w : i = j
          · subst w; rw [pI_s]; exact ev hl
          · rw [pI_n _ _ _ _ (by omega)]; exact g' i (by omega) hl
      unfold DB_Rd_addRow_38
      refine ⟨fun z => absurd ((nI_leI (by omega) (by omega)).mp z) (by omega), fun _ i9 e9 => ?_⟩
      have e9' : i9 = nI (i0 + j) := by rw [e9, nI_add]
      subst e9'
      rw [tp'.1, nI_clamp (n := i0 + j) (by omega), (tp'.2.2.2 (i0 + j) (by omega)).1, eb2, jch8 ⟨byC (f (i0 + j)), by omega⟩]
      have ix := ix_or ⟨byC (f (i0 + j)), by omega⟩ cl.1 cl.2
      simp only [] at ix
      rw [← el j hj] at ix
      refine ⟨vp_in_nI (by omega) (by omega), P_indexOf (len := 3) (Or.inr rfl) rfl (by omega) (by omega) (by show byC (f (i0 + j)) < 256; omega) ⟨fun z => ?_, fun z => ⟨fun y => ?_, fun y => ?_⟩⟩⟩
      · unfold DJ_Rd_addRow_74
        have b1 : (b0 && !exF (fun i => !lok (ls.getD i 0)) j) = false := bi0 z
        refine fin _ false ?_ (fun hl => ?_)
        · rw [exs, Bool.not_or, ← Bool.and_assoc, b1]; rfl
        · rcases ix with w | w
          · exact w.2
          · rw [hl] at w; exact absurd w.1 (by decide)
      · unfold DJ_Rd_addRow_74
        rcases ix with w | w
        · rw [w.2] at y; exact absurd y (nI_pos (by have := lkd_le (ls.getD j 0); omega))
        · refine fin _ false ?_ (fun hl => by rw [hl] at w; exact absurd w.1 (by decide))
          rw [exs, w.1, Bool.not_false, Bool.or_true, Bool.not_true, Bool.and_false]
      · rcases ix with w | w
        · refine fin _ true ?_ (fun _ => w.2)
          have b1 := bi1 z
          rw [exs, w.1, Bool.not_true, Bool.or_false]; exact b1.symm
        · rw [w.2] at y; exact absurd (by decide) y
    · rintro s' K ⟨h', rfl, f', o', g'⟩
      unfold DB_Rd_addRow_38
      refine ⟨fun _ h27 e27 => ?_, fun z => absurd (Int32.le_refl _) z⟩
      have e1' : h'.1 d 1 = nI (bH (dB P)) := by rw [(f' d (by omega)).1]; exact e1
      rw [rd, e1', nI_1] at e27
      have X27 : PX q d h h27 := by
        refine X1.tr (PX.tr (h1 := h') ⟨f'.mono (fun a w => Or.inr (by omega)), fun x _ _ _ _ _ => by rw [(f' _ (by omega)).1], (f' _ (by omega)).1, (f' _ (by omega)).1, (f' _ (by omega)).1⟩ (by rw [e27]; exact PX.dr ha (by omega)))
      have eok : rowOk ls (dB P) = (b0 && !exF (fun i => !lok (ls.getD i 0)) L) := by unfold rowOk; rw [len, eb]
      have S27 : RdS r h27 q (fun j => byC (f j)) n J t := ⟨X27.T ha s.1.1, s.1.2.1, by rw [e27, pI_o _ _ _ _ (by omega), (f' _ (by omega)).1, o1 _ (by omega)]; exact s.1.2.2.1, by rw [e27, pI_o _ _ _ _ (by omega), (f' _ (by omega)).1, o1 _ (by omega)]; exact s.1.2.2.2⟩
      have w27 : ∀ a, ¬ a = d → ¬ a = d + 1 → h27.1 a = h.1 a := fun a x y => by rw [e27, pI_o _ _ _ _ x, (f' a y).1, o1 a x]
      have v27 : ∀ a, ¬ a = d + 1 → h27.2 a = h.2 a := fun a y => by rw [e27, pI_l, (f' a y).2, l1]
      have F27 : FlX h27 q (dF P) := s.2.2.2.2.mv (by rw [w27 _ (by omega) (by omega)]) (by rw [w27 _ (by omega) (by omega)])
      have l27 : DXl h27 d P := s.2.2.2.1.mv (fun a x y => w27 a (by omega) (by omega))
      have rW : rowW ls (dB P) ≤ 8 := by
        unfold rowW
        split
        · omega
        · exact s.2.2.1.1.2
      obtain ⟨g1, g2, g3, g4, g5, g6, g7⟩ := s.2.2.1
      have d27 : DXb h27 d (rowS ls i0 P) := by
        refine ⟨⟨by rw [e27, pI_n _ _ _ _ (by omega), (f' d (by omega)).1]; exact e0, rW⟩, ⟨by rw [e27, pI_s]; rfl, by show bH (dB P) + 1 ≤ 5; omega⟩, ⟨by rw [e27, pI_n _ _ _ _ (by omega), (f' d (by omega)).1, d1 2 (by omega)]; exact g3.1, g3.2⟩, by rw [e27, pI_n _ _ _ _ (by omega), (f' d (by omega)).1, d1 3 (by omega)]; exact g4, by rw [e27, pI_n _ _ _ _ (by omega), (f' d (by omega)).1, d1 4 (by omega)]; exact g5, fun k hk' => ?_, fun w c hc => ?_⟩
        · rw [w27 (d + 4) (by omega) (by omega), w27 (d + 5) (by omega) (by omega), w27 (d + 6) (by omega) (by omega), w27 (d + 7) (by omega) (by omega), v27 (d + 3) (by omega)]
          exact g6 k hk'
        · have w' : dF P = none ∧ rowOk ls (dB P) = true := by
            have ww : addF (!rowOk ls (dB P)) 6 i0 (dF P) = none := w
            cases hf : dF P with
            | some x => rw [hf] at ww; cases ww
            | none =>
              rw [hf] at ww
              cases hr : rowOk ls (dB P) with
              | true => exact ⟨rfl, rfl⟩
              | false => rw [hr] at ww; cases ww
          have al : ∀ i, i < L → lok (ls.getD i 0) = true := fun i hi => by
            have a := w'.2
            rw [eok, Bool.and_eq_true, Bool.not_eq_true'] at a
            have b := exF_f a.2 hi
            simp only [Bool.not_eq_false'] at b
            exact b
          show h27.1 (d + 1) c = nI (if c / 8 = bH (dB P) ∧ c % 8 < ls.length then lkd (ls.getD (c % 8) 0) else bK (dB P) c)
          rw [e27, pI_o _ _ _ _ (by omega), len]
          by_cases z : c / 8 = bH (dB P) ∧ c % 8 < L
          · rw [if_pos z]
            have := g' (c % 8) z.2 (al _ z.2)
            rw [show 8 * bH (dB P) + c % 8 = c by omega] at this
            exact this
          · rw [if_neg z, o' c (by omega), o1 (d + 1) (by omega)]
            exact g7 w'.1 c hc
      have fl : ∀ b : Bool, b = rowOk ls (dB P) → addF (!b) 6 i0 (dF P) = dF (rowS ls i0 P) := fun b e => by rw [e]; rfl
      refine ⟨fun z => ?_, fun z => ?_⟩
      · have z' : rowOk ls (dB P) = true := by rw [eok]; exact bi1 z
        refine hQ h27 ⟨S27, s.2.1.tr X27, d27, l27, ?_⟩
        rw [← fl _ rfl, z']
        have : addF (!true) 6 i0 (dF P) = dF P := by cases dF P <;> rfl
        rw [this]; exact F27
      · have z' : rowOk ls (dB P) = false := by rw [eok]; exact bi0 z
        refine P_addFlaw (k := 6) ⟨by omega, by omega⟩ F27 (fun h2 w2 F2 => ?_)
        have X2 : PX q d h27 h2 := by
          rcases w2 with w | w
          · rw [w]; exact PX.rf
          · rw [w]; exact (PX.fd ha (by omega)).tr (PX.fd ha (by omega))
        have e2 : ∀ a, ¬ a = q + 1 → h2.1 a = h27.1 a ∧ h2.2 a = h27.2 a := fun a hx => by
          rcases w2 with w | w
          · rw [w]; exact ⟨rfl, rfl⟩
          · rw [w, pI_o _ _ _ _ hx, pI_o _ _ _ _ hx, pI_l, pI_l]; exact ⟨rfl, rfl⟩
        have k2 : ∀ x, ¬ x = 5 → ¬ x = 6 → h2.1 (q + 1) x = h27.1 (q + 1) x := fun x x1 x2 => by
          rcases w2 with w | w
          · rw [w]
          · rw [w, pI_n _ _ _ _ (by omega), pI_n _ _ _ _ (by omega)]
        refine hQ h2 ⟨⟨X2.T ha S27.1, S27.2.1, by rw [k2 4 (by omega) (by omega)]; exact S27.2.2.1, by rw [k2 10 (by omega) (by omega)]; exact S27.2.2.2⟩, (s.2.1.tr X27).tr X2, d27.mv (fun a x y => e2 a (by omega)), l27.mv (fun a x y => (e2 a (by omega)).1), ?_⟩
        rw [← fl _ rfl, z']; exact F2
  have eH := s.2.2.1.2.1.1
  have eW := s.2.2.1.1.1
  have j18 : ∀ h1, PX q d h h1 → (∀ a, ¬ a = d → h1.1 a = h.1 a) → (∀ x, ¬ x = 0 → h1.1 d x = h.1 d x) → h1.2 = h.2 → h1.1 d 0 = nI (rowW ls (dB P)) → DJ_Rd_addRow_18 r (q + 1) (nI i0) (nI L) h1 Q := by
    intro h1 X1 o1 d1 l1 e0
    have rW : rowW ls (dB P) ≤ 8 := by
      unfold rowW
      split
      · omega
      · exact s.2.2.1.1.2
    unfold DJ_Rd_addRow_18
    have eb : h1.1 (r (q + 1) 2) 0 = nI (rowW ls (dB P)) := by rw [rd]; exact e0
    rw [eb]
    refine ⟨fun z => body false h1 X1 o1 d1 l1 e0 (by rw [decide_eq_false (fun w => z (by rw [w]))]), fun z => body true h1 X1 o1 d1 l1 e0 (by rw [decide_eq_true ((nI_eq (by omega) (by omega)).mp z)])⟩
  unfold D_Rd_addRow
  rw [rd, eH]
  refine ⟨fun z => j18 h PX.rf (fun _ _ => rfl) (fun _ _ => rfl) rfl ?_, fun z h44 e44 => j18 h44 (by rw [e44]; exact PX.dr ha (by omega)) (fun a w => by rw [e44, pI_o _ _ _ _ w]) (fun x w => by rw [e44, pI_n _ _ _ _ (by omega)]) (by rw [e44, pI_l]) ?_⟩
  · unfold rowW
    rw [if_neg (fun w => z (by rw [w]; rfl))]; exact eW
  · unfold rowW
    rw [if_pos ((nI_eq (b := 0) (by omega) (by omega)).mp z), e44, pI_s, len]
