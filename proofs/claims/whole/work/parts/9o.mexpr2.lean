theorem XF.T {r : TR} {h h' : TH} {m n J K0 hi : Nat} {c : Nat → Nat} (x : XF m K0 hi h h') (s : RfT r h m c n J) : RfT r h' m c n J := s.mv (fun a p q => x.1 a (by omega))
theorem XF.wt {m K0 hi j : Nat} {h : TH} {v : Int32} : XF m K0 hi h (pI h (m + 28) j v) := ⟨Fr.pI (Or.inr (Or.inr (Or.inr rfl))), fun i _ _ _ _ _ _ => by rw [pI_o _ _ _ _ (by omega)], fun x _ => by rw [pI_o _ _ _ _ (by omega), pI_o _ _ _ _ (by omega)]; exact ⟨rfl, rfl⟩⟩
theorem FaultM.X {m K0 hi k p : Nat} {h h' : TH} (f : FaultM m k p h h') : XF m K0 hi h h' := by
  unfold FaultM at f
  rw [f]
  exact (XF.fd (by omega)).tr (XF.fd (by omega))
theorem FaultM.S {m K0 k p : Nat} {h h' : TH} {s cs : List Nat} (f : FaultM m k p h h') (x : XS h m K0 s cs) : XS h' m K0 s cs := by
  unfold FaultM at f
  rw [f]
  exact (x.fd ⟨by omega, by omega⟩).fd ⟨by omega, by omega⟩
/-- a sign waits -/
theorem XS.push {h : TH} {m K0 y : Nat} {s cs : List Nat} (x : XS h m K0 s cs) : XS (pI (pI h (m + 28) s.length (nI (mkK y))) m 44 (nI (s.length + 1))) m K0 (y :: s) cs := by
  obtain ⟨x1, x2, x3, x4⟩ := x
  refine ⟨by rw [pI_s]; rfl, ⟨by rw [pI_o _ _ _ _ (by omega), pI_s], stk_mv s (fun z hz => by rw [pI_o _ _ _ _ (by omega), pI_n _ _ _ _ (by omega)]) x2⟩, by rw [pI_n _ _ _ _ (by omega), pI_o _ _ _ _ (by omega)]; exact x3, fun i hi => ?_⟩
  rw [pI_o _ _ _ _ (by omega), pI_o _ _ _ _ (by omega), pI_o _ _ _ _ (by omega), pI_o _ _ _ _ (by omega)]; exact x4 i hi
theorem P_goesOnF {r : TR} {h : TH} {m : Nat} {Q : TH → Prop} (f : ¬ h.1 m 13 ≤ 0) (hQ : ∀ h', (h' = h ∨ ∃ v, h' = pI h m 11 v) → Q h') : D_Mo_goesOn r m h Q := by
  unfold D_Mo_goesOn
  exact ⟨fun _ h2 e2 => hQ h2 (Or.inr ⟨_, e2⟩), fun _ => P_MfailF f (hQ h (Or.inl rfl))⟩
def EM (r : TR) (h : TH) (m : Nat) (c : Nat → Nat) (n J K0 B t : Nat) (s cs : List Nat) : Prop := RfS r h m c n J t ∧ XS h m K0 s cs ∧ h.1 m 12 = nI (cntO s) ∧ shp s ∧ cntO s ≤ 6 ∧ K0 + cs.length + s.length ≤ B + t
theorem EM.len {r : TR} {h : TH} {m n J K0 B t : Nat} {c : Nat → Nat} {s cs : List Nat} (e : EM r h m c n J K0 B t s cs) : s.length ≤ 20 := by
  have a := (shp_len s e.2.2.2.1).1
  have b := e.2.2.2.2.1
  omega
theorem mk_var : ∀ k : Fin 32, (¬ mkK k.1 < 30 ↔ (14 ≤ k.1 ∧ k.1 < 23)) := by decide
theorem mk_v2 : ∀ k : Fin 32, 14 ≤ k.1 → k.1 < 23 → mkK k.1 = k.1 + 16 := by decide
theorem P_expression {r : TR} {h : TH} {m n J t0 K0 B hi : Nat} {c : Nat → Nat} {Q : TH → Prop} (s0 : RfS r h m c n J t0) (hJ : Jok (kdT c n) J) (hv : ∀ t, kdT c n t = 3 → vaT c n t ≤ 9999) (ho : h.1 m 12 = 0) (hK : h.1 m 40 = nI K0) (hb : K0 ≤ B + t0) (hB : B + 410 ≤ hi) (hhi : hi ≤ 840)
    (hok : ∀ p, mcT (kdT c n) (plT c n) (vaT c n) true t0 [] [] = .ok p → ∀ h', XF m K0 hi h h' → RfS r h' m c n J p.1 → h'.1 m 12 = 0 → h'.1 m 40 = nI (K0 + p.2.length) → (∀ i, i < p.2.length → tokM (h'.1 (m + 26) (K0 + i)) (h'.1 (m + 27) (K0 + i)) (p.2.getD i 0)) → Q h')
    (her : ∀ e, mcT (kdT c n) (plT c n) (vaT c n) true t0 [] [] = .error e → ∀ h', XF m K0 hi h h' → RfF h' m e.1 e.2 → Q h') : D_Mo_expression r m h Q := by
  have hr := s0.1.1
  have j4 := hJ.1
  have r43 : r m 43 = m + 28 := hr 43 (by decide) (by decide)
  have r5 : r m 5 = m + 3 := hr 5 (by decide) (by decide)
  have r7 : r m 7 = m + 5 := hr 7 (by decide) (by decide)
  have two : (¬ (2 : Nat) = 0 ∧ (2 : Nat) ≤ 9) := ⟨by decide, by decide⟩
  have one : (¬ (1 : Nat) = 0 ∧ (1 : Nat) ≤ 9) := ⟨by decide, by decide⟩
  unfold D_Mo_expression
  intro h1 e1 x2 e2
  rw [e1, pI_n _ _ _ _ (by omega), ho] at e2
  subst e2
  have X1 : XF m K0 hi h h1 := by rw [e1]; exact XF.fd (by omega)
  have E1 : EM r h1 m c n J K0 B t0 [] [] := by
    refine ⟨⟨X1.T s0.1, s0.2.1, by rw [e1, pI_n _ _ _ _ (by omega)]; exact s0.2.2.1, by rw [e1, pI_n _ _ _ _ (by omega)]; exact s0.2.2.2⟩, ⟨by rw [e1, pI_s]; rfl, trivial, by rw [e1, pI_n _ _ _ _ (by omega)]; exact hK, fun i hi => absurd hi (Nat.not_lt_zero _)⟩, by rw [e1, pI_n _ _ _ _ (by omega)]; exact ho, trivial, by show (0 : Nat) ≤ 6; omega, by show K0 + 0 + 0 ≤ _; omega⟩
  generalize hM : mcT (kdT c n) (plT c n) (vaT c n) true t0 [] [] = M0 at hok her
  have hM1 := hM.symm
  refine lp_inv (fun s => ∃ h', s = (1, h') ∧ XF m K0 hi h h' ∧ ((∃ t s cs, EM r h' m c n J K0 B t s cs ∧ M0 = mcT (kdT c n) (plT c n) (vaT c n) true t s cs) ∨ (∃ e : Nat × Nat, RfF h' m e.1 e.2 ∧ M0 = .error e))) (fun s => if s.2.1 m 13 = 0 then 402 - (s.2.1 m 11).toNatClampNeg else 0) ?_ _ ⟨h1, rfl, X1, Or.inl ⟨t0, [], [], E1, hM1⟩⟩
  rintro K s ⟨h', rfl, X', st⟩ hK'
  unfold DB_Mo_expression_12
  refine ⟨fun z => absurd z z01, fun _ => ?_⟩
  rcases st with ⟨t, s, cs, E, eM⟩ | ⟨e, F, eM⟩
  rotate_left
  · exact ⟨fun _ => her e eM h' X' F, fun z => absurd z F.ne⟩
  have f0 := E.1.2.2.1
  have et := E.1.2.2.2
  have tJ := E.1.2.1
  have muE : ∀ (h2 : TH) (t2 : Nat), h2.1 m 13 = 0 → h2.1 m 11 = nI t2 → t2 ≤ 400 → (if h2.1 m 13 = 0 then 402 - (h2.1 m 11).toNatClampNeg else 0) = 402 - t2 := fun h2 t2 a b d => by rw [if_pos a, b, nI_clamp (by omega)]
  have muF : ∀ (h2 : TH) (e : Nat × Nat), RfF h2 m e.1 e.2 → (if h2.1 m 13 = 0 then 402 - (h2.1 m 11).toNatClampNeg else 0) = 0 := fun h2 e F => if_neg F.ne
  refine ⟨fun z => absurd f0 z, fun _ => ?_⟩
  /- behind an operand -/
  have after : ∀ (h3 : TH) (t3 : Nat) (s3 cs3 : List Nat), XF m K0 hi h h3 → EM r h3 m c n J K0 B t3 s3 cs3 → t < t3 → M0 = mcT (kdT c n) (plT c n) (vaT c n) false t3 s3 cs3 → ∃ n, lp (fun (K2 : TH → Prop) (s : TH) => DB_Mo_expression_96 r m 0 s (fun y71 h72 => K (y71, h72)) (fun h33 => K2 h33) (fun h34 => DJ_Mo_expression_145 r m 0 h34 (fun y71 h72 => K (y71, h72)) (fun h73 => Q h73) Q) (fun h73 => Q h73) Q) n h3 := by
    intro h3 t3 s3 cs3 X3 E3 lt3 eM3
    refine lp_inv (fun h4 => XF m K0 hi h h4 ∧ ((∃ t4 s4 cs4, EM r h4 m c n J K0 B t4 s4 cs4 ∧ t < t4 ∧ M0 = mcT (kdT c n) (plT c n) (vaT c n) false t4 s4 cs4) ∨ (∃ (e : Nat × Nat) (s4 cs4 : List Nat), RfF h4 m e.1 e.2 ∧ M0 = .error e ∧ XS h4 m K0 s4 cs4 ∧ shp s4 ∧ s4.length ≤ 60 ∧ K0 + cs4.length + s4.length ≤ B + 402))) (fun h4 => if h4.1 m 13 = 0 then 402 - (h4.1 m 11).toNatClampNeg else 0) ?_ _ ⟨X3, Or.inl ⟨t3, s3, cs3, E3, lt3, eM3⟩⟩
    rintro K2 h4 ⟨X4, st4⟩ hK2
    rcases st4 with ⟨t4, s4, cs4, E4, lt4, eM4⟩ | ⟨e, s4, cs4, F4, eM4, x4, sh4, l4, b4⟩
    · obtain ⟨S4, x4, o4, sh4, c4, b4⟩ := id E4
      have l4 := E4.len
      have T4 := S4.2.1
      have h44 : t4 ≤ 400 := by omega
      have kl := kdT_lt c n t4
      rw [mcT_A h44] at eM4
      /- no closing one -/
      have k145 : ¬ (kdT c n t4 = 31 ∧ 0 < cntO s4) → DJ_Mo_expression_145 r m 0 h4 (fun y71 h72 => K (y71, h72)) (fun h73 => Q h73) Q := by
        intro nc
        rw [if_neg nc] at eM4
        have op : ∀ st : Bool, (st = true → kdT c n t4 = 27 ∨ kdT c n t4 = 28) → (st = false → kdT c n t4 = 25 ∨ kdT c n t4 = 26) → DJ_Mo_expression_234 r m 0 1 (bi st) m h4 (fun y71 h72 => K (y71, h72)) (fun h73 => Q h73) Q := by
          intro st st1 st0
          have eM5 : M0 = if t4 < 400 then mcT (kdT c n) (plT c n) (vaT c n) true (t4 + 1) (kdT c n t4 :: rsB st s4) (cs4 ++ flB st s4) else .error (2, plT c n t4) := by
            cases st with
            | true => rw [eM4, if_pos (st1 rfl)]; rfl
            | false => rw [eM4, if_neg (by have := st0 rfl; omega), if_pos (st0 rfl)]; rfl
          have rb : shp (kdT c n t4 :: rsB st s4) ∧ cntO (rsB st s4) = cntO s4 ∧ (rsB st s4).length + (flB st s4).length = s4.length := by
            cases st with
            | true =>
              have a := rsS_sh sh4
              exact ⟨⟨a.1, Or.inr (Or.inr ⟨st1 rfl, a.2.1⟩)⟩, a.2.2.1, a.2.2.2⟩
            | false =>
              have a := rsW_sh s4 sh4
              exact ⟨⟨a.1, Or.inr (Or.inl ⟨st0 rfl, a.2.1⟩)⟩, a.2.2.1, a.2.2.2.1⟩
          have kk : 25 ≤ kdT c n t4 ∧ kdT c n t4 ≤ 28 := by
            cases st with
            | true => have := st1 rfl; omega
            | false => have := st0 rfl; omega
          unfold DJ_Mo_expression_234
          refine P_comesOut (hi := hi) hr x4 sh4 (by omega) (by omega) (by omega) (fun h5 X5 k5 x5 i47 e47 => ?_)
          have S5 : RfS r h5 m c n J t4 := ⟨X5.T S4.1, T4, by rw [k5 13 (by omega) (by omega)]; exact S4.2.2.1, by rw [k5 11 (by omega) (by omega)]; exact S4.2.2.2⟩
          rw [S5.2.2.2] at e47
          subst e47
          have rl : (rsB st s4).length ≤ 20 := by omega
          rw [x5.1, r43, r5, nI_clamp (n := t4) (by omega), nI_clamp (n := (rsB st s4).length) (by omega), (S5.1.2.1 t4 T4).1]
          refine ⟨vp_in_nI (by omega) (by omega), vp_in_nI (by omega) (by omega), fun h6 e6 h7 e7 => ?_⟩
          have e7' : h7 = pI (pI h5 (m + 28) (rsB st s4).length (nI (mkK (kdT c n t4)))) m 44 (nI ((rsB st s4).length + 1)) := by
            rw [e7, e6, pI_o _ _ _ _ (by omega), x5.1, nI_1]
          have x7 : XS h7 m K0 (kdT c n t4 :: rsB st s4) (cs4 ++ flB st s4) := by rw [e7']; exact x5.push
          have X7 : XF m K0 hi h5 h7 := by rw [e7']; exact XF.wt.tr (XF.fd (by omega))
          have m7 : ∀ j, ¬ j = 44 → h7.1 m j = h5.1 m j := fun j hj => by rw [e7', pI_n _ _ _ _ (by omega), pI_o _ _ _ _ (by omega)]
          have S7 : RfS r h7 m c n J t4 := ⟨X7.T S5.1, T4, by rw [m7 13 (by omega)]; exact S5.2.2.1, by rw [m7 11 (by omega)]; exact S5.2.2.2⟩
          have XX := (X4.tr X5).tr X7
          refine P_goesOn S7 (fun t4' => ?_) (fun t4' h8 f8 => ?_)
          · rw [if_pos t4'] at eM5
            refine hK' _ ⟨_, rfl, XX.tr (XF.fd (by omega)), Or.inl ⟨t4 + 1, _, _, ⟨⟨(XF.fd (K0 := K0) (hi := hi) (by omega)).T S7.1, hJ.2 t4 T4 (by omega) t4', by rw [pI_n _ _ _ _ (by omega)]; exact S7.2.2.1, pI_s _ _ _ _⟩, x7.fd ⟨by omega, by omega⟩, ?_, rb.1, ?_, ?_⟩, eM5⟩⟩ ?_
            · rw [pI_n _ _ _ _ (by omega), m7 12 (by omega), k5 12 (by omega) (by omega), o4]
              show nI (cntO s4) = nI ((if kdT c n t4 = 30 then 1 else 0) + cntO (rsB st s4))
              rw [if_neg (by omega), rb.2.1, Nat.zero_add]
            · show (if kdT c n t4 = 30 then 1 else 0) + cntO (rsB st s4) ≤ 6
              rw [if_neg (by omega), rb.2.1]; omega
            · rw [List.length_append]
              show K0 + (cs4.length + (flB st s4).length) + ((rsB st s4).length + 1) ≤ B + (t4 + 1)
              omega
            · show (if (pI h7 m 11 (nI (t4 + 1))).1 m 13 = 0 then 402 - ((pI h7 m 11 (nI (t4 + 1))).1 m 11).toNatClampNeg else 0) < (if h'.1 m 13 = 0 then 402 - (h'.1 m 11).toNatClampNeg else 0)
              rw [muE _ (t4 + 1) (by rw [pI_n _ _ _ _ (by omega)]; exact S7.2.2.1) (pI_s _ _ _ _) (by omega), muE h' t f0 et (by omega)]; omega
          · rw [if_neg t4'] at eM5
            have F8 := f8.F two
            refine hK' _ ⟨h8, rfl, XX.tr f8.X, Or.inr ⟨(2, plT c n t4), F8, eM5⟩⟩ ?_
            show (if h8.1 m 13 = 0 then 402 - (h8.1 m 11).toNatClampNeg else 0) < (if h'.1 m 13 = 0 then 402 - (h'.1 m 11).toNatClampNeg else 0)
            rw [muF h8 (2, plT c n t4) F8, muE h' t f0 et (by omega)]; omega
        have p186 : (25 ≤ kdT c n t4 ∧ kdT c n t4 ≤ 28) → DJ_Mo_expression_186 r m 0 1 h4 (fun y71 h72 => K (y71, h72)) (fun h73 => Q h73) Q := by
          intro kk
          unfold DJ_Mo_expression_186 DJ_Mo_expression_229
          refine ⟨fun _ => ?_, fun z => absurd z z01⟩
          refine P_is (k := 27) S4 (by omega) (fun y => ⟨fun _ => op true (fun _ => Or.inl y) (fun w => by cases w), fun z => absurd z z01⟩) (fun y => ⟨fun z => absurd rfl z, fun _ => ?_⟩)
          refine P_is (k := 28) S4 (by omega) (fun y2 => ⟨fun z => absurd z z01, fun _ => op true (fun _ => Or.inr y2) (fun w => by cases w)⟩) (fun y2 => ⟨fun _ => op false (fun w => by cases w) (fun _ => by omega), fun z => absurd rfl z⟩)
        unfold DJ_Mo_expression_145 DJ_Mo_expression_181
        refine P_is (k := 25) S4 (by omega) (fun y => ⟨fun _ => p186 (by omega), fun z => absurd z z01⟩) (fun y1 => ⟨fun z => absurd rfl z, fun _ => ?_⟩)
        refine P_is (k := 26) S4 (by omega) (fun y => ⟨fun _ => p186 (by omega), fun z => absurd z z01⟩) (fun y2 => ⟨fun z => absurd rfl z, fun _ => ?_⟩)
        refine P_is (k := 27) S4 (by omega) (fun y => ⟨fun _ => p186 (by omega), fun z => absurd z z01⟩) (fun y3 => ⟨fun z => absurd rfl z, fun _ => ?_⟩)
        refine P_is (k := 28) S4 (by omega) (fun y => ⟨fun z => absurd z z01, fun _ => p186 (by omega)⟩) (fun y4 => ⟨fun _ => ?_, fun z => absurd rfl z⟩)
        rw [if_neg (by omega), if_neg (by omega)] at eM4
        unfold DJ_Mo_expression_186
        rw [o4]
        refine ⟨fun z => absurd rfl z, fun _ => ⟨fun z => ?_, fun z => ?_⟩⟩
        · have c0 : cntO s4 = 0 := by have := (nI_leI (b := 0) (by omega) (by omega)).mp z; omega
          rw [if_neg (by omega)] at eM4
          refine P_comesOut (st := false) (hi := hi) hr x4 sh4 (by omega) (by omega) (by omega) (fun h5 X5 k5 x5 => ?_)
          refine hok (t4, cs4 ++ flW s4) eM4 h5 (X4.tr X5) ⟨X5.T S4.1, T4, by rw [k5 13 (by omega) (by omega)]; exact S4.2.2.1, by rw [k5 11 (by omega) (by omega)]; exact S4.2.2.2⟩ ?_ x5.2.2.1 x5.2.2.2
          rw [k5 12 (by omega) (by omega), o4, c0]; rfl
        · have c0 : 0 < cntO s4 := by
            rcases Nat.eq_zero_or_pos (cntO s4) with w | w
            · rw [w] at z; exact absurd (Int32.le_refl _) z
            · exact w
          rw [if_pos c0] at eM4
          refine P_Mfail (k := 1) S4 (fun h5 f5 => ?_)
          have F5 := f5.F one
          refine P_comesOut (st := false) (hi := hi) hr (f5.S x4) sh4 (by omega) (by omega) (by omega) (fun h6 X6 k6 x6 => ?_)
          exact her (1, plT c n t4) eM4 h6 ((X4.tr f5.X).tr X6) ⟨F5.1, by rw [k6 13 (by omega) (by omega)]; exact F5.2.1, by rw [k6 14 (by omega) (by omega)]; exact F5.2.2⟩
      unfold DB_Mo_expression_96
      refine P_is (k := 31) S4 (by omega) (fun y => ⟨fun z => absurd z z01, fun _ => ⟨fun z => k145 (fun w => ?_), fun z => ?_⟩⟩) (fun y => ⟨fun _ => k145 (fun w => y w.1), fun z => absurd rfl z⟩)
      · rw [o4] at z
        exact absurd z (nI_nle w.2 (by omega))
      · have c0 : 0 < cntO s4 := by
          rcases Nat.eq_zero_or_pos (cntO s4) with w | w
          · rw [o4, w] at z; exact absurd (Int32.le_refl _) z
          · exact w
        rw [if_pos ⟨y, c0⟩] at eM4
        obtain ⟨a1, a2, a3, a4, a5, a6⟩ := rsW_sh s4 sh4
        obtain ⟨a7, a8⟩ := a6 c0
        refine P_comesOut (st := false) (hi := hi) hr x4 sh4 (by omega) (by omega) (by omega) (fun h5 X5 k5 x5 h6 e6 h7 e7 => ?_)
        replace x5 : XS h5 m K0 (rsW s4) (cs4 ++ flW s4) := x5
        have e6' : h6 = pI h5 m 44 (nI (rsW s4).tail.length) := by rw [e6, x5.1, ← a8]; congr 1; exact nI_pred _
        have e7' : h7 = pI h6 m 12 (nI (cntO (rsW s4).tail)) := by rw [e7, e6', pI_n _ _ _ _ (by omega), k5 12 (by omega) (by omega), o4, ← a7]; congr 1; exact nI_pred _
        have st5 : stk h5 m (rsW s4).tail := by
          have := x5.2.1
          cases hw : rsW s4 with
          | nil => trivial
          | cons y u => rw [hw] at this; exact this.2
        have x7 : XS h7 m K0 (rsW s4).tail (cs4 ++ flW s4) := by
          rw [e7']
          refine XS.fd ⟨by omega, by omega⟩ ?_
          rw [e6']
          exact ⟨pI_s _ _ _ _, stk_mv _ (fun w _ => by rw [pI_o _ _ _ _ (by omega)]) st5, by rw [pI_n _ _ _ _ (by omega)]; exact x5.2.2.1, fun i hi' => by rw [pI_o _ _ _ _ (by omega), pI_o _ _ _ _ (by omega)]; exact x5.2.2.2 i hi'⟩
        have X7 : XF m K0 hi h5 h7 := by rw [e7', e6']; exact (XF.fd (by omega)).tr (XF.fd (by omega))
        have m7 : ∀ j, ¬ j = 44 → ¬ j = 12 → h7.1 m j = h5.1 m j := fun j j1 j2 => by rw [e7', pI_n _ _ _ _ (by omega), e6', pI_n _ _ _ _ (by omega)]
        have S7 : RfS r h7 m c n J t4 := ⟨X7.T (X5.T S4.1), T4, by rw [m7 13 (by omega) (by omega), k5 13 (by omega) (by omega)]; exact S4.2.2.1, by rw [m7 11 (by omega) (by omega), k5 11 (by omega) (by omega)]; exact S4.2.2.2⟩
        have XX := (X4.tr X5).tr X7
        have o7 : h7.1 m 12 = nI (cntO (rsW s4).tail) := by rw [e7', pI_s]
        refine P_goesOn S7 (fun t4' => ?_) (fun t4' h8 f8 => ?_)
        · rw [if_pos t4'] at eM4
          refine hK2 _ ⟨XX.tr (XF.fd (by omega)), Or.inl ⟨t4 + 1, _, _, ⟨⟨(XF.fd (K0 := K0) (hi := hi) (by omega)).T S7.1, hJ.2 t4 T4 (by omega) t4', by rw [pI_n _ _ _ _ (by omega)]; exact S7.2.2.1, pI_s _ _ _ _⟩, x7.fd ⟨by omega, by omega⟩, by rw [pI_n _ _ _ _ (by omega)]; exact o7, a5, by omega, ?_⟩, by omega, eM4⟩⟩ ?_
          · rw [List.length_append]; omega
          · show (if (pI h7 m 11 (nI (t4 + 1))).1 m 13 = 0 then 402 - ((pI h7 m 11 (nI (t4 + 1))).1 m 11).toNatClampNeg else 0) < (if h4.1 m 13 = 0 then 402 - (h4.1 m 11).toNatClampNeg else 0)
            rw [muE _ (t4 + 1) (by rw [pI_n _ _ _ _ (by omega)]; exact S7.2.2.1) (pI_s _ _ _ _) (by omega), muE h4 t4 S4.2.2.1 S4.2.2.2 (by omega)]; omega
        · rw [if_neg t4'] at eM4
          have F8 := f8.F two
          refine hK2 _ ⟨XX.tr f8.X, Or.inr ⟨(2, plT c n t4), _, _, F8, eM4, f8.S x7, a5, by omega, ?_⟩⟩ ?_
          · rw [List.length_append]; omega
          · show (if h8.1 m 13 = 0 then 402 - (h8.1 m 11).toNatClampNeg else 0) < (if h4.1 m 13 = 0 then 402 - (h4.1 m 11).toNatClampNeg else 0)
            rw [muF h8 (2, plT c n t4) F8, muE h4 t4 S4.2.2.1 S4.2.2.2 (by omega)]; omega
    · unfold DB_Mo_expression_96
      refine P_isF F4.ne ⟨fun _ => ?_, fun z => absurd rfl z⟩
      unfold DJ_Mo_expression_145
      refine P_isF F4.ne ⟨fun z => absurd rfl z, fun _ => P_isF F4.ne ⟨fun z => absurd rfl z, fun _ => P_isF F4.ne ⟨fun z => absurd rfl z, fun _ => P_isF F4.ne ⟨fun _ => ?_, fun z => absurd rfl z⟩⟩⟩⟩
      unfold DJ_Mo_expression_186
      have co : D_Mo_comesOut r m 0 h4 (fun h56 => Q h56) := P_comesOut (st := false) (hi := hi) hr x4 sh4 l4 (by omega) (by omega) (fun h6 X6 k6 x6 => her e eM4 h6 (X4.tr X6) ⟨F4.1, by rw [k6 13 (by omega) (by omega)]; exact F4.2.1, by rw [k6 14 (by omega) (by omega)]; exact F4.2.2⟩)
      exact ⟨fun z => absurd rfl z, fun _ => ⟨fun _ => co, fun _ => P_MfailF F4.pos co⟩⟩
  /- the opening ones, then an operand -/
  refine lp_inv (fun h4 => XF m K0 hi h h4 ∧ ((∃ t4 s4 cs4, EM r h4 m c n J K0 B t4 s4 cs4 ∧ t ≤ t4 ∧ M0 = mcT (kdT c n) (plT c n) (vaT c n) true t4 s4 cs4) ∨ (∃ e : Nat × Nat, RfF h4 m e.1 e.2 ∧ M0 = .error e))) (fun h4 => if h4.1 m 13 = 0 then 402 - (h4.1 m 11).toNatClampNeg else 0) ?_ _ ⟨X', Or.inl ⟨t, s, cs, E, Nat.le_refl _, eM⟩⟩
  rintro K2 h4 ⟨X4, st4⟩ hK2
  unfold DB_Mo_expression_23
  rcases st4 with ⟨t4, s4, cs4, E4, le4, eM4⟩ | ⟨e, F4, eM4⟩
  · obtain ⟨S4, x4, o4, sh4, c4, b4⟩ := id E4
    have l4 := E4.len
    have T4 := S4.2.1
    have h44 : t4 ≤ 400 := by omega
    have kl := kdT_lt c n t4
    rw [mcT_H h44] at eM4
    refine P_is (k := 30) S4 (by omega) (fun y => ⟨fun z => absurd z z01, fun _ => ⟨fun z => ?_, fun z => ?_⟩⟩) (fun y => ⟨fun _ => ?_, fun z => absurd rfl z⟩)
    · have c6 : cntO s4 < 6 := by
        rcases Nat.lt_or_ge (cntO s4) 6 with w | w
        · exact w
        · exact absurd (show h4.1 m 12 = 6 by rw [o4, show cntO s4 = 6 by omega]; rfl) z
      rw [if_pos y] at eM4
      unfold DJ_Mo_expression_46
      intro h10 e10
      rw [o4, nI_1] at e10
      have S10 : RfS r h10 m c n J t4 := by rw [e10]; exact ⟨(XF.fd (K0 := K0) (hi := hi) (by omega)).T S4.1, T4, by rw [pI_n _ _ _ _ (by omega)]; exact S4.2.2.1, by rw [pI_n _ _ _ _ (by omega)]; exact S4.2.2.2⟩
      have x10 : XS h10 m K0 s4 cs4 := by rw [e10]; exact x4.fd ⟨by omega, by omega⟩
      have X10 : XF m K0 hi h4 h10 := by rw [e10]; exact XF.fd (by omega)
      refine P_goesOn S10 (fun t4' => ?_) (fun t4' h11 f11 => ?_)
      · rw [if_pos ⟨c6, t4'⟩] at eM4
        have x11 : XS (pI h10 m 11 (nI (t4 + 1))) m K0 s4 cs4 := x10.fd ⟨by omega, by omega⟩
        rw [x11.1, r43, nI_clamp (n := s4.length) (by omega)]
        refine ⟨vp_in_nI (by omega) (by omega), fun h14 e14 h15 e15 => ?_⟩
        have e15' : h15 = pI (pI (pI h10 m 11 (nI (t4 + 1))) (m + 28) s4.length (nI (mkK 30))) m 44 (nI (s4.length + 1)) := by
          rw [e15, e14, pI_o _ _ _ _ (by omega), x11.1, nI_1]; rfl
        have X15 : XF m K0 hi h10 h15 := by rw [e15']; exact ((XF.fd (by omega)).tr XF.wt).tr (XF.fd (by omega))
        have m15 : ∀ j, ¬ j = 44 → h15.1 m j = (pI h10 m 11 (nI (t4 + 1))).1 m j := fun j hj => by rw [e15', pI_n _ _ _ _ (by omega), pI_o _ _ _ _ (by omega)]
        refine hK2 _ ⟨(X4.tr X10).tr X15, Or.inl ⟨t4 + 1, 30 :: s4, cs4, ⟨⟨X15.T S10.1, hJ.2 t4 T4 (by omega) t4', by rw [m15 13 (by omega), pI_n _ _ _ _ (by omega)]; exact S10.2.2.1, by rw [m15 11 (by omega), pI_s]⟩, by rw [e15']; exact x11.push, ?_, ⟨sh4, Or.inl rfl⟩, ?_, ?_⟩, by omega, eM4⟩⟩ ?_
        · rw [m15 12 (by omega), pI_n _ _ _ _ (by omega), e10, pI_s]
          show nI (cntO s4 + 1) = nI ((if (30 : Nat) = 30 then 1 else 0) + cntO s4)
          rw [if_pos rfl, Nat.add_comm]
        · show (if (30 : Nat) = 30 then 1 else 0) + cntO s4 ≤ 6
          rw [if_pos rfl]; omega
        · show K0 + cs4.length + (s4.length + 1) ≤ B + (t4 + 1)
          omega
        · show (if h15.1 m 13 = 0 then 402 - (h15.1 m 11).toNatClampNeg else 0) < (if h4.1 m 13 = 0 then 402 - (h4.1 m 11).toNatClampNeg else 0)
          rw [muE h15 (t4 + 1) (by rw [m15 13 (by omega), pI_n _ _ _ _ (by omega)]; exact S10.2.2.1) (by rw [m15 11 (by omega), pI_s]) (by omega), muE h4 t4 S4.2.2.1 S4.2.2.2 (by omega)]; omega
      · rw [if_neg (fun w => t4' w.2)] at eM4
        have F11 := f11.F two
        rw [(f11.S x10).1]
        refine ⟨vp_in_nI (by omega) (by omega), fun h14 e14 h15 e15 => ?_⟩
        have F15 : RfF h15 m 2 (plT c n t4) := ⟨F11.1, by rw [e15, pI_n _ _ _ _ (by omega), e14, r43, pI_o _ _ _ _ (by omega)]; exact F11.2.1, by rw [e15, pI_n _ _ _ _ (by omega), e14, r43, pI_o _ _ _ _ (by omega)]; exact F11.2.2⟩
        refine hK2 _ ⟨((X4.tr X10).tr f11.X).tr (by rw [e15, e14, r43]; exact XF.wt.tr (XF.fd (by omega))), Or.inr ⟨(2, plT c n t4), F15, eM4⟩⟩ ?_
        show (if h15.1 m 13 = 0 then 402 - (h15.1 m 11).toNatClampNeg else 0) < (if h4.1 m 13 = 0 then 402 - (h4.1 m 11).toNatClampNeg else 0)
        rw [muF h15 (2, plT c n t4) F15, muE h4 t4 S4.2.2.1 S4.2.2.2 (by omega)]; omega
    · have c6 : ¬ cntO s4 < 6 := by
        rw [o4] at z
        have := (nI_eq (b := 6) (by omega) (by omega)).mp z
        omega
      rw [if_pos y, if_neg (fun w => c6 w.1)] at eM4
      refine P_Mfail (k := 2) S4 (fun h5 f5 => ?_)
      have F5 := f5.F two
      have x5 := f5.S x4
      unfold DJ_Mo_expression_46
      intro h10 e10
      have F10 : RfF h10 m 2 (plT c n t4) := ⟨F5.1, by rw [e10, pI_n _ _ _ _ (by omega)]; exact F5.2.1, by rw [e10, pI_n _ _ _ _ (by omega)]; exact F5.2.2⟩
      refine P_goesOnF F10.pos (fun h11 w11 => ?_)
      have e44 : h11.1 m 44 = nI s4.length := by
        rcases w11 with w | ⟨v, w⟩
        · rw [w, e10, pI_n _ _ _ _ (by omega)]; exact x5.1
        · rw [w, pI_n _ _ _ _ (by omega), e10, pI_n _ _ _ _ (by omega)]; exact x5.1
      have F11 : RfF h11 m 2 (plT c n t4) := by
        rcases w11 with w | ⟨v, w⟩
        · rw [w]; exact F10
        · rw [w]; exact ⟨F10.1, by rw [pI_n _ _ _ _ (by omega)]; exact F10.2.1, by rw [pI_n _ _ _ _ (by omega)]; exact F10.2.2⟩
      have X11 : XF m K0 hi h10 h11 := by
        rcases w11 with w | ⟨v, w⟩
        · rw [w]; exact XF.rf
        · rw [w]; exact XF.fd (by omega)
      rw [e44]
      refine ⟨vp_in_nI (by omega) (by omega), fun h14 e14 h15 e15 => ?_⟩
      have F15 : RfF h15 m 2 (plT c n t4) := ⟨F11.1, by rw [e15, pI_n _ _ _ _ (by omega), e14, r43, pI_o _ _ _ _ (by omega)]; exact F11.2.1, by rw [e15, pI_n _ _ _ _ (by omega), e14, r43, pI_o _ _ _ _ (by omega)]; exact F11.2.2⟩
      refine hK2 _ ⟨(((X4.tr f5.X).tr (by rw [e10]; exact XF.fd (by omega))).tr X11).tr (by rw [e15, e14, r43]; exact XF.wt.tr (XF.fd (by omega))), Or.inr ⟨(2, plT c n t4), F15, eM4⟩⟩ ?_
      show (if h15.1 m 13 = 0 then 402 - (h15.1 m 11).toNatClampNeg else 0) < (if h4.1 m 13 = 0 then 402 - (h4.1 m 11).toNatClampNeg else 0)
      rw [muF h15 (2, plT c n t4) F15, muE h4 t4 S4.2.2.1 S4.2.2.2 (by omega)]; omega
    · rw [if_neg y] at eM4
      have operand : ∀ (k v : Int32) (cd : Nat), tokM k v cd → M0 = (if t4 < 400 then mcT (kdT c n) (plT c n) (vaT c n) false (t4 + 1) s4 (cs4 ++ [cd]) else .error (2, plT c n t4)) → 2 ≤ kdT c n t4 → D_Mo_emit r m k v h4 (fun h25 => D_Mo_goesOn r m h25 (fun h27 => (((h27.1 m 13) ≤ 0 → ∃ n, lp (fun (K2 : TH → Prop) (s : TH) => DB_Mo_expression_96 r m 0 s (fun y71 h72 => K (y71, h72)) (fun h33 => K2 h33) (fun h34 => DJ_Mo_expression_145 r m 0 h34 (fun y71 h72 => K (y71, h72)) (fun h73 => Q h73) Q) (fun h73 => Q h73) Q) n h27) ∧ (¬ (h27.1 m 13) ≤ 0 → Q h27)))) := by
        intro k v cd htk eM5 k2
        refine P_emit (hi := hi) hr x4 (by omega) (by omega) htk (fun h5 X5 k5 w5 x5 => ?_)
        have S5 : RfS r h5 m c n J t4 := ⟨X5.T S4.1, T4, by rw [k5 13 (by omega)]; exact S4.2.2.1, by rw [k5 11 (by omega)]; exact S4.2.2.2⟩
        refine P_goesOn S5 (fun t4' => ?_) (fun t4' h6 f6 => ?_)
        · rw [if_pos t4'] at eM5
          have z13 : (pI h5 m 11 (nI (t4 + 1))).1 m 13 = 0 := by rw [pI_n _ _ _ _ (by omega)]; exact S5.2.2.1
          refine ⟨fun _ => after _ (t4 + 1) s4 (cs4 ++ [cd]) ((X4.tr X5).tr (XF.fd (by omega))) ⟨⟨(XF.fd (K0 := K0) (hi := hi) (by omega)).T S5.1, hJ.2 t4 T4 k2 t4', z13, pI_s _ _ _ _⟩, x5.fd ⟨by omega, by omega⟩, ?_, sh4, c4, ?_⟩ (by omega) eM5, fun z => absurd (by rw [z13]; exact Int32.le_refl _) z⟩
          · rw [pI_n _ _ _ _ (by omega), k5 12 (by omega)]; exact o4
          · rw [List.length_append]
            show K0 + (cs4.length + 1) + s4.length ≤ B + (t4 + 1)
            omega
        · rw [if_neg t4'] at eM5
          have F6 := f6.F two
          exact ⟨fun z => absurd z F6.pos, fun _ => her (2, plT c n t4) eM5 h6 ((X4.tr X5).tr f6.X) F6⟩
      have bad : ¬ (14 ≤ kdT c n t4 ∧ kdT c n t4 < 23) → ¬ kdT c n t4 = 3 → D_Mo_fail r m 1 h4 (fun h5 => (((h5.1 m 13) ≤ 0 → ∃ n, lp (fun (K2 : TH → Prop) (s : TH) => DB_Mo_expression_96 r m 0 s (fun y71 h72 => K (y71, h72)) (fun h33 => K2 h33) (fun h34 => DJ_Mo_expression_145 r m 0 h34 (fun y71 h72 => K (y71, h72)) (fun h73 => Q h73) Q) (fun h73 => Q h73) Q) n h5) ∧ (¬ (h5.1 m 13) ≤ 0 → Q h5))) := by
        intro n1 n2
        rw [if_neg n1, if_neg n2] at eM4
        refine P_Mfail (k := 1) S4 (fun h5 f5 => ?_)
        have F5 := f5.F one
        exact ⟨fun z => absurd z F5.pos, fun _ => her (1, plT c n t4) eM4 h5 (X4.tr f5.X) F5⟩
      have tk4 := S4.1.2.1 t4 T4
      unfold D_Mo_unit
      refine P_is (k := 3) S4 (by omega) (fun y3 => ⟨fun z => absurd z z01, fun _ i24 e24 => ?_⟩) (fun y3 => ⟨fun _ => ⟨fun z => absurd S4.2.2.1 z, fun _ i8 e8 => ?_⟩, fun z => absurd rfl z⟩)
      · rw [S4.2.2.2] at e24
        subst e24
        rw [r7, nI_clamp (n := t4) (by omega), tk4.2.2.1 y3]
        refine ⟨vp_in_nI (by omega) (by omega), operand 0 _ (vaT c n t4) (Or.inl ⟨?_, rfl, rfl⟩) ?_ (by omega)⟩
        · exact Nat.lt_succ_of_le (hv t4 y3)
        · rw [eM4, if_neg (by omega), if_pos y3]
      · rw [S4.2.2.2] at e8
        subst e8
        have mv := mk_var ⟨kdT c n t4, by omega⟩
        have ml := mkK_lt ⟨kdT c n t4, by omega⟩
        simp only [] at mv ml
        rw [r5, nI_clamp (n := t4) (by omega), tk4.1]
        refine ⟨vp_in_nI (by omega) (by omega), fun z => bad (fun w => ?_) y3, fun z i13 e13 => ?_⟩
        · have := (nI_ltI (b := 30) (by omega) (by omega)).mp z
          exact mv.mpr w this
        · have kv := mv.mp (fun w => z (nI_lt (b := 30) w (by omega)))
          rw [S4.2.2.2] at e13
          subst e13
          rw [nI_clamp (n := t4) (by omega), tk4.1]
          refine ⟨vp_in_nI (by omega) (by omega), fun w => absurd ((nI_ltI (a := 38) (by omega) (by omega)).mp w) (by omega), fun _ i18 e18 => ?_⟩
          rw [S4.2.2.2] at e18
          subst e18
          have m2 := mk_v2 ⟨kdT c n t4, by omega⟩ kv.1 kv.2
          simp only [] at m2
          rw [nI_clamp (n := t4) (by omega), tk4.1, m2]
          refine ⟨vp_in_nI (by omega) (by omega), ?_⟩
          have ev : nI (kdT c n t4 + 16) - 30 = nI (kdT c n t4 - 14) := by
            show nI (kdT c n t4 + 16) - nI 30 = _
            rw [pk_sub (by omega), show kdT c n t4 + 16 - 30 = kdT c n t4 - 14 by omega]
          rw [ev]
          refine operand 1 _ (9986 + kdT c n t4) (Or.inr (Or.inl ⟨by omega, by omega, rfl, ?_⟩)) ?_ (by omega)
          · rw [show 9986 + kdT c n t4 - 10000 = kdT c n t4 - 14 by omega]
          · rw [eM4, if_pos kv]
  · refine P_isF F4.ne ⟨fun _ => ?_, fun z => absurd rfl z⟩
    have fin : (((h4.1 m 13) ≤ 0 → ∃ n, lp (fun (K2 : TH → Prop) (s : TH) => DB_Mo_expression_96 r m 0 s (fun y71 h72 => K (y71, h72)) (fun h33 => K2 h33) (fun h34 => DJ_Mo_expression_145 r m 0 h34 (fun y71 h72 => K (y71, h72)) (fun h73 => Q h73) Q) (fun h73 => Q h73) Q) n h4) ∧ (¬ (h4.1 m 13) ≤ 0 → Q h4)) := ⟨fun z => absurd z F4.pos, fun _ => her e eM4 h4 X4 F4⟩
    unfold D_Mo_unit
    refine P_isF F4.ne ⟨fun _ => ⟨fun _ => P_MfailF F4.pos fin, fun z => absurd z F4.ne⟩, fun z => absurd rfl z⟩
