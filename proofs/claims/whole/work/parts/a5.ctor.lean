/-! the reference's constructor -/
def A0 : St := (B0, emptyS, [], (fun _ => none), [], 0, (fun _ => 0), -1)
theorem B0_B : ByB B0 := ⟨by decide, by decide, by decide, by decide, by decide, fun c _ => by rw [if_neg (fun z => absurd z.1 (Nat.not_lt_zero _))]; rfl, fun k hk => absurd hk (Nat.not_lt_zero _), ⟨0, rfl⟩, ⟨0, rfl⟩, ⟨0, rfl⟩⟩
def wapp (n : Int64) (c : Int32) : Int64 := if c = 0 then n else (27 * n) + (((c - 97) + 1).toInt64)
theorem P_app {r : TR} {n : Int64} {c : Int32} {h : TH} {Q : Int64 → TH → Prop} (hQ : Q (wapp n c) h) : D_Mo_appends r n c h Q := by
  unfold D_Mo_appends
  unfold wapp at hQ
  exact ⟨fun e => by rw [if_neg e] at hQ; exact hQ, fun e => by rw [if_pos e] at hQ; exact hQ⟩
theorem P_word {r : TR} {a0 a1 a2 a3 a4 a5 a6 : Int32} {w : Int64} {h : TH} {Q : Int64 → TH → Prop} (e : wapp (wapp (wapp (wapp (wapp (wapp (wapp 0 a0) a1) a2) a3) a4) a5) a6 = w) (hQ : Q w h) : D_Mo_word r a0 a1 a2 a3 a4 a5 a6 h Q := by
  unfold D_Mo_word
  refine P_app (P_app (P_app (P_app (P_app (P_app (P_app ?_))))))
  rw [e]
  exact hQ
theorem P_plain0 {r : TR} {h : TH} {m : Nat} {Q : TH → Prop} (hr : RMo r m) (hh : ∀ a, m < a → ∀ j, h.1 a j = 0) (hQ : Q h) : D_Mo_plain r m 0 h Q := by
  have r22 : r m 22 = m + 9 := hr 22 (by decide) (by decide)
  have r23 : r m 23 = m + 10 := hr 23 (by decide) (by decide)
  have r25 : r m 25 = m + 12 := hr 25 (by decide) (by decide)
  have r30 : r m 30 = m + 17 := hr 30 (by decide) (by decide)
  have r31 : r m 31 = m + 18 := hr 31 (by decide) (by decide)
  have r32 : r m 32 = m + 19 := hr 32 (by decide) (by decide)
  have r33 : r m 33 = m + 20 := hr 33 (by decide) (by decide)
  have v0 : vp_in 0 2 := vp_in_nI (n := 0) (by decide) (by decide)
  have s : ∀ a j, m < a → pI h a j 0 = h := fun a j ha => pI_same (hh a ha j)
  unfold D_Mo_plain
  rw [r22, r23, r25, r30, r31]
  refine ⟨v0, fun h2 e2 => ⟨v0, fun h4 e4 => ⟨v0, fun h6 e6 => ⟨v0, fun h8 e8 => ⟨v0, fun h10 e10 => ?_⟩⟩⟩⟩⟩
  rw [s _ _ (by omega)] at e2
  rw [e2, s _ _ (by omega)] at e4
  rw [e4, s _ _ (by omega)] at e6
  rw [e6, s _ _ (by omega)] at e8
  rw [e8, s _ _ (by omega)] at e10
  rw [e10]
  refine lp_for 3 (fun j t => t = (nI j, h)) ?_ ?_ _ rfl
  · rintro j t K hj rfl hK
    unfold DB_Mo_plain_37
    have e0 : (3 : Int32) * 0 + nI j = nI j := by rw [show (3 : Int32) * 0 = 0 by decide, Int32.zero_add]
    show (3 ≤ nI j → _) ∧ (¬ 3 ≤ nI j → _)
    rw [e0, r32, r33]
    refine ⟨fun q => absurd ((nI_leI (a := 3) (b := j) (by omega) (by omega)).mp q) (by omega), fun _ => ⟨vp_in_nI (by omega) (by omega), fun h14 e14 => ⟨vp_in_nI (by omega) (by omega), fun h16 e16 x e => ?_⟩⟩⟩
    rw [s _ _ (by omega)] at e14
    rw [e14, s _ _ (by omega)] at e16
    rw [nI_1] at e
    rw [e, e16]
    exact hK _ rfl
  · rintro t K rfl
    unfold DB_Mo_plain_37
    exact ⟨fun _ => hQ, fun q => absurd (show (3 : Int32) ≤ nI 3 from Int32.le_refl _) q⟩
/-- the words' numbers, n of them -/
def KP (m n : Nat) (h h' : TH) : Prop := h'.1 = h.1 ∧ (∀ a, ¬ a = m + 7 → h'.2 a = h.2 a) ∧ ∀ k, k < n → h'.2 (m + 7) k = lN (b27 (wdL.getD k []))
theorem KP.zero {m : Nat} {h : TH} : KP m 0 h h := ⟨rfl, fun _ _ => rfl, fun k hk => absurd hk (Nat.not_lt_zero _)⟩
theorem KP.step {m n : Nat} {h h' : TH} (g : KP m n h h') : KP m (n + 1) h (pL h' (m + 7) n (lN (b27 (wdL.getD n [])))) := ⟨by rw [pL_i]; exact g.1, fun a ha => by rw [pL_o _ _ _ _ ha]; exact g.2.1 a ha, fun k hk => by
  by_cases e : k = n
  · rw [e, pL_s]
  · rw [pL_n _ _ _ _ (fun q => e q.2)]; exact g.2.2 k (by omega)⟩
theorem mo_rf : ∀ j, j < 66 → skR tMo 0 j = aOff.getD j 0 := by decide +kernel
theorem okT_Mo : okT tMo = true := by decide +kernel
theorem row0 {f : Nat → Int32} (h : RowOK f 0 (-1) (beginS B0)) : RowOK f 0 (-1) emptyS := by
  have si := beginS_I (T := 0) B0_B (fun k hk => absurd hk (Nat.not_lt_zero _))
  have h6 : sO (beginS B0) = 0 := by
    apply Nat.eq_of_testBit_eq
    intro i
    rw [Nat.zero_testBit]
    by_cases e : i < 6
    · exact (si.2.2.2.2.1 i (Nat.zero_le _) e).2.2
    · exact Nat.testBit_lt_two_pow (Nat.lt_of_lt_of_le si.1.2.2.2.1 (Nat.pow_le_pow_right (n := 2) (by decide) (show 6 ≤ i by omega)))
  refine ⟨?_, ?_, fun k hk => absurd hk (Nat.not_lt_zero _), fun c _ d hd => absurd hd (Nat.not_lt_zero _)⟩
  · rw [h.1, (beginS_B B0_B).2]; rfl
  · rw [h.2.1, h6]; rfl
theorem P_new {r : TR} {h h' : TH} {m : Nat} {Q : TH → Prop} (hr : RMo r m) (hh : ∀ a, m < a → ∀ j, h.1 a j = 0) (h0 : ∀ j, ¬ j = 17 → h.1 m j = 0) (h17 : h.1 m 17 = -1) (kp : KP m 19 h h') (hQ : ∀ h1, Fr (fun a => m ≤ a ∧ a < m + 44) h' h1 → (∀ h2, Fr (fun a => a = m + 31) h1 h2 → (∀ i, i < 512 → h2.1 (m + 31) i = h1.1 (m + 32) i) → AM h2 m 0 A0) → Q h1) : D_Mo_begins r m h' Q := by
  have e1 : ∀ a, m < a → ∀ j, h'.1 a j = 0 := fun a ha j => by rw [kp.1]; exact hh a ha j
  have em : ∀ j, ¬ j = 17 → h'.1 m j = 0 := fun j hj => by rw [kp.1]; exact h0 j hj
  have lw : ∀ (g : TH) (a p : Nat), g.1 (m + 19) a = 0 → g.1 (m + 20) a = 0 → LawM g m a p [[p]] := fun g a p x y => ⟨0, 0, x, y, by omega, Or.inl ⟨rfl, rfl⟩⟩
  have O : MBay (pI h' m 52 (-1)) m 0 (-1) B0 := by
    have z : ∀ a, m < a → ∀ j, (pI h' m 52 (-1)).1 a j = 0 := fun a ha j => by rw [pI_o _ _ _ _ (by omega)]; exact e1 a ha j
    exact ⟨by rw [pI_n _ _ _ _ (by omega)]; exact em 18 (by decide), by decide, pI_s _ _ _ _, z _ (by omega) _, z _ (by omega) _, z _ (by omega) _, z _ (by omega) _, z _ (by omega) _, fun c _ hc _ => absurd hc (Nat.not_lt_zero _), fun k hk => absurd hk (Nat.not_lt_zero _), lw _ _ _ (z _ (by omega) _) (z _ (by omega) _), lw _ _ _ (z _ (by omega) _) (z _ (by omega) _), lw _ _ _ (z _ (by omega) _) (z _ (by omega) _)⟩
  unfold D_Mo_begins
  refine P_beginsBy hr O B0_B rfl (fun h1 f1 k1 _ _ _ row1 => hQ h1 (f1.mono (fun a ha => by unfold FMs at ha; omega)) (fun h2 f2 c2 => ?_))
  have G : ∀ a, ¬ FMs m a → ¬ a = m + 31 → h2.1 a = h'.1 a ∧ h2.2 a = h'.2 a := fun a x y => ⟨((f2 a y).1).trans (f1 a x).1, ((f2 a y).2).trans (f1 a x).2⟩
  have gm : ∀ j, ¬ j = 47 → ¬ j = 50 → ¬ j = 51 → ¬ j = 52 → h2.1 m j = h'.1 m j := fun j x1 x2 x3 x4 => by rw [(f2 m (by omega)).1]; exact k1 j x1 x2 x3 x4
  refine ⟨O.mv (fun x a b => ?_) ?_ (pI_s _ _ _ _), ?_, ⟨?_, fun i hi => absurd hi (Nat.not_lt_zero _)⟩, fun s hs => ⟨?_, fun S w => (by cases w)⟩, ⟨?_, fun i hi => absurd hi (Nat.not_lt_zero _)⟩, ⟨?_, fun i hi => absurd hi (Nat.not_lt_zero _)⟩, ?_, fun i hi => absurd hi (Nat.not_lt_zero _), ?_, ?_⟩
  · rw [pI_o _ _ _ _ (by omega), pI_o _ _ _ _ (by omega)]; exact (G x (by unfold FMs; omega) (by omega)).1
  · rw [pI_n _ _ _ _ (by omega), pI_n _ _ _ _ (by omega)]; exact gm 18 (by decide) (by decide) (by decide) (by decide)
  · exact row0 (row1.cg (by decide) c2)
  · rw [gm 54 (by decide) (by decide) (by decide) (by decide)]; exact em 54 (by decide)
  · rw [(G (m + 42) (by unfold FMs; omega) (by omega)).1]; exact e1 _ (by omega) s
  · rw [gm 60 (by decide) (by decide) (by decide) (by decide)]; exact em 60 (by decide)
  · rw [gm 2 (by decide) (by decide) (by decide) (by decide)]; exact em 2 (by decide)
  · rw [gm 17 (by decide) (by decide) (by decide) (by decide), kp.1]; exact h17
  · intro k hk
    rw [(G (m + 7) (by unfold FMs; omega) (by omega)).2]
    exact kp.2.2 k hk
  · intro k hk
    refine ⟨0, 0, ?_, ?_, Nat.le_refl _, by decide, Or.inl rfl⟩
    · rw [(G (m + 19) (by unfold FMs; omega) (by omega)).1]; exact e1 _ (by omega) _
    · rw [(G (m + 20) (by unfold FMs; omega) (by omega)).1]; exact e1 _ (by omega) _
set_option maxHeartbeats 4000000 in
theorem M_Mo_init {Y : CG} {b : Nat} {l : Launch} {o : Nat} {r ρ : TR} {h : TH} (hb : 0 < b) (hbo : b ≤ o) (g : Sgm Y ρ o tMo) (hr : ∀ a, o ≤ a → ∀ j, r a j = 0) (hh : ∀ a, o ≤ a → ∀ j, h.1 a j = 0) : Mc Y b l yX8_init cX8_init 1 7 43 27719 o r h (fun r1 h1 => r1 = fnR ρ r o 44 ∧ Fr (fun a => o ≤ a ∧ a < o + 44) h h1 ∧ AM h1 o 0 A0) := by
  have hk : yK Y o = 8 := g.k (i := 0) (by decide +kernel)
  refine Mc.of RX8 rfl (by decide) rfl (by decide) hb hbo (fun X hXl C R => ?_)
  subst hXl
  refine n_aload_n (pc := 0) rfl 0 rfl C dX8_init_0 ?_
  refine n_objInit (pc := 1) C (by decide) oi_RX8 oi_inst oi_code dX8_init_1 ?_
  rw [md_0 (ρ := ρ) (r := r) (o := o) (fun j => hr o (Nat.le_refl o) j)]
  refine (show NJ Y b X 1 4 [(0, .ref o)] [] (o + 1) (mdR ρ r o 0 o 0 1) h 0 0 from ?_)
  refine n_aload_n (pc := 4) rfl 0 rfl C dX8_init_4 ?_
  refine n_sipush (pc := 5) (v := 2000) (by decide) C dX8_init_5 ?_
  refine n_arrB (pc := 8) (N := 2000) (c := 1) (J := 0) (j := 1) C ar_B g hbo hr (by decide) (by decide +kernel) (by decide +kernel) (by decide) (by decide +kernel) hk fl_RX8_13 R.2.2.1 (fun q e => by cases e; rfl) rfl (fun _ => rfl) (fun _ => rfl) (by decide) (by decide) (by decide) (by decide) (by decide) dX8_init_8 dX8_init_10 ?_
  refine (show NJ Y b X 1 13 [(0, .ref o)] [] (o + 2) (mdR ρ r o 2 o 0 2) h 1 2000 from ?_)
  refine n_aload_n (pc := 13) rfl 0 rfl C dX8_init_13 ?_
  refine n_sipush (pc := 14) (v := 2000) (by decide) C dX8_init_14 ?_
  refine n_arrB (pc := 17) (N := 2000) (c := 2) (J := 2) (j := 3) C ar_B g hbo hr (by decide) (by decide +kernel) (by decide +kernel) (by decide) (by decide +kernel) hk fl_RX8_17 R.2.2.1 (fun q e => by cases e; rfl) rfl (fun _ => rfl) (fun _ => rfl) (by decide) (by decide) (by decide) (by decide) (by decide) dX8_init_17 dX8_init_19 ?_
  refine (show NJ Y b X 1 22 [(0, .ref o)] [] (o + 3) (mdR ρ r o 4 o 0 3) h 2 4000 from ?_)
  refine n_aload_n (pc := 22) rfl 0 rfl C dX8_init_22 ?_
  refine n_sipush (pc := 23) (v := 403) (by decide) C dX8_init_23 ?_
  refine n_arrI (pc := 26) (N := 403) (c := 3) (J := 4) (j := 5) C ar_I g hbo hr (by decide) (by decide +kernel) (by decide +kernel) (by decide) (by decide +kernel) hk fl_RX8_20 R.2.2.1 (fun q e => by cases e; rfl) rfl (fun _ => rfl) (fun _ => rfl) (by decide) (by decide) (by decide) (by decide) (by decide) dX8_init_26 dX8_init_28 ?_
  refine (show NJ Y b X 1 31 [(0, .ref o)] [] (o + 4) (mdR ρ r o 6 o 0 4) h 3 4403 from ?_)
  refine n_aload_n (pc := 31) rfl 0 rfl C dX8_init_31 ?_
  refine n_sipush (pc := 32) (v := 403) (by decide) C dX8_init_32 ?_
  refine n_arrI (pc := 35) (N := 403) (c := 4) (J := 6) (j := 6) C ar_I g hbo hr (by decide) (by decide +kernel) (by decide +kernel) (by decide) (by decide +kernel) hk fl_RX8_24 R.2.2.1 (fun q e => by cases e; rfl) rfl (fun _ => rfl) (fun _ => rfl) (by decide) (by decide) (by decide) (by decide) (by decide) dX8_init_35 dX8_init_37 ?_
  refine (show NJ Y b X 1 40 [(0, .ref o)] [] (o + 5) (mdR ρ r o 7 o 0 5) h 4 4806 from ?_)
  refine n_aload_n (pc := 40) rfl 0 rfl C dX8_init_40 ?_
  refine n_sipush (pc := 41) (v := 403) (by decide) C dX8_init_41 ?_
  refine n_arrI (pc := 44) (N := 403) (c := 5) (J := 7) (j := 7) C ar_I g hbo hr (by decide) (by decide +kernel) (by decide +kernel) (by decide) (by decide +kernel) hk fl_RX8_27 R.2.2.1 (fun q e => by cases e; rfl) rfl (fun _ => rfl) (fun _ => rfl) (by decide) (by decide) (by decide) (by decide) (by decide) dX8_init_44 dX8_init_46 ?_
  refine (show NJ Y b X 1 49 [(0, .ref o)] [] (o + 6) (mdR ρ r o 8 o 0 6) h 5 5209 from ?_)
  refine n_aload_n (pc := 49) rfl 0 rfl C dX8_init_49 ?_
  refine n_sipush (pc := 50) (v := 403) (by decide) C dX8_init_50 ?_
  refine n_arrJ (pc := 53) (N := 403) (c := 6) (J := 8) (j := 8) C ar_J g hbo hr (by decide) (by decide +kernel) (by decide +kernel) (by decide) (by decide +kernel) hk fl_RX8_30 R.2.2.1 (fun q e => by cases e; rfl) rfl (fun _ => rfl) (fun _ => rfl) (by decide) (by decide) (by decide) (by decide) (by decide) dX8_init_53 dX8_init_55 ?_
  refine (show NJ Y b X 1 58 [(0, .ref o)] [] (o + 7) (mdR ρ r o 9 o 0 7) h 6 5612 from ?_)
  refine n_aload_n (pc := 58) rfl 0 rfl C dX8_init_58 ?_
  refine n_bipush (pc := 59) (v := 19) (by decide) C dX8_init_59 ?_
  refine n_arrJ (pc := 61) (N := 19) (c := 7) (J := 9) (j := 9) C ar_J g hbo hr (by decide) (by decide +kernel) (by decide +kernel) (by decide) (by decide +kernel) hk fl_RX8_34 R.2.2.1 (fun q e => by cases e; rfl) rfl (fun _ => rfl) (fun _ => rfl) (by decide) (by decide) (by decide) (by decide) (by decide) dX8_init_61 dX8_init_63 ?_
  refine (show NJ Y b X 1 66 [(0, .ref o)] [] (o + 8) (mdR ρ r o 10 o 0 8) h 7 5631 from ?_)
  refine n_aload_n (pc := 66) rfl 0 rfl C dX8_init_66 ?_
  refine n_iconst (pc := 67) (v := (-1)) (by decide) C dX8_init_67 ?_
  refine n_putI (pc := 68) C fl_RX8_37 hbo (by omega) hk rfl (by decide) (by decide) dX8_init_68 ?_
  refine (show NJ Y b X 1 71 [(0, .ref o)] [] (o + 8) (mdR ρ r o 10 o 0 8) (pI h o 17 (-1)) 7 5631 from ?_)
  refine n_aload_n (pc := 71) rfl 0 rfl C dX8_init_71 ?_
  refine n_bipush (pc := 72) (v := 6) (by decide) C dX8_init_72 ?_
  refine n_arrJ (pc := 74) (N := 6) (c := 8) (J := 10) (j := 21) C ar_J g hbo hr (by decide) (by decide +kernel) (by decide +kernel) (by decide) (by decide +kernel) hk fl_RX8_40 R.2.2.1 (fun q e => by cases e; rfl) rfl (fun _ => rfl) (fun _ => rfl) (by decide) (by decide) (by decide) (by decide) (by decide) dX8_init_74 dX8_init_76 ?_
  refine (show NJ Y b X 1 79 [(0, .ref o)] [] (o + 9) (mdR ρ r o 22 o 0 9) (pI h o 17 (-1)) 8 5637 from ?_)
  refine n_aload_n (pc := 79) rfl 0 rfl C dX8_init_79 ?_
  refine n_iconst (pc := 80) (v := 2) (by decide) C dX8_init_80 ?_
  refine n_arrI (pc := 81) (N := 2) (c := 9) (J := 22) (j := 22) C ar_I g hbo hr (by decide) (by decide +kernel) (by decide +kernel) (by decide) (by decide +kernel) hk fl_RX8_43 R.2.2.1 (fun q e => by cases e; rfl) rfl (fun _ => rfl) (fun _ => rfl) (by decide) (by decide) (by decide) (by decide) (by decide) dX8_init_81 dX8_init_83 ?_
  refine (show NJ Y b X 1 86 [(0, .ref o)] [] (o + 10) (mdR ρ r o 23 o 0 10) (pI h o 17 (-1)) 9 5639 from ?_)
  refine n_aload_n (pc := 86) rfl 0 rfl C dX8_init_86 ?_
  refine n_iconst (pc := 87) (v := 2) (by decide) C dX8_init_87 ?_
  refine n_arrI (pc := 88) (N := 2) (c := 10) (J := 23) (j := 23) C ar_I g hbo hr (by decide) (by decide +kernel) (by decide +kernel) (by decide) (by decide +kernel) hk fl_RX8_46 R.2.2.1 (fun q e => by cases e; rfl) rfl (fun _ => rfl) (fun _ => rfl) (by decide) (by decide) (by decide) (by decide) (by decide) dX8_init_88 dX8_init_90 ?_
  refine (show NJ Y b X 1 93 [(0, .ref o)] [] (o + 11) (mdR ρ r o 24 o 0 11) (pI h o 17 (-1)) 10 5641 from ?_)
  refine n_aload_n (pc := 93) rfl 0 rfl C dX8_init_93 ?_
  refine n_bipush (pc := 94) (v := 80) (by decide) C dX8_init_94 ?_
  refine n_arrI (pc := 96) (N := 80) (c := 11) (J := 24) (j := 24) C ar_I g hbo hr (by decide) (by decide +kernel) (by decide +kernel) (by decide) (by decide +kernel) hk fl_RX8_49 R.2.2.1 (fun q e => by cases e; rfl) rfl (fun _ => rfl) (fun _ => rfl) (by decide) (by decide) (by decide) (by decide) (by decide) dX8_init_96 dX8_init_98 ?_
  refine (show NJ Y b X 1 101 [(0, .ref o)] [] (o + 12) (mdR ρ r o 25 o 0 12) (pI h o 17 (-1)) 11 5721 from ?_)
  refine n_aload_n (pc := 101) rfl 0 rfl C dX8_init_101 ?_
  refine n_iconst (pc := 102) (v := 2) (by decide) C dX8_init_102 ?_
  refine n_arrI (pc := 103) (N := 2) (c := 12) (J := 25) (j := 25) C ar_I g hbo hr (by decide) (by decide +kernel) (by decide +kernel) (by decide) (by decide +kernel) hk fl_RX8_52 R.2.2.1 (fun q e => by cases e; rfl) rfl (fun _ => rfl) (fun _ => rfl) (by decide) (by decide) (by decide) (by decide) (by decide) dX8_init_103 dX8_init_105 ?_
  refine (show NJ Y b X 1 108 [(0, .ref o)] [] (o + 13) (mdR ρ r o 26 o 0 13) (pI h o 17 (-1)) 12 5723 from ?_)
  refine n_aload_n (pc := 108) rfl 0 rfl C dX8_init_108 ?_
  refine n_bipush (pc := 109) (v := 12) (by decide) C dX8_init_109 ?_
  refine n_arrI (pc := 111) (N := 12) (c := 13) (J := 26) (j := 26) C ar_I g hbo hr (by decide) (by decide +kernel) (by decide +kernel) (by decide) (by decide +kernel) hk fl_RX8_55 R.2.2.1 (fun q e => by cases e; rfl) rfl (fun _ => rfl) (fun _ => rfl) (by decide) (by decide) (by decide) (by decide) (by decide) dX8_init_111 dX8_init_113 ?_
  refine (show NJ Y b X 1 116 [(0, .ref o)] [] (o + 14) (mdR ρ r o 27 o 0 14) (pI h o 17 (-1)) 13 5735 from ?_)
  refine n_aload_n (pc := 116) rfl 0 rfl C dX8_init_116 ?_
  refine n_bipush (pc := 117) (v := 12) (by decide) C dX8_init_117 ?_
  refine n_arrI (pc := 119) (N := 12) (c := 14) (J := 27) (j := 27) C ar_I g hbo hr (by decide) (by decide +kernel) (by decide +kernel) (by decide) (by decide +kernel) hk fl_RX8_58 R.2.2.1 (fun q e => by cases e; rfl) rfl (fun _ => rfl) (fun _ => rfl) (by decide) (by decide) (by decide) (by decide) (by decide) dX8_init_119 dX8_init_121 ?_
  refine (show NJ Y b X 1 124 [(0, .ref o)] [] (o + 15) (mdR ρ r o 28 o 0 15) (pI h o 17 (-1)) 14 5747 from ?_)
  refine n_aload_n (pc := 124) rfl 0 rfl C dX8_init_124 ?_
  refine n_bipush (pc := 125) (v := 12) (by decide) C dX8_init_125 ?_
  refine n_arrI (pc := 127) (N := 12) (c := 15) (J := 28) (j := 28) C ar_I g hbo hr (by decide) (by decide +kernel) (by decide +kernel) (by decide) (by decide +kernel) hk fl_RX8_61 R.2.2.1 (fun q e => by cases e; rfl) rfl (fun _ => rfl) (fun _ => rfl) (by decide) (by decide) (by decide) (by decide) (by decide) dX8_init_127 dX8_init_129 ?_
  refine (show NJ Y b X 1 132 [(0, .ref o)] [] (o + 16) (mdR ρ r o 29 o 0 16) (pI h o 17 (-1)) 15 5759 from ?_)
  refine n_aload_n (pc := 132) rfl 0 rfl C dX8_init_132 ?_
  refine n_bipush (pc := 133) (v := 12) (by decide) C dX8_init_133 ?_
  refine n_arrI (pc := 135) (N := 12) (c := 16) (J := 29) (j := 29) C ar_I g hbo hr (by decide) (by decide +kernel) (by decide +kernel) (by decide) (by decide +kernel) hk fl_RX8_64 R.2.2.1 (fun q e => by cases e; rfl) rfl (fun _ => rfl) (fun _ => rfl) (by decide) (by decide) (by decide) (by decide) (by decide) dX8_init_135 dX8_init_137 ?_
  refine (show NJ Y b X 1 140 [(0, .ref o)] [] (o + 17) (mdR ρ r o 30 o 0 17) (pI h o 17 (-1)) 16 5771 from ?_)
  refine n_aload_n (pc := 140) rfl 0 rfl C dX8_init_140 ?_
  refine n_iconst (pc := 141) (v := 2) (by decide) C dX8_init_141 ?_
  refine n_arrI (pc := 142) (N := 2) (c := 17) (J := 30) (j := 30) C ar_I g hbo hr (by decide) (by decide +kernel) (by decide +kernel) (by decide) (by decide +kernel) hk fl_RX8_67 R.2.2.1 (fun q e => by cases e; rfl) rfl (fun _ => rfl) (fun _ => rfl) (by decide) (by decide) (by decide) (by decide) (by decide) dX8_init_142 dX8_init_144 ?_
  refine (show NJ Y b X 1 147 [(0, .ref o)] [] (o + 18) (mdR ρ r o 31 o 0 18) (pI h o 17 (-1)) 17 5773 from ?_)
  refine n_aload_n (pc := 147) rfl 0 rfl C dX8_init_147 ?_
  refine n_iconst (pc := 148) (v := 2) (by decide) C dX8_init_148 ?_
  refine n_arrI (pc := 149) (N := 2) (c := 18) (J := 31) (j := 31) C ar_I g hbo hr (by decide) (by decide +kernel) (by decide +kernel) (by decide) (by decide +kernel) hk fl_RX8_70 R.2.2.1 (fun q e => by cases e; rfl) rfl (fun _ => rfl) (fun _ => rfl) (by decide) (by decide) (by decide) (by decide) (by decide) dX8_init_149 dX8_init_151 ?_
  refine (show NJ Y b X 1 154 [(0, .ref o)] [] (o + 19) (mdR ρ r o 32 o 0 19) (pI h o 17 (-1)) 18 5775 from ?_)
  refine n_aload_n (pc := 154) rfl 0 rfl C dX8_init_154 ?_
  refine n_bipush (pc := 155) (v := 6) (by decide) C dX8_init_155 ?_
  refine n_arrI (pc := 157) (N := 6) (c := 19) (J := 32) (j := 32) C ar_I g hbo hr (by decide) (by decide +kernel) (by decide +kernel) (by decide) (by decide +kernel) hk fl_RX8_73 R.2.2.1 (fun q e => by cases e; rfl) rfl (fun _ => rfl) (fun _ => rfl) (by decide) (by decide) (by decide) (by decide) (by decide) dX8_init_157 dX8_init_159 ?_
  refine (show NJ Y b X 1 162 [(0, .ref o)] [] (o + 20) (mdR ρ r o 33 o 0 20) (pI h o 17 (-1)) 19 5781 from ?_)
  refine n_aload_n (pc := 162) rfl 0 rfl C dX8_init_162 ?_
  refine n_bipush (pc := 163) (v := 6) (by decide) C dX8_init_163 ?_
  refine n_arrI (pc := 165) (N := 6) (c := 20) (J := 33) (j := 33) C ar_I g hbo hr (by decide) (by decide +kernel) (by decide +kernel) (by decide) (by decide +kernel) hk fl_RX8_76 R.2.2.1 (fun q e => by cases e; rfl) rfl (fun _ => rfl) (fun _ => rfl) (by decide) (by decide) (by decide) (by decide) (by decide) dX8_init_165 dX8_init_167 ?_
  refine (show NJ Y b X 1 170 [(0, .ref o)] [] (o + 21) (mdR ρ r o 34 o 0 21) (pI h o 17 (-1)) 20 5787 from ?_)
  refine n_aload_n (pc := 170) rfl 0 rfl C dX8_init_170 ?_
  refine n_sipush (pc := 171) (v := 260) (by decide) C dX8_init_171 ?_
  refine n_arrZ (pc := 174) (N := 260) (c := 21) (J := 34) (j := 35) C ar_Z g hbo hr (by decide) (by decide +kernel) (by decide +kernel) (by decide) (by decide +kernel) hk fl_RX8_79 R.2.2.1 (fun q e => by cases e; rfl) rfl (fun _ => rfl) (fun _ => rfl) (by decide) (by decide) (by decide) (by decide) (by decide) dX8_init_174 dX8_init_176 ?_
  refine (show NJ Y b X 1 179 [(0, .ref o)] [] (o + 22) (mdR ρ r o 36 o 0 22) (pI h o 17 (-1)) 21 6047 from ?_)
  refine n_aload_n (pc := 179) rfl 0 rfl C dX8_init_179 ?_
  refine n_sipush (pc := 180) (v := 260) (by decide) C dX8_init_180 ?_
  refine n_arrI (pc := 183) (N := 260) (c := 22) (J := 36) (j := 36) C ar_I g hbo hr (by decide) (by decide +kernel) (by decide +kernel) (by decide) (by decide +kernel) hk fl_RX8_83 R.2.2.1 (fun q e => by cases e; rfl) rfl (fun _ => rfl) (fun _ => rfl) (by decide) (by decide) (by decide) (by decide) (by decide) dX8_init_183 dX8_init_185 ?_
  refine (show NJ Y b X 1 188 [(0, .ref o)] [] (o + 23) (mdR ρ r o 37 o 0 23) (pI h o 17 (-1)) 22 6307 from ?_)
  refine n_aload_n (pc := 188) rfl 0 rfl C dX8_init_188 ?_
  refine n_sipush (pc := 189) (v := 260) (by decide) C dX8_init_189 ?_
  refine n_arrI (pc := 192) (N := 260) (c := 23) (J := 37) (j := 37) C ar_I g hbo hr (by decide) (by decide +kernel) (by decide +kernel) (by decide) (by decide +kernel) hk fl_RX8_86 R.2.2.1 (fun q e => by cases e; rfl) rfl (fun _ => rfl) (fun _ => rfl) (by decide) (by decide) (by decide) (by decide) (by decide) dX8_init_192 dX8_init_194 ?_
  refine (show NJ Y b X 1 197 [(0, .ref o)] [] (o + 24) (mdR ρ r o 38 o 0 24) (pI h o 17 (-1)) 23 6567 from ?_)
  refine n_aload_n (pc := 197) rfl 0 rfl C dX8_init_197 ?_
  refine n_sipush (pc := 198) (v := 260) (by decide) C dX8_init_198 ?_
  refine n_arrI (pc := 201) (N := 260) (c := 24) (J := 38) (j := 38) C ar_I g hbo hr (by decide) (by decide +kernel) (by decide +kernel) (by decide) (by decide +kernel) hk fl_RX8_89 R.2.2.1 (fun q e => by cases e; rfl) rfl (fun _ => rfl) (fun _ => rfl) (by decide) (by decide) (by decide) (by decide) (by decide) dX8_init_201 dX8_init_203 ?_
  refine (show NJ Y b X 1 206 [(0, .ref o)] [] (o + 25) (mdR ρ r o 39 o 0 25) (pI h o 17 (-1)) 24 6827 from ?_)
  refine n_aload_n (pc := 206) rfl 0 rfl C dX8_init_206 ?_
  refine n_sipush (pc := 207) (v := 260) (by decide) C dX8_init_207 ?_
  refine n_arrI (pc := 210) (N := 260) (c := 25) (J := 39) (j := 39) C ar_I g hbo hr (by decide) (by decide +kernel) (by decide +kernel) (by decide) (by decide +kernel) hk fl_RX8_92 R.2.2.1 (fun q e => by cases e; rfl) rfl (fun _ => rfl) (fun _ => rfl) (by decide) (by decide) (by decide) (by decide) (by decide) dX8_init_210 dX8_init_212 ?_
  refine (show NJ Y b X 1 215 [(0, .ref o)] [] (o + 26) (mdR ρ r o 40 o 0 26) (pI h o 17 (-1)) 25 7087 from ?_)
  refine n_aload_n (pc := 215) rfl 0 rfl C dX8_init_215 ?_
  refine n_sipush (pc := 216) (v := 840) (by decide) C dX8_init_216 ?_
  refine n_arrI (pc := 219) (N := 840) (c := 26) (J := 40) (j := 41) C ar_I g hbo hr (by decide) (by decide +kernel) (by decide +kernel) (by decide) (by decide +kernel) hk fl_RX8_95 R.2.2.1 (fun q e => by cases e; rfl) rfl (fun _ => rfl) (fun _ => rfl) (by decide) (by decide) (by decide) (by decide) (by decide) dX8_init_219 dX8_init_221 ?_
  refine (show NJ Y b X 1 224 [(0, .ref o)] [] (o + 27) (mdR ρ r o 42 o 0 27) (pI h o 17 (-1)) 26 7927 from ?_)
  refine n_aload_n (pc := 224) rfl 0 rfl C dX8_init_224 ?_
  refine n_sipush (pc := 225) (v := 840) (by decide) C dX8_init_225 ?_
  refine n_arrI (pc := 228) (N := 840) (c := 27) (J := 42) (j := 42) C ar_I g hbo hr (by decide) (by decide +kernel) (by decide +kernel) (by decide) (by decide +kernel) hk fl_RX8_98 R.2.2.1 (fun q e => by cases e; rfl) rfl (fun _ => rfl) (fun _ => rfl) (by decide) (by decide) (by decide) (by decide) (by decide) dX8_init_228 dX8_init_230 ?_
  refine (show NJ Y b X 1 233 [(0, .ref o)] [] (o + 28) (mdR ρ r o 43 o 0 28) (pI h o 17 (-1)) 27 8767 from ?_)
  refine n_aload_n (pc := 233) rfl 0 rfl C dX8_init_233 ?_
  refine n_bipush (pc := 234) (v := 64) (by decide) C dX8_init_234 ?_
  refine n_arrI (pc := 236) (N := 64) (c := 28) (J := 43) (j := 43) C ar_I g hbo hr (by decide) (by decide +kernel) (by decide +kernel) (by decide) (by decide +kernel) hk fl_RX8_101 R.2.2.1 (fun q e => by cases e; rfl) rfl (fun _ => rfl) (fun _ => rfl) (by decide) (by decide) (by decide) (by decide) (by decide) dX8_init_236 dX8_init_238 ?_
  refine (show NJ Y b X 1 241 [(0, .ref o)] [] (o + 29) (mdR ρ r o 44 o 0 29) (pI h o 17 (-1)) 28 8831 from ?_)
  refine n_aload_n (pc := 241) rfl 0 rfl C dX8_init_241 ?_
  refine n_bipush (pc := 242) (v := 9) (by decide) C dX8_init_242 ?_
  refine n_arrI (pc := 244) (N := 9) (c := 29) (J := 44) (j := 45) C ar_I g hbo hr (by decide) (by decide +kernel) (by decide +kernel) (by decide) (by decide +kernel) hk fl_RX8_104 R.2.2.1 (fun q e => by cases e; rfl) rfl (fun _ => rfl) (fun _ => rfl) (by decide) (by decide) (by decide) (by decide) (by decide) dX8_init_244 dX8_init_246 ?_
  refine (show NJ Y b X 1 249 [(0, .ref o)] [] (o + 30) (mdR ρ r o 46 o 0 30) (pI h o 17 (-1)) 29 8840 from ?_)
  refine n_aload_n (pc := 249) rfl 0 rfl C dX8_init_249 ?_
  refine n_sipush (pc := 250) (v := 400) (by decide) C dX8_init_250 ?_
  refine n_arrI (pc := 253) (N := 400) (c := 30) (J := 46) (j := 46) C ar_I g hbo hr (by decide) (by decide +kernel) (by decide +kernel) (by decide) (by decide +kernel) hk fl_RX8_107 R.2.2.1 (fun q e => by cases e; rfl) rfl (fun _ => rfl) (fun _ => rfl) (by decide) (by decide) (by decide) (by decide) (by decide) dX8_init_253 dX8_init_255 ?_
  refine (show NJ Y b X 1 258 [(0, .ref o)] [] (o + 31) (mdR ρ r o 47 o 0 31) (pI h o 17 (-1)) 30 9240 from ?_)
  refine n_aload_n (pc := 258) rfl 0 rfl C dX8_init_258 ?_
  refine n_sipush (pc := 259) (v := 512) (by decide) C dX8_init_259 ?_
  refine n_arrI (pc := 262) (N := 512) (c := 31) (J := 47) (j := 48) C ar_I g hbo hr (by decide) (by decide +kernel) (by decide +kernel) (by decide) (by decide +kernel) hk fl_RX8_110 R.2.2.1 (fun q e => by cases e; rfl) rfl (fun _ => rfl) (fun _ => rfl) (by decide) (by decide) (by decide) (by decide) (by decide) dX8_init_262 dX8_init_264 ?_
  refine (show NJ Y b X 1 267 [(0, .ref o)] [] (o + 32) (mdR ρ r o 49 o 0 32) (pI h o 17 (-1)) 31 9752 from ?_)
  refine n_aload_n (pc := 267) rfl 0 rfl C dX8_init_267 ?_
  refine n_sipush (pc := 268) (v := 512) (by decide) C dX8_init_268 ?_
  refine n_arrI (pc := 271) (N := 512) (c := 32) (J := 49) (j := 49) C ar_I g hbo hr (by decide) (by decide +kernel) (by decide +kernel) (by decide) (by decide +kernel) hk fl_RX8_113 R.2.2.1 (fun q e => by cases e; rfl) rfl (fun _ => rfl) (fun _ => rfl) (by decide) (by decide) (by decide) (by decide) (by decide) dX8_init_271 dX8_init_273 ?_
  refine (show NJ Y b X 1 276 [(0, .ref o)] [] (o + 33) (mdR ρ r o 50 o 0 33) (pI h o 17 (-1)) 32 10264 from ?_)
  refine n_aload_n (pc := 276) rfl 0 rfl C dX8_init_276 ?_
  refine n_bipush (pc := 277) (v := 6) (by decide) C dX8_init_277 ?_
  refine n_arrI (pc := 279) (N := 6) (c := 33) (J := 50) (j := 53) C ar_I g hbo hr (by decide) (by decide +kernel) (by decide +kernel) (by decide) (by decide +kernel) hk fl_RX8_116 R.2.2.1 (fun q e => by cases e; rfl) rfl (fun _ => rfl) (fun _ => rfl) (by decide) (by decide) (by decide) (by decide) (by decide) dX8_init_279 dX8_init_281 ?_
  refine (show NJ Y b X 1 284 [(0, .ref o)] [] (o + 34) (mdR ρ r o 54 o 0 34) (pI h o 17 (-1)) 33 10270 from ?_)
  refine n_aload_n (pc := 284) rfl 0 rfl C dX8_init_284 ?_
  refine n_sipush (pc := 285) (v := 15360) (by decide) C dX8_init_285 ?_
  refine n_arrI (pc := 288) (N := 15360) (c := 34) (J := 54) (j := 55) C ar_I g hbo hr (by decide) (by decide +kernel) (by decide +kernel) (by decide) (by decide +kernel) hk fl_RX8_119 R.2.2.1 (fun q e => by cases e; rfl) rfl (fun _ => rfl) (fun _ => rfl) (by decide) (by decide) (by decide) (by decide) (by decide) dX8_init_288 dX8_init_290 ?_
  refine (show NJ Y b X 1 293 [(0, .ref o)] [] (o + 35) (mdR ρ r o 56 o 0 35) (pI h o 17 (-1)) 34 25630 from ?_)
  refine n_aload_n (pc := 293) rfl 0 rfl C dX8_init_293 ?_
  refine n_bipush (pc := 294) (v := 40) (by decide) C dX8_init_294 ?_
  refine n_arrI (pc := 296) (N := 40) (c := 35) (J := 56) (j := 56) C ar_I g hbo hr (by decide) (by decide +kernel) (by decide +kernel) (by decide) (by decide +kernel) hk fl_RX8_122 R.2.2.1 (fun q e => by cases e; rfl) rfl (fun _ => rfl) (fun _ => rfl) (by decide) (by decide) (by decide) (by decide) (by decide) dX8_init_296 dX8_init_298 ?_
  refine (show NJ Y b X 1 301 [(0, .ref o)] [] (o + 36) (mdR ρ r o 57 o 0 36) (pI h o 17 (-1)) 35 25670 from ?_)
  refine n_aload_n (pc := 301) rfl 0 rfl C dX8_init_301 ?_
  refine n_bipush (pc := 302) (v := 40) (by decide) C dX8_init_302 ?_
  refine n_arrZ (pc := 304) (N := 40) (c := 36) (J := 57) (j := 57) C ar_Z g hbo hr (by decide) (by decide +kernel) (by decide +kernel) (by decide) (by decide +kernel) hk fl_RX8_125 R.2.2.1 (fun q e => by cases e; rfl) rfl (fun _ => rfl) (fun _ => rfl) (by decide) (by decide) (by decide) (by decide) (by decide) dX8_init_304 dX8_init_306 ?_
  refine (show NJ Y b X 1 309 [(0, .ref o)] [] (o + 37) (mdR ρ r o 58 o 0 37) (pI h o 17 (-1)) 36 25710 from ?_)
  refine n_aload_n (pc := 309) rfl 0 rfl C dX8_init_309 ?_
  refine n_bipush (pc := 310) (v := 40) (by decide) C dX8_init_310 ?_
  refine n_arrZ (pc := 312) (N := 40) (c := 37) (J := 58) (j := 58) C ar_Z g hbo hr (by decide) (by decide +kernel) (by decide +kernel) (by decide) (by decide +kernel) hk fl_RX8_128 R.2.2.1 (fun q e => by cases e; rfl) rfl (fun _ => rfl) (fun _ => rfl) (by decide) (by decide) (by decide) (by decide) (by decide) dX8_init_312 dX8_init_314 ?_
  refine (show NJ Y b X 1 317 [(0, .ref o)] [] (o + 38) (mdR ρ r o 59 o 0 38) (pI h o 17 (-1)) 37 25750 from ?_)
  refine n_aload_n (pc := 317) rfl 0 rfl C dX8_init_317 ?_
  refine n_sipush (pc := 318) (v := 384) (by decide) C dX8_init_318 ?_
  refine n_arrI (pc := 321) (N := 384) (c := 38) (J := 59) (j := 59) C ar_I g hbo hr (by decide) (by decide +kernel) (by decide +kernel) (by decide) (by decide +kernel) hk fl_RX8_131 R.2.2.1 (fun q e => by cases e; rfl) rfl (fun _ => rfl) (fun _ => rfl) (by decide) (by decide) (by decide) (by decide) (by decide) dX8_init_321 dX8_init_323 ?_
  refine (show NJ Y b X 1 326 [(0, .ref o)] [] (o + 39) (mdR ρ r o 60 o 0 39) (pI h o 17 (-1)) 38 26134 from ?_)
  refine n_aload_n (pc := 326) rfl 0 rfl C dX8_init_326 ?_
  refine n_bipush (pc := 327) (v := 20) (by decide) C dX8_init_327 ?_
  refine n_arrI (pc := 329) (N := 20) (c := 39) (J := 60) (j := 61) C ar_I g hbo hr (by decide) (by decide +kernel) (by decide +kernel) (by decide) (by decide +kernel) hk fl_RX8_134 R.2.2.1 (fun q e => by cases e; rfl) rfl (fun _ => rfl) (fun _ => rfl) (by decide) (by decide) (by decide) (by decide) (by decide) dX8_init_329 dX8_init_331 ?_
  refine (show NJ Y b X 1 334 [(0, .ref o)] [] (o + 40) (mdR ρ r o 62 o 0 40) (pI h o 17 (-1)) 39 26154 from ?_)
  refine n_aload_n (pc := 334) rfl 0 rfl C dX8_init_334 ?_
  refine n_bipush (pc := 335) (v := 20) (by decide) C dX8_init_335 ?_
  refine n_arrI (pc := 337) (N := 20) (c := 40) (J := 62) (j := 62) C ar_I g hbo hr (by decide) (by decide +kernel) (by decide +kernel) (by decide) (by decide +kernel) hk fl_RX8_137 R.2.2.1 (fun q e => by cases e; rfl) rfl (fun _ => rfl) (fun _ => rfl) (by decide) (by decide) (by decide) (by decide) (by decide) dX8_init_337 dX8_init_339 ?_
  refine (show NJ Y b X 1 342 [(0, .ref o)] [] (o + 41) (mdR ρ r o 63 o 0 41) (pI h o 17 (-1)) 40 26174 from ?_)
  refine n_aload_n (pc := 342) rfl 0 rfl C dX8_init_342 ?_
  refine n_bipush (pc := 343) (v := 6) (by decide) C dX8_init_343 ?_
  refine n_arrI (pc := 345) (N := 6) (c := 41) (J := 63) (j := 63) C ar_I g hbo hr (by decide) (by decide +kernel) (by decide +kernel) (by decide) (by decide +kernel) hk fl_RX8_140 R.2.2.1 (fun q e => by cases e; rfl) rfl (fun _ => rfl) (fun _ => rfl) (by decide) (by decide) (by decide) (by decide) (by decide) dX8_init_345 dX8_init_347 ?_
  refine (show NJ Y b X 1 350 [(0, .ref o)] [] (o + 42) (mdR ρ r o 64 o 0 42) (pI h o 17 (-1)) 41 26180 from ?_)
  refine n_aload_n (pc := 350) rfl 0 rfl C dX8_init_350 ?_
  refine n_iconst (pc := 351) (v := 3) (by decide) C dX8_init_351 ?_
  refine n_arrZ (pc := 352) (N := 3) (c := 42) (J := 64) (j := 64) C ar_Z g hbo hr (by decide) (by decide +kernel) (by decide +kernel) (by decide) (by decide +kernel) hk fl_RX8_143 R.2.2.1 (fun q e => by cases e; rfl) rfl (fun _ => rfl) (fun _ => rfl) (by decide) (by decide) (by decide) (by decide) (by decide) dX8_init_352 dX8_init_354 ?_
  refine (show NJ Y b X 1 357 [(0, .ref o)] [] (o + 43) (mdR ρ r o 65 o 0 43) (pI h o 17 (-1)) 42 26183 from ?_)
  refine n_aload_n (pc := 357) rfl 0 rfl C dX8_init_357 ?_
  refine n_sipush (pc := 358) (v := 1536) (by decide) C dX8_init_358 ?_
  refine n_arrI (pc := 361) (N := 1536) (c := 43) (J := 65) (j := 65) C ar_I g hbo hr (by decide) (by decide +kernel) (by decide +kernel) (by decide) (by decide +kernel) hk fl_RX8_146 R.2.2.1 (fun q e => by cases e; rfl) rfl (fun _ => rfl) (fun _ => rfl) (by decide) (by decide) (by decide) (by decide) (by decide) dX8_init_361 dX8_init_363 ?_
  refine (show NJ Y b X 1 366 [(0, .ref o)] [] (o + 44) (mdR ρ r o 66 o 0 44) (pI h o 17 (-1)) 43 27719 from ?_)
  rw [md_endT g (by decide +kernel) (by decide) (by decide +kernel)]
  have rm : RMo (fnR ρ r o 44) o := fun j hj hn => fn_at g (i := 0) ⟨by decide +kernel, by decide, mo_rf j hj, hn⟩
  have wh : Whl Y b (o + 44) (List.range' o tMo.length) (fnR ρ r o 44) := Whl.of g okT_Mo (fun a h1 h2 => fn_in a h1 h2) hbo (Nat.le_refl _)
  have lm : ∀ a, a ∈ List.range' o tMo.length ↔ o ≤ a ∧ a < o + 44 := fun a => List.mem_range'_1
  have lo : o ∈ List.range' o tMo.length := (lm o).mpr ⟨Nat.le_refl _, by omega⟩
  have x1 : ∀ a, o < a → ∀ j, (pI h o 17 (-1)).1 a j = 0 := fun a ha j => by rw [pI_o _ _ _ _ (by omega)]; exact hh a (by omega) j
  have x2 : ∀ j, ¬ j = 17 → (pI h o 17 (-1)).1 o j = 0 := fun j hj => by rw [pI_n _ _ _ _ (fun q => hj q.2)]; exact hh o (Nat.le_refl o) j
  have x3 : (pI h o 17 (-1)).1 o 17 = -1 := pI_s _ _ _ _
  have x4 : Fr (fun a => o ≤ a ∧ a < o + 44) h (pI h o 17 (-1)) := Fr.pI ⟨Nat.le_refl _, by omega⟩
  generalize (pI h o 17 (-1)) = hP at x1 x2 x3 x4 ⊢
  refine n_aload_n (pc := 366) rfl 0 rfl C dX8_init_366 ?_
  refine n_iconst (pc := 367) (v := 0) (by decide) C dX8_init_367 ?_
  refine n_callVv (pc := 368) (k := 8) (As := [.int 0]) (st := []) (post := fun h1 => h1 = hP) (List.range' o tMo.length) C mv_RX8_149 wh (M_Mo_plain ⟨lo, hk⟩ (P_plain0 rm x1 ⟨Fr.rf, rfl⟩)) lo hk (by decide) rfl rfl (by decide) (by decide) (by decide) dX8_init_368 (fun h1 hf hB => ?_)
  rw [hB]
  have k0 : KP o 0 hP hP := KP.zero
  refine n_aload_n (pc := 371) rfl 0 rfl C dX8_init_371 ?_
  refine n_getR (pc := 372) (v := o + 7) C fl_RX8_34 hbo (by omega) hk rfl (fn_at g (i := 0) (by decide +kernel)) (by omega) dX8_init_372 ?_
  refine n_iconst (pc := 375) (v := 0) (by decide) C dX8_init_375 ?_
  refine n_bipush (pc := 376) (v := 114) (by decide) C dX8_init_376 ?_
  refine n_bipush (pc := 378) (v := 111) (by decide) C dX8_init_378 ?_
  refine n_bipush (pc := 380) (v := 119) (by decide) C dX8_init_380 ?_
  refine n_iconst (pc := 382) (v := 0) (by decide) C dX8_init_382 ?_
  refine n_iconst (pc := 383) (v := 0) (by decide) C dX8_init_383 ?_
  refine n_iconst (pc := 384) (v := 0) (by decide) C dX8_init_384 ?_
  refine n_iconst (pc := 385) (v := 0) (by decide) C dX8_init_385 ?_
  refine n_callSl (pc := 386) (As := [.int 114, .int 111, .int 119, .int 0, .int 0, .int 0, .int 0]) (st := [.int 0, .ref (o + 7)]) (post := fun v h1 => v = lN (b27 (wdL.getD 0 [])) ∧ h1 = hP) (List.range' o tMo.length) C ms_RX8_153 wh (M_Mo_word (P_word (w := lN (b27 (wdL.getD 0 []))) (by decide +kernel) ⟨Fr.rf, rfl, rfl⟩)) (by decide) rfl rfl (Nat.le_of_ble_eq_true rfl) (by decide) (by decide) dX8_init_386 (fun v h1 hf hB => ?_)
  rw [hB.1, hB.2]
  refine n_last (pc := 389) (N := 19) (iN := 0) C (by omega) (by omega) (g.k (i := 7) (by decide +kernel)) (g.n (i := 7) (by decide +kernel)) (vp_in_nI (n := 0) (by decide) (by decide)) (by decide) dX8_init_389 ?_
  have k1 := k0.step
  generalize pL hP (o + 7) 0 (lN (b27 (wdL.getD 0 []))) = h_1 at k1 ⊢
  refine n_aload_n (pc := 390) rfl 0 rfl C dX8_init_390 ?_
  refine n_getR (pc := 391) (v := o + 7) C fl_RX8_34 hbo (by omega) hk rfl (fn_at g (i := 0) (by decide +kernel)) (by omega) dX8_init_391 ?_
  refine n_iconst (pc := 394) (v := 1) (by decide) C dX8_init_394 ?_
  refine n_bipush (pc := 395) (v := 98) (by decide) C dX8_init_395 ?_
  refine n_bipush (pc := 397) (v := 111) (by decide) C dX8_init_397 ?_
  refine n_bipush (pc := 399) (v := 97) (by decide) C dX8_init_399 ?_
  refine n_bipush (pc := 401) (v := 116) (by decide) C dX8_init_401 ?_
  refine n_iconst (pc := 403) (v := 0) (by decide) C dX8_init_403 ?_
  refine n_iconst (pc := 404) (v := 0) (by decide) C dX8_init_404 ?_
  refine n_iconst (pc := 405) (v := 0) (by decide) C dX8_init_405 ?_
  refine n_callSl (pc := 406) (As := [.int 98, .int 111, .int 97, .int 116, .int 0, .int 0, .int 0]) (st := [.int 1, .ref (o + 7)]) (post := fun v h1 => v = lN (b27 (wdL.getD 1 [])) ∧ h1 = h_1) (List.range' o tMo.length) C ms_RX8_153 wh (M_Mo_word (P_word (w := lN (b27 (wdL.getD 1 []))) (by decide +kernel) ⟨Fr.rf, rfl, rfl⟩)) (by decide) rfl rfl (Nat.le_of_ble_eq_true rfl) (by decide) (by decide) dX8_init_406 (fun v h1 hf hB => ?_)
  rw [hB.1, hB.2]
  refine n_last (pc := 409) (N := 19) (iN := 1) C (by omega) (by omega) (g.k (i := 7) (by decide +kernel)) (g.n (i := 7) (by decide +kernel)) (vp_in_nI (n := 1) (by decide) (by decide)) (by decide) dX8_init_409 ?_
  have k2 := k1.step
  generalize pL h_1 (o + 7) 1 (lN (b27 (wdL.getD 1 []))) = h_2 at k2 ⊢
  refine n_aload_n (pc := 410) rfl 0 rfl C dX8_init_410 ?_
  refine n_getR (pc := 411) (v := o + 7) C fl_RX8_34 hbo (by omega) hk rfl (fn_at g (i := 0) (by decide +kernel)) (by omega) dX8_init_411 ?_
  refine n_iconst (pc := 414) (v := 2) (by decide) C dX8_init_414 ?_
  refine n_bipush (pc := 415) (v := 119) (by decide) C dX8_init_415 ?_
  refine n_bipush (pc := 417) (v := 105) (by decide) C dX8_init_417 ?_
  refine n_bipush (pc := 419) (v := 110) (by decide) C dX8_init_419 ?_
  refine n_bipush (pc := 421) (v := 100) (by decide) C dX8_init_421 ?_
  refine n_iconst (pc := 423) (v := 0) (by decide) C dX8_init_423 ?_
  refine n_iconst (pc := 424) (v := 0) (by decide) C dX8_init_424 ?_
  refine n_iconst (pc := 425) (v := 0) (by decide) C dX8_init_425 ?_
  refine n_callSl (pc := 426) (As := [.int 119, .int 105, .int 110, .int 100, .int 0, .int 0, .int 0]) (st := [.int 2, .ref (o + 7)]) (post := fun v h1 => v = lN (b27 (wdL.getD 2 [])) ∧ h1 = h_2) (List.range' o tMo.length) C ms_RX8_153 wh (M_Mo_word (P_word (w := lN (b27 (wdL.getD 2 []))) (by decide +kernel) ⟨Fr.rf, rfl, rfl⟩)) (by decide) rfl rfl (Nat.le_of_ble_eq_true rfl) (by decide) (by decide) dX8_init_426 (fun v h1 hf hB => ?_)
  rw [hB.1, hB.2]
  refine n_last (pc := 429) (N := 19) (iN := 2) C (by omega) (by omega) (g.k (i := 7) (by decide +kernel)) (g.n (i := 7) (by decide +kernel)) (vp_in_nI (n := 2) (by decide) (by decide)) (by decide) dX8_init_429 ?_
  have k3 := k2.step
  generalize pL h_2 (o + 7) 2 (lN (b27 (wdL.getD 2 []))) = h_3 at k3 ⊢
  refine n_aload_n (pc := 430) rfl 0 rfl C dX8_init_430 ?_
  refine n_getR (pc := 431) (v := o + 7) C fl_RX8_34 hbo (by omega) hk rfl (fn_at g (i := 0) (by decide +kernel)) (by omega) dX8_init_431 ?_
  refine n_iconst (pc := 434) (v := 3) (by decide) C dX8_init_434 ?_
  refine n_bipush (pc := 435) (v := 115) (by decide) C dX8_init_435 ?_
  refine n_bipush (pc := 437) (v := 116) (by decide) C dX8_init_437 ?_
  refine n_bipush (pc := 439) (v := 101) (by decide) C dX8_init_439 ?_
  refine n_bipush (pc := 441) (v := 101) (by decide) C dX8_init_441 ?_
  refine n_bipush (pc := 443) (v := 114) (by decide) C dX8_init_443 ?_
  refine n_bipush (pc := 445) (v := 115) (by decide) C dX8_init_445 ?_
  refine n_iconst (pc := 447) (v := 0) (by decide) C dX8_init_447 ?_
  refine n_callSl (pc := 448) (As := [.int 115, .int 116, .int 101, .int 101, .int 114, .int 115, .int 0]) (st := [.int 3, .ref (o + 7)]) (post := fun v h1 => v = lN (b27 (wdL.getD 3 [])) ∧ h1 = h_3) (List.range' o tMo.length) C ms_RX8_153 wh (M_Mo_word (P_word (w := lN (b27 (wdL.getD 3 []))) (by decide +kernel) ⟨Fr.rf, rfl, rfl⟩)) (by decide) rfl rfl (Nat.le_of_ble_eq_true rfl) (by decide) (by decide) dX8_init_448 (fun v h1 hf hB => ?_)
  rw [hB.1, hB.2]
  refine n_last (pc := 451) (N := 19) (iN := 3) C (by omega) (by omega) (g.k (i := 7) (by decide +kernel)) (g.n (i := 7) (by decide +kernel)) (vp_in_nI (n := 3) (by decide) (by decide)) (by decide) dX8_init_451 ?_
  have k4 := k3.step
  generalize pL h_3 (o + 7) 3 (lN (b27 (wdL.getD 3 []))) = h_4 at k4 ⊢
  refine n_aload_n (pc := 452) rfl 0 rfl C dX8_init_452 ?_
  refine n_getR (pc := 453) (v := o + 7) C fl_RX8_34 hbo (by omega) hk rfl (fn_at g (i := 0) (by decide +kernel)) (by omega) dX8_init_453 ?_
  refine n_iconst (pc := 456) (v := 4) (by decide) C dX8_init_456 ?_
  refine n_bipush (pc := 457) (v := 108) (by decide) C dX8_init_457 ?_
  refine n_bipush (pc := 459) (v := 105) (by decide) C dX8_init_459 ?_
  refine n_bipush (pc := 461) (v := 101) (by decide) C dX8_init_461 ?_
  refine n_bipush (pc := 463) (v := 115) (by decide) C dX8_init_463 ?_
  refine n_iconst (pc := 465) (v := 0) (by decide) C dX8_init_465 ?_
  refine n_iconst (pc := 466) (v := 0) (by decide) C dX8_init_466 ?_
  refine n_iconst (pc := 467) (v := 0) (by decide) C dX8_init_467 ?_
  refine n_callSl (pc := 468) (As := [.int 108, .int 105, .int 101, .int 115, .int 0, .int 0, .int 0]) (st := [.int 4, .ref (o + 7)]) (post := fun v h1 => v = lN (b27 (wdL.getD 4 [])) ∧ h1 = h_4) (List.range' o tMo.length) C ms_RX8_153 wh (M_Mo_word (P_word (w := lN (b27 (wdL.getD 4 []))) (by decide +kernel) ⟨Fr.rf, rfl, rfl⟩)) (by decide) rfl rfl (Nat.le_of_ble_eq_true rfl) (by decide) (by decide) dX8_init_468 (fun v h1 hf hB => ?_)
  rw [hB.1, hB.2]
  refine n_last (pc := 471) (N := 19) (iN := 4) C (by omega) (by omega) (g.k (i := 7) (by decide +kernel)) (g.n (i := 7) (by decide +kernel)) (vp_in_nI (n := 4) (by decide) (by decide)) (by decide) dX8_init_471 ?_
  have k5 := k4.step
  generalize pL h_4 (o + 7) 4 (lN (b27 (wdL.getD 4 []))) = h_5 at k5 ⊢
  refine n_aload_n (pc := 472) rfl 0 rfl C dX8_init_472 ?_
  refine n_getR (pc := 473) (v := o + 7) C fl_RX8_34 hbo (by omega) hk rfl (fn_at g (i := 0) (by decide +kernel)) (by omega) dX8_init_473 ?_
  refine n_iconst (pc := 476) (v := 5) (by decide) C dX8_init_476 ?_
  refine n_bipush (pc := 477) (v := 99) (by decide) C dX8_init_477 ?_
  refine n_bipush (pc := 479) (v := 111) (by decide) C dX8_init_479 ?_
  refine n_bipush (pc := 481) (v := 108) (by decide) C dX8_init_481 ?_
  refine n_bipush (pc := 483) (v := 100) (by decide) C dX8_init_483 ?_
  refine n_iconst (pc := 485) (v := 0) (by decide) C dX8_init_485 ?_
  refine n_iconst (pc := 486) (v := 0) (by decide) C dX8_init_486 ?_
  refine n_iconst (pc := 487) (v := 0) (by decide) C dX8_init_487 ?_
  refine n_callSl (pc := 488) (As := [.int 99, .int 111, .int 108, .int 100, .int 0, .int 0, .int 0]) (st := [.int 5, .ref (o + 7)]) (post := fun v h1 => v = lN (b27 (wdL.getD 5 [])) ∧ h1 = h_5) (List.range' o tMo.length) C ms_RX8_153 wh (M_Mo_word (P_word (w := lN (b27 (wdL.getD 5 []))) (by decide +kernel) ⟨Fr.rf, rfl, rfl⟩)) (by decide) rfl rfl (Nat.le_of_ble_eq_true rfl) (by decide) (by decide) dX8_init_488 (fun v h1 hf hB => ?_)
  rw [hB.1, hB.2]
  refine n_last (pc := 491) (N := 19) (iN := 5) C (by omega) (by omega) (g.k (i := 7) (by decide +kernel)) (g.n (i := 7) (by decide +kernel)) (vp_in_nI (n := 5) (by decide) (by decide)) (by decide) dX8_init_491 ?_
  have k6 := k5.step
  generalize pL h_5 (o + 7) 5 (lN (b27 (wdL.getD 5 []))) = h_6 at k6 ⊢
  refine n_aload_n (pc := 492) rfl 0 rfl C dX8_init_492 ?_
  refine n_getR (pc := 493) (v := o + 7) C fl_RX8_34 hbo (by omega) hk rfl (fn_at g (i := 0) (by decide +kernel)) (by omega) dX8_init_493 ?_
  refine n_bipush (pc := 496) (v := 6) (by decide) C dX8_init_496 ?_
  refine n_bipush (pc := 498) (v := 115) (by decide) C dX8_init_498 ?_
  refine n_bipush (pc := 500) (v := 101) (by decide) C dX8_init_500 ?_
  refine n_bipush (pc := 502) (v := 101) (by decide) C dX8_init_502 ?_
  refine n_bipush (pc := 504) (v := 100) (by decide) C dX8_init_504 ?_
  refine n_iconst (pc := 506) (v := 0) (by decide) C dX8_init_506 ?_
  refine n_iconst (pc := 507) (v := 0) (by decide) C dX8_init_507 ?_
  refine n_iconst (pc := 508) (v := 0) (by decide) C dX8_init_508 ?_
  refine n_callSl (pc := 509) (As := [.int 115, .int 101, .int 101, .int 100, .int 0, .int 0, .int 0]) (st := [.int 6, .ref (o + 7)]) (post := fun v h1 => v = lN (b27 (wdL.getD 6 [])) ∧ h1 = h_6) (List.range' o tMo.length) C ms_RX8_153 wh (M_Mo_word (P_word (w := lN (b27 (wdL.getD 6 []))) (by decide +kernel) ⟨Fr.rf, rfl, rfl⟩)) (by decide) rfl rfl (Nat.le_of_ble_eq_true rfl) (by decide) (by decide) dX8_init_509 (fun v h1 hf hB => ?_)
  rw [hB.1, hB.2]
  refine n_last (pc := 512) (N := 19) (iN := 6) C (by omega) (by omega) (g.k (i := 7) (by decide +kernel)) (g.n (i := 7) (by decide +kernel)) (vp_in_nI (n := 6) (by decide) (by decide)) (by decide) dX8_init_512 ?_
  have k7 := k6.step
  generalize pL h_6 (o + 7) 6 (lN (b27 (wdL.getD 6 []))) = h_7 at k7 ⊢
  refine n_aload_n (pc := 513) rfl 0 rfl C dX8_init_513 ?_
  refine n_getR (pc := 514) (v := o + 7) C fl_RX8_34 hbo (by omega) hk rfl (fn_at g (i := 0) (by decide +kernel)) (by omega) dX8_init_514 ?_
  refine n_bipush (pc := 517) (v := 7) (by decide) C dX8_init_517 ?_
  refine n_bipush (pc := 519) (v := 105) (by decide) C dX8_init_519 ?_
  refine n_bipush (pc := 521) (v := 102) (by decide) C dX8_init_521 ?_
  refine n_iconst (pc := 523) (v := 0) (by decide) C dX8_init_523 ?_
  refine n_iconst (pc := 524) (v := 0) (by decide) C dX8_init_524 ?_
  refine n_iconst (pc := 525) (v := 0) (by decide) C dX8_init_525 ?_
  refine n_iconst (pc := 526) (v := 0) (by decide) C dX8_init_526 ?_
  refine n_iconst (pc := 527) (v := 0) (by decide) C dX8_init_527 ?_
  refine n_callSl (pc := 528) (As := [.int 105, .int 102, .int 0, .int 0, .int 0, .int 0, .int 0]) (st := [.int 7, .ref (o + 7)]) (post := fun v h1 => v = lN (b27 (wdL.getD 7 [])) ∧ h1 = h_7) (List.range' o tMo.length) C ms_RX8_153 wh (M_Mo_word (P_word (w := lN (b27 (wdL.getD 7 []))) (by decide +kernel) ⟨Fr.rf, rfl, rfl⟩)) (by decide) rfl rfl (Nat.le_of_ble_eq_true rfl) (by decide) (by decide) dX8_init_528 (fun v h1 hf hB => ?_)
  rw [hB.1, hB.2]
  refine n_last (pc := 531) (N := 19) (iN := 7) C (by omega) (by omega) (g.k (i := 7) (by decide +kernel)) (g.n (i := 7) (by decide +kernel)) (vp_in_nI (n := 7) (by decide) (by decide)) (by decide) dX8_init_531 ?_
  have k8 := k7.step
  generalize pL h_7 (o + 7) 7 (lN (b27 (wdL.getD 7 []))) = h_8 at k8 ⊢
  refine n_aload_n (pc := 532) rfl 0 rfl C dX8_init_532 ?_
  refine n_getR (pc := 533) (v := o + 7) C fl_RX8_34 hbo (by omega) hk rfl (fn_at g (i := 0) (by decide +kernel)) (by omega) dX8_init_533 ?_
  refine n_bipush (pc := 536) (v := 8) (by decide) C dX8_init_536 ?_
  refine n_bipush (pc := 538) (v := 116) (by decide) C dX8_init_538 ?_
  refine n_bipush (pc := 540) (v := 104) (by decide) C dX8_init_540 ?_
  refine n_bipush (pc := 542) (v := 101) (by decide) C dX8_init_542 ?_
  refine n_bipush (pc := 544) (v := 110) (by decide) C dX8_init_544 ?_
  refine n_iconst (pc := 546) (v := 0) (by decide) C dX8_init_546 ?_
  refine n_iconst (pc := 547) (v := 0) (by decide) C dX8_init_547 ?_
  refine n_iconst (pc := 548) (v := 0) (by decide) C dX8_init_548 ?_
  refine n_callSl (pc := 549) (As := [.int 116, .int 104, .int 101, .int 110, .int 0, .int 0, .int 0]) (st := [.int 8, .ref (o + 7)]) (post := fun v h1 => v = lN (b27 (wdL.getD 8 [])) ∧ h1 = h_8) (List.range' o tMo.length) C ms_RX8_153 wh (M_Mo_word (P_word (w := lN (b27 (wdL.getD 8 []))) (by decide +kernel) ⟨Fr.rf, rfl, rfl⟩)) (by decide) rfl rfl (Nat.le_of_ble_eq_true rfl) (by decide) (by decide) dX8_init_549 (fun v h1 hf hB => ?_)
  rw [hB.1, hB.2]
  refine n_last (pc := 552) (N := 19) (iN := 8) C (by omega) (by omega) (g.k (i := 7) (by decide +kernel)) (g.n (i := 7) (by decide +kernel)) (vp_in_nI (n := 8) (by decide) (by decide)) (by decide) dX8_init_552 ?_
  have k9 := k8.step
  generalize pL h_8 (o + 7) 8 (lN (b27 (wdL.getD 8 []))) = h_9 at k9 ⊢
  refine n_aload_n (pc := 553) rfl 0 rfl C dX8_init_553 ?_
  refine n_getR (pc := 554) (v := o + 7) C fl_RX8_34 hbo (by omega) hk rfl (fn_at g (i := 0) (by decide +kernel)) (by omega) dX8_init_554 ?_
  refine n_bipush (pc := 557) (v := 9) (by decide) C dX8_init_557 ?_
  refine n_bipush (pc := 559) (v := 101) (by decide) C dX8_init_559 ?_
  refine n_bipush (pc := 561) (v := 108) (by decide) C dX8_init_561 ?_
  refine n_bipush (pc := 563) (v := 115) (by decide) C dX8_init_563 ?_
  refine n_bipush (pc := 565) (v := 101) (by decide) C dX8_init_565 ?_
  refine n_iconst (pc := 567) (v := 0) (by decide) C dX8_init_567 ?_
  refine n_iconst (pc := 568) (v := 0) (by decide) C dX8_init_568 ?_
  refine n_iconst (pc := 569) (v := 0) (by decide) C dX8_init_569 ?_
  refine n_callSl (pc := 570) (As := [.int 101, .int 108, .int 115, .int 101, .int 0, .int 0, .int 0]) (st := [.int 9, .ref (o + 7)]) (post := fun v h1 => v = lN (b27 (wdL.getD 9 [])) ∧ h1 = h_9) (List.range' o tMo.length) C ms_RX8_153 wh (M_Mo_word (P_word (w := lN (b27 (wdL.getD 9 []))) (by decide +kernel) ⟨Fr.rf, rfl, rfl⟩)) (by decide) rfl rfl (Nat.le_of_ble_eq_true rfl) (by decide) (by decide) dX8_init_570 (fun v h1 hf hB => ?_)
  rw [hB.1, hB.2]
  refine n_last (pc := 573) (N := 19) (iN := 9) C (by omega) (by omega) (g.k (i := 7) (by decide +kernel)) (g.n (i := 7) (by decide +kernel)) (vp_in_nI (n := 9) (by decide) (by decide)) (by decide) dX8_init_573 ?_
  have k10 := k9.step
  generalize pL h_9 (o + 7) 9 (lN (b27 (wdL.getD 9 []))) = h_10 at k10 ⊢
  refine n_aload_n (pc := 574) rfl 0 rfl C dX8_init_574 ?_
  refine n_getR (pc := 575) (v := o + 7) C fl_RX8_34 hbo (by omega) hk rfl (fn_at g (i := 0) (by decide +kernel)) (by omega) dX8_init_575 ?_
  refine n_bipush (pc := 578) (v := 10) (by decide) C dX8_init_578 ?_
  refine n_bipush (pc := 580) (v := 104) (by decide) C dX8_init_580 ?_
  refine n_bipush (pc := 582) (v := 111) (by decide) C dX8_init_582 ?_
  refine n_bipush (pc := 584) (v := 117) (by decide) C dX8_init_584 ?_
  refine n_bipush (pc := 586) (v := 114) (by decide) C dX8_init_586 ?_
  refine n_iconst (pc := 588) (v := 0) (by decide) C dX8_init_588 ?_
  refine n_iconst (pc := 589) (v := 0) (by decide) C dX8_init_589 ?_
  refine n_iconst (pc := 590) (v := 0) (by decide) C dX8_init_590 ?_
  refine n_callSl (pc := 591) (As := [.int 104, .int 111, .int 117, .int 114, .int 0, .int 0, .int 0]) (st := [.int 10, .ref (o + 7)]) (post := fun v h1 => v = lN (b27 (wdL.getD 10 [])) ∧ h1 = h_10) (List.range' o tMo.length) C ms_RX8_153 wh (M_Mo_word (P_word (w := lN (b27 (wdL.getD 10 []))) (by decide +kernel) ⟨Fr.rf, rfl, rfl⟩)) (by decide) rfl rfl (Nat.le_of_ble_eq_true rfl) (by decide) (by decide) dX8_init_591 (fun v h1 hf hB => ?_)
  rw [hB.1, hB.2]
  refine n_last (pc := 594) (N := 19) (iN := 10) C (by omega) (by omega) (g.k (i := 7) (by decide +kernel)) (g.n (i := 7) (by decide +kernel)) (vp_in_nI (n := 10) (by decide) (by decide)) (by decide) dX8_init_594 ?_
  have k11 := k10.step
  generalize pL h_10 (o + 7) 10 (lN (b27 (wdL.getD 10 []))) = h_11 at k11 ⊢
  refine n_aload_n (pc := 595) rfl 0 rfl C dX8_init_595 ?_
  refine n_getR (pc := 596) (v := o + 7) C fl_RX8_34 hbo (by omega) hk rfl (fn_at g (i := 0) (by decide +kernel)) (by omega) dX8_init_596 ?_
  refine n_bipush (pc := 599) (v := 11) (by decide) C dX8_init_599 ?_
  refine n_bipush (pc := 601) (v := 101) (by decide) C dX8_init_601 ?_
  refine n_bipush (pc := 603) (v := 97) (by decide) C dX8_init_603 ?_
  refine n_bipush (pc := 605) (v := 115) (by decide) C dX8_init_605 ?_
  refine n_bipush (pc := 607) (v := 116) (by decide) C dX8_init_607 ?_
  refine n_iconst (pc := 609) (v := 0) (by decide) C dX8_init_609 ?_
  refine n_iconst (pc := 610) (v := 0) (by decide) C dX8_init_610 ?_
  refine n_iconst (pc := 611) (v := 0) (by decide) C dX8_init_611 ?_
  refine n_callSl (pc := 612) (As := [.int 101, .int 97, .int 115, .int 116, .int 0, .int 0, .int 0]) (st := [.int 11, .ref (o + 7)]) (post := fun v h1 => v = lN (b27 (wdL.getD 11 [])) ∧ h1 = h_11) (List.range' o tMo.length) C ms_RX8_153 wh (M_Mo_word (P_word (w := lN (b27 (wdL.getD 11 []))) (by decide +kernel) ⟨Fr.rf, rfl, rfl⟩)) (by decide) rfl rfl (Nat.le_of_ble_eq_true rfl) (by decide) (by decide) dX8_init_612 (fun v h1 hf hB => ?_)
  rw [hB.1, hB.2]
  refine n_last (pc := 615) (N := 19) (iN := 11) C (by omega) (by omega) (g.k (i := 7) (by decide +kernel)) (g.n (i := 7) (by decide +kernel)) (vp_in_nI (n := 11) (by decide) (by decide)) (by decide) dX8_init_615 ?_
  have k12 := k11.step
  generalize pL h_11 (o + 7) 11 (lN (b27 (wdL.getD 11 []))) = h_12 at k12 ⊢
  refine n_aload_n (pc := 616) rfl 0 rfl C dX8_init_616 ?_
  refine n_getR (pc := 617) (v := o + 7) C fl_RX8_34 hbo (by omega) hk rfl (fn_at g (i := 0) (by decide +kernel)) (by omega) dX8_init_617 ?_
  refine n_bipush (pc := 620) (v := 12) (by decide) C dX8_init_620 ?_
  refine n_bipush (pc := 622) (v := 115) (by decide) C dX8_init_622 ?_
  refine n_bipush (pc := 624) (v := 111) (by decide) C dX8_init_624 ?_
  refine n_bipush (pc := 626) (v := 117) (by decide) C dX8_init_626 ?_
  refine n_bipush (pc := 628) (v := 116) (by decide) C dX8_init_628 ?_
  refine n_bipush (pc := 630) (v := 104) (by decide) C dX8_init_630 ?_
  refine n_iconst (pc := 632) (v := 0) (by decide) C dX8_init_632 ?_
  refine n_iconst (pc := 633) (v := 0) (by decide) C dX8_init_633 ?_
  refine n_callSl (pc := 634) (As := [.int 115, .int 111, .int 117, .int 116, .int 104, .int 0, .int 0]) (st := [.int 12, .ref (o + 7)]) (post := fun v h1 => v = lN (b27 (wdL.getD 12 [])) ∧ h1 = h_12) (List.range' o tMo.length) C ms_RX8_153 wh (M_Mo_word (P_word (w := lN (b27 (wdL.getD 12 []))) (by decide +kernel) ⟨Fr.rf, rfl, rfl⟩)) (by decide) rfl rfl (Nat.le_of_ble_eq_true rfl) (by decide) (by decide) dX8_init_634 (fun v h1 hf hB => ?_)
  rw [hB.1, hB.2]
  refine n_last (pc := 637) (N := 19) (iN := 12) C (by omega) (by omega) (g.k (i := 7) (by decide +kernel)) (g.n (i := 7) (by decide +kernel)) (vp_in_nI (n := 12) (by decide) (by decide)) (by decide) dX8_init_637 ?_
  have k13 := k12.step
  generalize pL h_12 (o + 7) 12 (lN (b27 (wdL.getD 12 []))) = h_13 at k13 ⊢
  refine n_aload_n (pc := 638) rfl 0 rfl C dX8_init_638 ?_
  refine n_getR (pc := 639) (v := o + 7) C fl_RX8_34 hbo (by omega) hk rfl (fn_at g (i := 0) (by decide +kernel)) (by omega) dX8_init_639 ?_
  refine n_bipush (pc := 642) (v := 13) (by decide) C dX8_init_642 ?_
  refine n_bipush (pc := 644) (v := 98) (by decide) C dX8_init_644 ?_
  refine n_bipush (pc := 646) (v := 108) (by decide) C dX8_init_646 ?_
  refine n_bipush (pc := 648) (v := 111) (by decide) C dX8_init_648 ?_
  refine n_bipush (pc := 650) (v := 119) (by decide) C dX8_init_650 ?_
  refine n_bipush (pc := 652) (v := 115) (by decide) C dX8_init_652 ?_
  refine n_iconst (pc := 654) (v := 0) (by decide) C dX8_init_654 ?_
  refine n_iconst (pc := 655) (v := 0) (by decide) C dX8_init_655 ?_
  refine n_callSl (pc := 656) (As := [.int 98, .int 108, .int 111, .int 119, .int 115, .int 0, .int 0]) (st := [.int 13, .ref (o + 7)]) (post := fun v h1 => v = lN (b27 (wdL.getD 13 [])) ∧ h1 = h_13) (List.range' o tMo.length) C ms_RX8_153 wh (M_Mo_word (P_word (w := lN (b27 (wdL.getD 13 []))) (by decide +kernel) ⟨Fr.rf, rfl, rfl⟩)) (by decide) rfl rfl (Nat.le_of_ble_eq_true rfl) (by decide) (by decide) dX8_init_656 (fun v h1 hf hB => ?_)
  rw [hB.1, hB.2]
  refine n_last (pc := 659) (N := 19) (iN := 13) C (by omega) (by omega) (g.k (i := 7) (by decide +kernel)) (g.n (i := 7) (by decide +kernel)) (vp_in_nI (n := 13) (by decide) (by decide)) (by decide) dX8_init_659 ?_
  have k14 := k13.step
  generalize pL h_13 (o + 7) 13 (lN (b27 (wdL.getD 13 []))) = h_14 at k14 ⊢
  refine n_aload_n (pc := 660) rfl 0 rfl C dX8_init_660 ?_
  refine n_getR (pc := 661) (v := o + 7) C fl_RX8_34 hbo (by omega) hk rfl (fn_at g (i := 0) (by decide +kernel)) (by omega) dX8_init_661 ?_
  refine n_bipush (pc := 664) (v := 14) (by decide) C dX8_init_664 ?_
  refine n_bipush (pc := 666) (v := 115) (by decide) C dX8_init_666 ?_
  refine n_bipush (pc := 668) (v := 109) (by decide) C dX8_init_668 ?_
  refine n_bipush (pc := 670) (v := 101) (by decide) C dX8_init_670 ?_
  refine n_bipush (pc := 672) (v := 108) (by decide) C dX8_init_672 ?_
  refine n_bipush (pc := 674) (v := 108) (by decide) C dX8_init_674 ?_
  refine n_bipush (pc := 676) (v := 115) (by decide) C dX8_init_676 ?_
  refine n_iconst (pc := 678) (v := 0) (by decide) C dX8_init_678 ?_
  refine n_callSl (pc := 679) (As := [.int 115, .int 109, .int 101, .int 108, .int 108, .int 115, .int 0]) (st := [.int 14, .ref (o + 7)]) (post := fun v h1 => v = lN (b27 (wdL.getD 14 [])) ∧ h1 = h_14) (List.range' o tMo.length) C ms_RX8_153 wh (M_Mo_word (P_word (w := lN (b27 (wdL.getD 14 []))) (by decide +kernel) ⟨Fr.rf, rfl, rfl⟩)) (by decide) rfl rfl (Nat.le_of_ble_eq_true rfl) (by decide) (by decide) dX8_init_679 (fun v h1 hf hB => ?_)
  rw [hB.1, hB.2]
  refine n_last (pc := 682) (N := 19) (iN := 14) C (by omega) (by omega) (g.k (i := 7) (by decide +kernel)) (g.n (i := 7) (by decide +kernel)) (vp_in_nI (n := 14) (by decide) (by decide)) (by decide) dX8_init_682 ?_
  have k15 := k14.step
  generalize pL h_14 (o + 7) 14 (lN (b27 (wdL.getD 14 []))) = h_15 at k15 ⊢
  refine n_aload_n (pc := 683) rfl 0 rfl C dX8_init_683 ?_
  refine n_getR (pc := 684) (v := o + 7) C fl_RX8_34 hbo (by omega) hk rfl (fn_at g (i := 0) (by decide +kernel)) (by omega) dX8_init_684 ?_
  refine n_bipush (pc := 687) (v := 15) (by decide) C dX8_init_687 ?_
  refine n_bipush (pc := 689) (v := 110) (by decide) C dX8_init_689 ?_
  refine n_bipush (pc := 691) (v := 101) (by decide) C dX8_init_691 ?_
  refine n_bipush (pc := 693) (v := 97) (by decide) C dX8_init_693 ?_
  refine n_bipush (pc := 695) (v := 114) (by decide) C dX8_init_695 ?_
  refine n_iconst (pc := 697) (v := 0) (by decide) C dX8_init_697 ?_
  refine n_iconst (pc := 698) (v := 0) (by decide) C dX8_init_698 ?_
  refine n_iconst (pc := 699) (v := 0) (by decide) C dX8_init_699 ?_
  refine n_callSl (pc := 700) (As := [.int 110, .int 101, .int 97, .int 114, .int 0, .int 0, .int 0]) (st := [.int 15, .ref (o + 7)]) (post := fun v h1 => v = lN (b27 (wdL.getD 15 [])) ∧ h1 = h_15) (List.range' o tMo.length) C ms_RX8_153 wh (M_Mo_word (P_word (w := lN (b27 (wdL.getD 15 []))) (by decide +kernel) ⟨Fr.rf, rfl, rfl⟩)) (by decide) rfl rfl (Nat.le_of_ble_eq_true rfl) (by decide) (by decide) dX8_init_700 (fun v h1 hf hB => ?_)
  rw [hB.1, hB.2]
  refine n_last (pc := 703) (N := 19) (iN := 15) C (by omega) (by omega) (g.k (i := 7) (by decide +kernel)) (g.n (i := 7) (by decide +kernel)) (vp_in_nI (n := 15) (by decide) (by decide)) (by decide) dX8_init_703 ?_
  have k16 := k15.step
  generalize pL h_15 (o + 7) 15 (lN (b27 (wdL.getD 15 []))) = h_16 at k16 ⊢
  refine n_aload_n (pc := 704) rfl 0 rfl C dX8_init_704 ?_
  refine n_getR (pc := 705) (v := o + 7) C fl_RX8_34 hbo (by omega) hk rfl (fn_at g (i := 0) (by decide +kernel)) (by omega) dX8_init_705 ?_
  refine n_bipush (pc := 708) (v := 16) (by decide) C dX8_init_708 ?_
  refine n_bipush (pc := 710) (v := 119) (by decide) C dX8_init_710 ?_
  refine n_bipush (pc := 712) (v := 104) (by decide) C dX8_init_712 ?_
  refine n_bipush (pc := 714) (v := 105) (by decide) C dX8_init_714 ?_
  refine n_bipush (pc := 716) (v := 99) (by decide) C dX8_init_716 ?_
  refine n_bipush (pc := 718) (v := 104) (by decide) C dX8_init_718 ?_
  refine n_iconst (pc := 720) (v := 0) (by decide) C dX8_init_720 ?_
  refine n_iconst (pc := 721) (v := 0) (by decide) C dX8_init_721 ?_
  refine n_callSl (pc := 722) (As := [.int 119, .int 104, .int 105, .int 99, .int 104, .int 0, .int 0]) (st := [.int 16, .ref (o + 7)]) (post := fun v h1 => v = lN (b27 (wdL.getD 16 [])) ∧ h1 = h_16) (List.range' o tMo.length) C ms_RX8_153 wh (M_Mo_word (P_word (w := lN (b27 (wdL.getD 16 []))) (by decide +kernel) ⟨Fr.rf, rfl, rfl⟩)) (by decide) rfl rfl (Nat.le_of_ble_eq_true rfl) (by decide) (by decide) dX8_init_722 (fun v h1 hf hB => ?_)
  rw [hB.1, hB.2]
  refine n_last (pc := 725) (N := 19) (iN := 16) C (by omega) (by omega) (g.k (i := 7) (by decide +kernel)) (g.n (i := 7) (by decide +kernel)) (vp_in_nI (n := 16) (by decide) (by decide)) (by decide) dX8_init_725 ?_
  have k17 := k16.step
  generalize pL h_16 (o + 7) 16 (lN (b27 (wdL.getD 16 []))) = h_17 at k17 ⊢
  refine n_aload_n (pc := 726) rfl 0 rfl C dX8_init_726 ?_
  refine n_getR (pc := 727) (v := o + 7) C fl_RX8_34 hbo (by omega) hk rfl (fn_at g (i := 0) (by decide +kernel)) (by omega) dX8_init_727 ?_
  refine n_bipush (pc := 730) (v := 17) (by decide) C dX8_init_730 ?_
  refine n_bipush (pc := 732) (v := 115) (by decide) C dX8_init_732 ?_
  refine n_bipush (pc := 734) (v := 116) (by decide) C dX8_init_734 ?_
  refine n_bipush (pc := 736) (v := 114) (by decide) C dX8_init_736 ?_
  refine n_bipush (pc := 738) (v := 111) (by decide) C dX8_init_738 ?_
  refine n_bipush (pc := 740) (v := 110) (by decide) C dX8_init_740 ?_
  refine n_bipush (pc := 742) (v := 103) (by decide) C dX8_init_742 ?_
  refine n_iconst (pc := 744) (v := 0) (by decide) C dX8_init_744 ?_
  refine n_callSl (pc := 745) (As := [.int 115, .int 116, .int 114, .int 111, .int 110, .int 103, .int 0]) (st := [.int 17, .ref (o + 7)]) (post := fun v h1 => v = lN (b27 (wdL.getD 17 [])) ∧ h1 = h_17) (List.range' o tMo.length) C ms_RX8_153 wh (M_Mo_word (P_word (w := lN (b27 (wdL.getD 17 []))) (by decide +kernel) ⟨Fr.rf, rfl, rfl⟩)) (by decide) rfl rfl (Nat.le_of_ble_eq_true rfl) (by decide) (by decide) dX8_init_745 (fun v h1 hf hB => ?_)
  rw [hB.1, hB.2]
  refine n_last (pc := 748) (N := 19) (iN := 17) C (by omega) (by omega) (g.k (i := 7) (by decide +kernel)) (g.n (i := 7) (by decide +kernel)) (vp_in_nI (n := 17) (by decide) (by decide)) (by decide) dX8_init_748 ?_
  have k18 := k17.step
  generalize pL h_17 (o + 7) 17 (lN (b27 (wdL.getD 17 []))) = h_18 at k18 ⊢
  refine n_aload_n (pc := 749) rfl 0 rfl C dX8_init_749 ?_
  refine n_getR (pc := 750) (v := o + 7) C fl_RX8_34 hbo (by omega) hk rfl (fn_at g (i := 0) (by decide +kernel)) (by omega) dX8_init_750 ?_
  refine n_bipush (pc := 753) (v := 18) (by decide) C dX8_init_753 ?_
  refine n_bipush (pc := 755) (v := 112) (by decide) C dX8_init_755 ?_
  refine n_bipush (pc := 757) (v := 108) (by decide) C dX8_init_757 ?_
  refine n_bipush (pc := 759) (v := 97) (by decide) C dX8_init_759 ?_
  refine n_bipush (pc := 761) (v := 99) (by decide) C dX8_init_761 ?_
  refine n_bipush (pc := 763) (v := 101) (by decide) C dX8_init_763 ?_
  refine n_bipush (pc := 765) (v := 100) (by decide) C dX8_init_765 ?_
  refine n_iconst (pc := 767) (v := 0) (by decide) C dX8_init_767 ?_
  refine n_callSl (pc := 768) (As := [.int 112, .int 108, .int 97, .int 99, .int 101, .int 100, .int 0]) (st := [.int 18, .ref (o + 7)]) (post := fun v h1 => v = lN (b27 (wdL.getD 18 [])) ∧ h1 = h_18) (List.range' o tMo.length) C ms_RX8_153 wh (M_Mo_word (P_word (w := lN (b27 (wdL.getD 18 []))) (by decide +kernel) ⟨Fr.rf, rfl, rfl⟩)) (by decide) rfl rfl (Nat.le_of_ble_eq_true rfl) (by decide) (by decide) dX8_init_768 (fun v h1 hf hB => ?_)
  rw [hB.1, hB.2]
  refine n_last (pc := 771) (N := 19) (iN := 18) C (by omega) (by omega) (g.k (i := 7) (by decide +kernel)) (g.n (i := 7) (by decide +kernel)) (vp_in_nI (n := 18) (by decide) (by decide)) (by decide) dX8_init_771 ?_
  have k19 := k18.step
  generalize pL h_18 (o + 7) 18 (lN (b27 (wdL.getD 18 []))) = h_19 at k19 ⊢
  refine n_aload_n (pc := 772) rfl 0 rfl C dX8_init_772 ?_
  have fk : Fr (fun a => o ≤ a ∧ a < o + 44) hP h_19 := fun a ha => ⟨by rw [k19.1], k19.2.1 a (by omega)⟩
  refine n_callVv (pc := 773) (k := 8) (As := []) (st := []) (post := fun h1 => ∀ h2, Fr (fun a => a = o + 31) h1 h2 → (∀ i, i < 512 → h2.1 (o + 31) i = h1.1 (o + 32) i) → AM h2 o 0 A0) (List.range' o tMo.length) C mv_RX8_157 wh (M_Mo_begins ⟨lo, hk⟩ (P_new rm x1 x2 x3 k19 (fun h1 f k => ⟨f.mono (fun a ha => (lm a).mpr ha), k⟩))) lo hk (by decide) rfl rfl (by decide) (by decide) (by decide) dX8_init_773 (fun h1 hf hB => ?_)
  refine n_aload_n (pc := 776) rfl 0 rfl C dX8_init_776 ?_
  refine n_callVv (pc := 777) (k := 8) (As := []) (st := []) (post := fun h2 => AM h2 o 0 A0) (List.range' o tMo.length) C mv_RX8_160 wh (M_Mo_keepsRow ⟨lo, hk⟩ (P_keepsRow rm (fun h2 f k => ⟨f.mono (fun a ha => (lm a).mpr (by rw [ha]; omega)), hB h2 f k⟩))) lo hk (by decide) rfl rfl (by decide) (by decide) (by decide) dX8_init_777 (fun h2 hf2 hA => ?_)
  exact n_vret (pc := 780) C R dX8_init_780 (by omega) ⟨rfl, ((x4.tr fk).tr (hf.mono (fun a ha => (lm a).mp ha))).tr (hf2.mono (fun a ha => (lm a).mp ha)), hA⟩
