/-! cells that are whole, by their table -/
def ok1 (T : SgT) (i : Nat) : Bool := (List.range 66).all (fun j => match fT (skK T i) j with
  | none => true
  | some q => (skK T i == 13 && !(decide (j < skN T i))) || (!(skR T i j == 0) && decide (skR T i j < T.length) && skK T (skR T i j) == q.1 && (q.2 == 0 || skN T (skR T i j) == q.2)))
def okT (T : SgT) : Bool := (List.range T.length).all (fun i => decide (skK T i ≤ 13) && decide (skK T i = 13 → skN T i ≤ 66) && ok1 T i)
theorem fT_lt {k j : Nat} {q : Nat × Nat} (h : fT k j = some q) : k = 13 ∨ j < 66 := by
  by_cases e : k = 13
  · exact Or.inl e
  · right
    unfold fT at h
    rw [if_neg e] at h
    have hl : (fTl.getD k []).length ≤ 66 := by
      by_cases e9 : k < 9
      · have : ∀ k, k < 9 → (fTl.getD k []).length ≤ 66 := by decide
        exact this k e9
      · rw [List.getD_eq_getElem?_getD, List.getElem?_eq_none_iff.mpr (by show 9 ≤ k; omega)]
        exact Nat.zero_le _
    by_cases hj : j < (fTl.getD k []).length
    · omega
    · rw [List.getElem?_eq_none_iff.mpr (by omega)] at h
      cases h
theorem Whl.of {Y : CG} {b z o : Nat} {ρ r : TR} {T : SgT} (g : Sgm Y ρ o T) (ok : okT T = true) (hr : ∀ a, o ≤ a → a < o + T.length → ∀ j, r a j = ρ a j) (hbo : b ≤ o) (hz : o + T.length ≤ z) : Whl Y b z (List.range' o T.length) r := by
  have hm : ∀ a, a ∈ List.range' o T.length ↔ o ≤ a ∧ a < o + T.length := fun a => by rw [List.mem_range'_1]
  have hi : ∀ i, i < T.length → skK T i ≤ 13 ∧ (skK T i = 13 → skN T i ≤ 66) ∧ ok1 T i = true := fun i hi => by
    have := List.all_eq_true.mp ok i (List.mem_range.mpr hi)
    rw [Bool.and_eq_true, Bool.and_eq_true, decide_eq_true_eq, decide_eq_true_eq] at this
    exact ⟨this.1.1, this.1.2, this.2⟩
  refine ⟨List.nodup_range', fun a ha => ?_, fun a ha j k n hf hc => ?_⟩
  · obtain ⟨h1, h2⟩ := (hm a).mp ha
    have := (g (a - o) (by omega)).1
    rw [show o + (a - o) = a by omega] at this
    exact ⟨by omega, by omega, by rw [this]; exact (hi _ (by omega)).1⟩
  · obtain ⟨h1, h2⟩ := (hm a).mp ha
    obtain ⟨i, rfl⟩ : ∃ i, a = o + i := ⟨a - o, by omega⟩
    have hil : i < T.length := by omega
    obtain ⟨g1, g2, g3⟩ := g i hil
    have hf' : fT (skK T i) j = some (k, n) := by rw [← g1]; exact hf
    obtain ⟨-, q2, q3⟩ := hi i hil
    have hj : j < 66 := by
      rcases fT_lt hf' with e | e
      · have := hc (by show yK Y (o + i) = 13; rw [g1]; exact e)
        have h3 : j < yN Y (o + i) := this
        rw [g2] at h3
        have := q2 e
        omega
      · exact e
    have q4 := List.all_eq_true.mp q3 j (List.mem_range.mpr hj)
    rw [hf'] at q4
    have q5 : (skK T i == 13 && !(decide (j < skN T i))) = true ∨ (!(skR T i j == 0) && decide (skR T i j < T.length) && skK T (skR T i j) == k && (n == 0 || skN T (skR T i j) == n)) = true := by
      rw [← Bool.or_eq_true]; exact q4
    rcases q5 with q5 | q5
    · rw [Bool.and_eq_true, beq_iff_eq] at q5
      have := hc (by show yK Y (o + i) = 13; rw [g1]; exact q5.1)
      have h3 : j < yN Y (o + i) := this
      rw [g2] at h3
      have h4 := q5.2
      rw [decide_eq_true h3] at h4
      cases h4
    · rw [Bool.and_eq_true, Bool.and_eq_true, Bool.and_eq_true, decide_eq_true_eq, beq_iff_eq, Bool.or_eq_true, beq_iff_eq, beq_iff_eq] at q5
      obtain ⟨⟨⟨q6, q7⟩, q8⟩, q9⟩ := q5
      have q6' : ¬ skR T i j = 0 := fun e => by rw [e] at q6; cases q6
      have er : r (o + i) j = o + skR T i j := by rw [hr _ (by omega) (by omega) j, g3 j, if_neg q6']
      rw [er]
      obtain ⟨f1, f2, -⟩ := g _ q7
      exact ⟨(hm _).mpr ⟨by omega, by omega⟩, by show yK Y _ = k; rw [f1]; exact q8, fun hn => by show yN Y _ = n; rw [f2]; exact q9.resolve_left hn⟩
theorem fn_at {Y : CG} {ρ r : TR} {o n i j v : Nat} {T : SgT} (g : Sgm Y ρ o T) (e : i < T.length ∧ i < n ∧ skR T i j = v ∧ ¬ v = 0) : fnR ρ r o n (o + i) j = o + v := by
  unfold fnR
  rw [if_pos (by omega), (g i e.1).2.2 j, e.2.2.1, if_neg e.2.2.2]
theorem fn_in {ρ r : TR} {o n : Nat} : ∀ a, o ≤ a → a < o + n → ∀ j, fnR ρ r o n a j = ρ a j := fun a h1 h2 j => by
  unfold fnR
  rw [if_pos ⟨h1, h2⟩]
def B0 : By := (0, 0, 0, 0, 0, (fun _ => 3), (fun _ => 0), (fun _ => 0), (fun _ => 0), (fun _ => 0), [[0]], [[1]], [[1]])
theorem P_clr {r : TR} {h : TH} {d : Nat} {Q : TH → Prop} (rb : RBa r d) (hh : ∀ a, d ≤ a → ∀ j, h.1 a j = 0) (hQ : ∀ h', Fr (fun a => d ≤ a ∧ a < d + 23) h h' → BayOK h' d B0 → Q h') : D_Bay_clear r d h Q := by
  obtain ⟨⟨b5, -, -, -, -, -, -⟩, ⟨b12, b13, b14⟩, bl1, bl2, bl3⟩ := rb
  unfold D_Bay_clear
  intro h1 e1 h2 e2 h3 e3 h4 e4 h5 e5
  rw [b5, b12, b13, b14]
  have f5 : Fr (fun a => a = d) h h5 := by
    rw [e5, e4, e3, e2, e1]
    have p : ∀ (g : TH) (j : Nat) (v : Int32), Fr (fun a => a = d) g (pI g d j v) := fun g j v => Fr.pI rfl
    exact ((((p _ _ _).tr (p _ _ _)).tr (p _ _ _)).tr (p _ _ _)).tr (p _ _ _)
  have z : ∀ j, h5.1 d j = 0 := fun j => by
    rw [e5, e4, e3, e2, e1, pI_same (h := h) (o := d) (j := 0) (hh d (Nat.le_refl d) 0), pI_same (h := h) (o := d) (j := 1) (hh d (Nat.le_refl d) 1), pI_same (h := h) (o := d) (j := 2) (hh d (Nat.le_refl d) 2), pI_same (h := h) (o := d) (j := 3) (hh d (Nat.le_refl d) 3), pI_same (h := h) (o := d) (j := 4) (hh d (Nat.le_refl d) 4)]
    exact hh d (Nat.le_refl d) j
  refine P_fill (by decide) (fun h7 f7 v7 => ?_)
  refine P_becomeN (v := 0) bl1 (by omega) (fun h10 f10 w10 => ?_)
  refine P_becomeN (v := 1) bl2 (by omega) (fun h13 f13 w13 => ?_)
  refine P_becomeN (v := 1) bl3 (by omega) (fun h16 f16 w16 => ?_)
  have F : ∀ a, ¬ (d ≤ a ∧ a < d + 23 ∧ ¬ a = d + 9 ∧ ¬ a = d + 14 ∧ ¬ a = d + 19) → h16.1 a = h.1 a ∧ h16.2 a = h.2 a := fun a hx => by
    have x1 := f16 a (by omega)
    have x2 := f13 a (by omega)
    have x3 := f10 a (by omega)
    have x4 := f7 a (by omega)
    have x5 := f5 a (by omega)
    exact ⟨by rw [x1.1, x2.1, x3.1, x4.1, x5.1], by rw [x1.2, x2.2, x3.2, x4.2, x5.2]⟩
  have gd : h16.1 d = h5.1 d := by rw [(f16 d (by omega)).1, (f13 d (by omega)).1, (f10 d (by omega)).1, (f7 d (by omega)).1]
  have g1 : h16.1 (d + 1) = h7.1 (d + 1) := by rw [(f16 _ (by omega)).1, (f13 _ (by omega)).1, (f10 _ (by omega)).1]
  have w10' := w10.mv (h' := h16) (by rw [(f16 _ (by omega)).1, (f13 _ (by omega)).1]) (by rw [(f16 _ (by omega)).1, (f13 _ (by omega)).1]) (by rw [(f16 _ (by omega)).1, (f13 _ (by omega)).1])
  have w13' := w13.mv (h' := h16) (by rw [(f16 _ (by omega)).1]) (by rw [(f16 _ (by omega)).1]) (by rw [(f16 _ (by omega)).1])
  have e9 : h16.1 (d + 9) = h.1 (d + 9) := (F _ (by omega)).1
  have e19 : h16.1 (d + 19) = h.1 (d + 19) := (F _ (by omega)).1
  refine hQ h16 (fun a hx => F a (by omega)) ⟨by rw [gd]; exact z 0, by rw [gd]; exact z 1, by rw [gd]; exact z 2, by rw [gd]; exact z 3, by rw [gd]; exact z 4, fun c hc => by rw [g1]; exact v7 c hc, fun k hk => absurd hk (Nat.not_lt_zero _), w10'.1, w13'.1, w16.1, fun i _ _ => by rw [e9]; exact hh _ (by omega) i, ?_⟩
  rw [e19]
  exact ⟨hh _ (by omega) 3, hh _ (by omega) 4, hh _ (by omega) 5, hh _ (by omega) 8⟩
theorem okT_Ba : okT tBa = true := by decide +kernel
theorem M_Bay_init {Y : CG} {b : Nat} {l : Launch} {o : Nat} {r ρ : TR} {h : TH} (hb : 0 < b) (hbo : b ≤ o) (g : Sgm Y ρ o tBa) (hr : ∀ a, o ≤ a → ∀ j, r a j = 0) (hh : ∀ a, o ≤ a → ∀ j, h.1 a j = 0) : Mc Y b l yX0_init cX0_init 1 4 22 1493 o r h (fun r1 h1 => r1 = fnR ρ r o 23 ∧ Fr (fun a => o ≤ a ∧ a < o + 23) h h1 ∧ BayOK h1 o B0) := by
  have hk : yK Y o = 0 := g.k (i := 0) (by decide +kernel)
  refine Mc.of RX0 rfl (by decide) rfl (by decide) hb hbo (fun X hXl C R => ?_)
  subst hXl
  refine n_aload_n (pc := 0) rfl 0 rfl C dX0_init_0 ?_
  refine n_objInit (pc := 1) C (by decide) oi_RX0 oi_inst oi_code dX0_init_1 ?_
  rw [md_0 (ρ := ρ) (r := r) (o := o) (fun j => hr o (Nat.le_refl o) j)]
  refine (show NJ Y b X 1 4 [(0, .ref o)] [] (o + 1) (mdR ρ r o 0 o 0 1) h 0 0 from ?_)
  refine n_aload_n (pc := 4) rfl 0 rfl C dX0_init_4 ?_
  refine n_iconst (pc := 5) (v := 0) (by decide) C dX0_init_5 ?_
  refine n_put0 (pc := 6) C fl_RX0_9 hbo (by omega) hk rfl (by decide) (by decide) (hh o (Nat.le_refl o) 0) dX0_init_6 ?_
  refine (show NJ Y b X 1 9 [(0, .ref o)] [] (o + 1) (mdR ρ r o 0 o 0 1) h 0 0 from ?_)
  refine n_aload_n (pc := 9) rfl 0 rfl C dX0_init_9 ?_
  refine n_iconst (pc := 10) (v := 0) (by decide) C dX0_init_10 ?_
  refine n_put0 (pc := 11) C fl_RX0_15 hbo (by omega) hk rfl (by decide) (by decide) (hh o (Nat.le_refl o) 1) dX0_init_11 ?_
  refine (show NJ Y b X 1 14 [(0, .ref o)] [] (o + 1) (mdR ρ r o 0 o 0 1) h 0 0 from ?_)
  refine n_aload_n (pc := 14) rfl 0 rfl C dX0_init_14 ?_
  refine n_iconst (pc := 15) (v := 0) (by decide) C dX0_init_15 ?_
  refine n_put0 (pc := 16) C fl_RX0_18 hbo (by omega) hk rfl (by decide) (by decide) (hh o (Nat.le_refl o) 2) dX0_init_16 ?_
  refine (show NJ Y b X 1 19 [(0, .ref o)] [] (o + 1) (mdR ρ r o 0 o 0 1) h 0 0 from ?_)
  refine n_aload_n (pc := 19) rfl 0 rfl C dX0_init_19 ?_
  refine n_iconst (pc := 20) (v := 0) (by decide) C dX0_init_20 ?_
  refine n_put0 (pc := 21) C fl_RX0_21 hbo (by omega) hk rfl (by decide) (by decide) (hh o (Nat.le_refl o) 3) dX0_init_21 ?_
  refine (show NJ Y b X 1 24 [(0, .ref o)] [] (o + 1) (mdR ρ r o 0 o 0 1) h 0 0 from ?_)
  refine n_aload_n (pc := 24) rfl 0 rfl C dX0_init_24 ?_
  refine n_iconst (pc := 25) (v := 0) (by decide) C dX0_init_25 ?_
  refine n_put0 (pc := 26) C fl_RX0_24 hbo (by omega) hk rfl (by decide) (by decide) (hh o (Nat.le_refl o) 4) dX0_init_26 ?_
  refine (show NJ Y b X 1 29 [(0, .ref o)] [] (o + 1) (mdR ρ r o 0 o 0 1) h 0 0 from ?_)
  refine n_aload_n (pc := 29) rfl 0 rfl C dX0_init_29 ?_
  refine n_bipush (pc := 30) (v := 40) (by decide) C dX0_init_30 ?_
  refine n_arrI (pc := 32) (N := 40) (c := 1) (J := 0) (j := 5) C ar_I g hbo hr (by decide) (by decide +kernel) (by decide +kernel) (by decide) (by decide +kernel) hk fl_RX0_27 R.2.2.1 (fun q e => by cases e; rfl) rfl (fun _ => rfl) (fun _ => rfl) (by decide) (by decide) (by decide) (by decide) (by decide) dX0_init_32 dX0_init_34 ?_
  refine (show NJ Y b X 1 37 [(0, .ref o)] [] (o + 2) (mdR ρ r o 6 o 0 2) h 1 40 from ?_)
  refine n_aload_n (pc := 37) rfl 0 rfl C dX0_init_37 ?_
  refine n_bipush (pc := 38) (v := 40) (by decide) C dX0_init_38 ?_
  refine n_arrI (pc := 40) (N := 40) (c := 2) (J := 6) (j := 6) C ar_I g hbo hr (by decide) (by decide +kernel) (by decide +kernel) (by decide) (by decide +kernel) hk fl_RX0_31 R.2.2.1 (fun q e => by cases e; rfl) rfl (fun _ => rfl) (fun _ => rfl) (by decide) (by decide) (by decide) (by decide) (by decide) dX0_init_40 dX0_init_42 ?_
  refine (show NJ Y b X 1 45 [(0, .ref o)] [] (o + 3) (mdR ρ r o 7 o 0 3) h 2 80 from ?_)
  refine n_aload_n (pc := 45) rfl 0 rfl C dX0_init_45 ?_
  refine n_bipush (pc := 46) (v := 6) (by decide) C dX0_init_46 ?_
  refine n_arrJ (pc := 48) (N := 6) (c := 3) (J := 7) (j := 7) C ar_J g hbo hr (by decide) (by decide +kernel) (by decide +kernel) (by decide) (by decide +kernel) hk fl_RX0_34 R.2.2.1 (fun q e => by cases e; rfl) rfl (fun _ => rfl) (fun _ => rfl) (by decide) (by decide) (by decide) (by decide) (by decide) dX0_init_48 dX0_init_50 ?_
  refine (show NJ Y b X 1 53 [(0, .ref o)] [] (o + 4) (mdR ρ r o 8 o 0 4) h 3 86 from ?_)
  refine n_aload_n (pc := 53) rfl 0 rfl C dX0_init_53 ?_
  refine n_bipush (pc := 54) (v := 6) (by decide) C dX0_init_54 ?_
  refine n_arrI (pc := 56) (N := 6) (c := 4) (J := 8) (j := 8) C ar_I g hbo hr (by decide) (by decide +kernel) (by decide +kernel) (by decide) (by decide +kernel) hk fl_RX0_38 R.2.2.1 (fun q e => by cases e; rfl) rfl (fun _ => rfl) (fun _ => rfl) (by decide) (by decide) (by decide) (by decide) (by decide) dX0_init_56 dX0_init_58 ?_
  refine (show NJ Y b X 1 61 [(0, .ref o)] [] (o + 5) (mdR ρ r o 9 o 0 5) h 4 92 from ?_)
  refine n_aload_n (pc := 61) rfl 0 rfl C dX0_init_61 ?_
  refine n_bipush (pc := 62) (v := 6) (by decide) C dX0_init_62 ?_
  refine n_arrI (pc := 64) (N := 6) (c := 5) (J := 9) (j := 9) C ar_I g hbo hr (by decide) (by decide +kernel) (by decide +kernel) (by decide) (by decide +kernel) hk fl_RX0_41 R.2.2.1 (fun q e => by cases e; rfl) rfl (fun _ => rfl) (fun _ => rfl) (by decide) (by decide) (by decide) (by decide) (by decide) dX0_init_64 dX0_init_66 ?_
  refine (show NJ Y b X 1 69 [(0, .ref o)] [] (o + 6) (mdR ρ r o 10 o 0 6) h 5 98 from ?_)
  refine n_aload_n (pc := 69) rfl 0 rfl C dX0_init_69 ?_
  refine n_bipush (pc := 70) (v := 6) (by decide) C dX0_init_70 ?_
  refine n_arrI (pc := 72) (N := 6) (c := 6) (J := 10) (j := 10) C ar_I g hbo hr (by decide) (by decide +kernel) (by decide +kernel) (by decide) (by decide +kernel) hk fl_RX0_44 R.2.2.1 (fun q e => by cases e; rfl) rfl (fun _ => rfl) (fun _ => rfl) (by decide) (by decide) (by decide) (by decide) (by decide) dX0_init_72 dX0_init_74 ?_
  refine (show NJ Y b X 1 77 [(0, .ref o)] [] (o + 7) (mdR ρ r o 11 o 0 7) h 6 104 from ?_)
  refine n_aload_n (pc := 77) rfl 0 rfl C dX0_init_77 ?_
  refine n_bipush (pc := 78) (v := 6) (by decide) C dX0_init_78 ?_
  refine n_arrI (pc := 80) (N := 6) (c := 7) (J := 11) (j := 11) C ar_I g hbo hr (by decide) (by decide +kernel) (by decide +kernel) (by decide) (by decide +kernel) hk fl_RX0_47 R.2.2.1 (fun q e => by cases e; rfl) rfl (fun _ => rfl) (fun _ => rfl) (by decide) (by decide) (by decide) (by decide) (by decide) dX0_init_80 dX0_init_82 ?_
  refine (show NJ Y b X 1 85 [(0, .ref o)] [] (o + 8) (mdR ρ r o 12 o 0 8) h 7 110 from ?_)
  refine n_aload_n (pc := 85) rfl 0 rfl C dX0_init_85 ?_
  refine n_new (pc := 86) C nl_RX0_50 (g.k (i := 8) (by decide +kernel)) (by decide) (by decide) dX0_init_86 ?_
  refine n_dup (pc := 89) rfl C dX0_init_89 ?_
  refine n_callC (pc := 90) (o := o + 8) C mi_RX0_52 (M_Law_init (ρ := ρ) hb (by omega) (g.sub 8 (by decide +kernel)) (md_hi hr (by decide) (by omega)) (fun a ha j => hh a (by omega) j)) rfl (by decide) (Nat.le_of_ble_eq_true rfl) (by decide) (by decide) dX0_init_90 (fun r1 h1 hp => ?_)
  rw [hp.1, hp.2]
  refine n_putR (pc := 93) C fl_RX0_53 R.2.2.1 (fun q e => by cases e; rfl) hbo (by omega) hk rfl (by omega) rfl rfl dX0_init_93 ?_
  rw [md_call (by decide) (by omega), md_putT g (by decide +kernel) (by decide) (by decide +kernel) (by decide +kernel)]
  refine (show NJ Y b X 1 96 [(0, .ref o)] [] (o + 13) (mdR ρ r o 13 o 0 13) h 12 571 from ?_)
  refine n_aload_n (pc := 96) rfl 0 rfl C dX0_init_96 ?_
  refine n_new (pc := 97) C nl_RX0_50 (g.k (i := 13) (by decide +kernel)) (by decide) (by decide) dX0_init_97 ?_
  refine n_dup (pc := 100) rfl C dX0_init_100 ?_
  refine n_callC (pc := 101) (o := o + 13) C mi_RX0_52 (M_Law_init (ρ := ρ) hb (by omega) (g.sub 13 (by decide +kernel)) (md_hi hr (by decide) (by omega)) (fun a ha j => hh a (by omega) j)) rfl (by decide) (Nat.le_of_ble_eq_true rfl) (by decide) (by decide) dX0_init_101 (fun r1 h1 hp => ?_)
  rw [hp.1, hp.2]
  refine n_putR (pc := 104) C fl_RX0_57 R.2.2.1 (fun q e => by cases e; rfl) hbo (by omega) hk rfl (by omega) rfl rfl dX0_init_104 ?_
  rw [md_call (by decide) (by omega), md_putT g (by decide +kernel) (by decide) (by decide +kernel) (by decide +kernel)]
  refine (show NJ Y b X 1 107 [(0, .ref o)] [] (o + 18) (mdR ρ r o 14 o 0 18) h 17 1032 from ?_)
  refine n_aload_n (pc := 107) rfl 0 rfl C dX0_init_107 ?_
  refine n_new (pc := 108) C nl_RX0_50 (g.k (i := 18) (by decide +kernel)) (by decide) (by decide) dX0_init_108 ?_
  refine n_dup (pc := 111) rfl C dX0_init_111 ?_
  refine n_callC (pc := 112) (o := o + 18) C mi_RX0_52 (M_Law_init (ρ := ρ) hb (by omega) (g.sub 18 (by decide +kernel)) (md_hi hr (by decide) (by omega)) (fun a ha j => hh a (by omega) j)) rfl (by decide) (Nat.le_of_ble_eq_true rfl) (by decide) (by decide) dX0_init_112 (fun r1 h1 hp => ?_)
  rw [hp.1, hp.2]
  refine n_putR (pc := 115) C fl_RX0_60 R.2.2.1 (fun q e => by cases e; rfl) hbo (by omega) hk rfl (by omega) rfl rfl dX0_init_115 ?_
  rw [md_call (by decide) (by omega), md_putT g (by decide +kernel) (by decide) (by decide +kernel) (by decide +kernel)]
  refine (show NJ Y b X 1 118 [(0, .ref o)] [] (o + 23) (mdR ρ r o 15 o 0 23) h 22 1493 from ?_)
  refine n_aload_n (pc := 118) rfl 0 rfl C dX0_init_118 ?_
  rw [md_endT g (by decide +kernel) (by decide) (by decide +kernel)]
  have q : ∀ i j v, i < tBa.length ∧ i < 23 ∧ skR tBa i j = v ∧ ¬ v = 0 → fnR ρ r o 23 (o + i) j = o + v := fun i j v e => fn_at g e
  have rb : RBa (fnR ρ r o 23) o := ⟨⟨q 0 5 1 (by decide +kernel), q 0 6 2 (by decide +kernel), q 0 7 3 (by decide +kernel), q 0 8 4 (by decide +kernel), q 0 9 5 (by decide +kernel), q 0 10 6 (by decide +kernel), q 0 11 7 (by decide +kernel)⟩, ⟨q 0 12 8 (by decide +kernel), q 0 13 13 (by decide +kernel), q 0 14 18 (by decide +kernel)⟩, ⟨q 8 0 9 (by decide +kernel), q 8 1 10 (by decide +kernel), q 8 2 11 (by decide +kernel), q 8 3 12 (by decide +kernel)⟩, ⟨q 13 0 14 (by decide +kernel), q 13 1 15 (by decide +kernel), q 13 2 16 (by decide +kernel), q 13 3 17 (by decide +kernel)⟩, ⟨q 18 0 19 (by decide +kernel), q 18 1 20 (by decide +kernel), q 18 2 21 (by decide +kernel), q 18 3 22 (by decide +kernel)⟩⟩
  have wh : Whl Y b (o + 23) (List.range' o tBa.length) (fnR ρ r o 23) := Whl.of g okT_Ba (fun a h1 h2 => fn_in a h1 h2) hbo (Nat.le_refl _)
  have lm : ∀ a, a ∈ List.range' o tBa.length ↔ o ≤ a ∧ a < o + 23 := fun a => List.mem_range'_1
  refine n_callVv (pc := 119) (k := 0) (As := []) (st := []) (post := fun h1 => BayOK h1 o B0) (List.range' o tBa.length) C mv_RX0_63 wh (M_Bay_clear ⟨(lm o).mpr ⟨Nat.le_refl _, by omega⟩, hk⟩ (P_clr rb hh (fun h1 f k => ⟨f.mono (fun a ha => (lm a).mpr ha), k⟩))) ((lm o).mpr ⟨Nat.le_refl _, by omega⟩) hk (by decide) rfl rfl (by decide) (by decide) (by decide) dX0_init_119 (fun h1 hf hB => ?_)
  exact n_vret (pc := 122) C R dX0_init_122 (by omega) ⟨rfl, hf.mono (fun a ha => (lm a).mp ha), hB⟩
theorem M_Rd_init {Y : CG} {b : Nat} {l : Launch} {o : Nat} {r ρ : TR} {h : TH} (hb : 0 < b) (hbo : b ≤ o) (g : Sgm Y ρ o tRd) (hr : ∀ a, o ≤ a → ∀ j, r a j = 0) (hh : ∀ a, o ≤ a → ∀ j, h.1 a j = 0) : Mc Y b l yX4_init cX4_init 1 5 27 4711 o r h (fun r1 h1 => r1 = fnR ρ r o 28 ∧ Fr (fun a => a = o ∨ (o + 2 ≤ a ∧ a < o + 25)) h h1 ∧ (h1.1 o 1 = 0 ∧ h1.1 o 3 = -1) ∧ Zs h1 (o + 2)) := by
  have hk : yK Y o = 4 := g.k (i := 0) (by decide +kernel)
  refine Mc.of RX4 rfl (by decide) rfl (by decide) hb hbo (fun X hXl C R => ?_)
  subst hXl
  refine n_aload_n (pc := 0) rfl 0 rfl C dX4_init_0 ?_
  refine n_objInit (pc := 1) C (by decide) oi_RX4 oi_inst oi_code dX4_init_1 ?_
  rw [md_0 (ρ := ρ) (r := r) (o := o) (fun j => hr o (Nat.le_refl o) j)]
  refine (show NJ Y b X 1 4 [(0, .ref o)] [] (o + 1) (mdR ρ r o 0 o 0 1) h 0 0 from ?_)
  refine n_aload_n (pc := 4) rfl 0 rfl C dX4_init_4 ?_
  refine n_sipush (pc := 5) (v := 2000) (by decide) C dX4_init_5 ?_
  refine n_arrB (pc := 8) (N := 2000) (c := 1) (J := 0) (j := 0) C ar_B g hbo hr (by decide) (by decide +kernel) (by decide +kernel) (by decide) (by decide +kernel) hk fl_RX4_9 R.2.2.1 (fun q e => by cases e; rfl) rfl (fun _ => rfl) (fun _ => rfl) (by decide) (by decide) (by decide) (by decide) (by decide) dX4_init_8 dX4_init_10 ?_
  refine (show NJ Y b X 1 13 [(0, .ref o)] [] (o + 2) (mdR ρ r o 1 o 0 2) h 1 2000 from ?_)
  refine n_aload_n (pc := 13) rfl 0 rfl C dX4_init_13 ?_
  refine n_iconst (pc := 14) (v := 0) (by decide) C dX4_init_14 ?_
  refine n_put0 (pc := 15) C fl_RX4_15 hbo (by omega) hk rfl (by decide) (by decide) (hh o (Nat.le_refl o) 1) dX4_init_15 ?_
  refine (show NJ Y b X 1 18 [(0, .ref o)] [] (o + 2) (mdR ρ r o 1 o 0 2) h 1 2000 from ?_)
  refine n_aload_n (pc := 18) rfl 0 rfl C dX4_init_18 ?_
  refine n_new (pc := 19) C nl_RX4_19 (g.k (i := 2) (by decide +kernel)) (by decide) (by decide) dX4_init_19 ?_
  refine n_dup (pc := 22) rfl C dX4_init_22 ?_
  refine n_callC (pc := 23) (o := o + 2) C mi_RX4_21 (M_Bay_init (ρ := ρ) hb (by omega) (g.sub 2 (by decide +kernel)) (md_hi hr (by decide) (by omega)) (fun a ha j => hh a (by omega) j)) rfl (by decide) (Nat.le_of_ble_eq_true rfl) (by decide) (by decide) dX4_init_23 (fun r1 h1 hp => ?_)
  rw [hp.1]
  refine n_putR (pc := 26) C fl_RX4_22 R.2.2.1 (fun q e => by cases e; rfl) hbo (by omega) hk rfl (by omega) rfl rfl dX4_init_26 ?_
  rw [md_call (by decide) (by omega), md_putT g (by decide +kernel) (by decide) (by decide +kernel) (by decide +kernel)]
  refine (show NJ Y b X 1 29 [(0, .ref o)] [] (o + 25) (mdR ρ r o 3 o 0 25) h1 24 3508 from ?_)
  refine n_aload_n (pc := 29) rfl 0 rfl C dX4_init_29 ?_
  refine n_iconst (pc := 30) (v := (-1)) (by decide) C dX4_init_30 ?_
  refine n_putI (pc := 31) C fl_RX4_26 hbo (by omega) hk rfl (by decide) (by decide) dX4_init_31 ?_
  refine (show NJ Y b X 1 34 [(0, .ref o)] [] (o + 25) (mdR ρ r o 3 o 0 25) (pI h1 o 3 (-1)) 24 3508 from ?_)
  refine n_aload_n (pc := 34) rfl 0 rfl C dX4_init_34 ?_
  refine n_iconst (pc := 35) (v := 0) (by decide) C dX4_init_35 ?_
  refine n_put0 (pc := 36) C fl_RX4_29 hbo (by omega) hk rfl (by decide) (by decide) (by rw [pI_n _ _ _ _ (by omega)]; exact (by rw [(hp.2.1 o (by omega)).1]; exact hh o (Nat.le_refl o) 4)) dX4_init_36 ?_
  refine (show NJ Y b X 1 39 [(0, .ref o)] [] (o + 25) (mdR ρ r o 3 o 0 25) (pI h1 o 3 (-1)) 24 3508 from ?_)
  refine n_aload_n (pc := 39) rfl 0 rfl C dX4_init_39 ?_
  refine n_iconst (pc := 40) (v := 0) (by decide) C dX4_init_40 ?_
  refine n_put0 (pc := 41) C fl_RX4_32 hbo (by omega) hk rfl (by decide) (by decide) (by rw [pI_n _ _ _ _ (by omega)]; exact (by rw [(hp.2.1 o (by omega)).1]; exact hh o (Nat.le_refl o) 5)) dX4_init_41 ?_
  refine (show NJ Y b X 1 44 [(0, .ref o)] [] (o + 25) (mdR ρ r o 3 o 0 25) (pI h1 o 3 (-1)) 24 3508 from ?_)
  refine n_aload_n (pc := 44) rfl 0 rfl C dX4_init_44 ?_
  refine n_iconst (pc := 45) (v := (-1)) (by decide) C dX4_init_45 ?_
  refine n_putI (pc := 46) C fl_RX4_35 hbo (by omega) hk rfl (by decide) (by decide) dX4_init_46 ?_
  refine (show NJ Y b X 1 49 [(0, .ref o)] [] (o + 25) (mdR ρ r o 3 o 0 25) (pI (pI h1 o 3 (-1)) o 6 (-1)) 24 3508 from ?_)
  refine n_aload_n (pc := 49) rfl 0 rfl C dX4_init_49 ?_
  refine n_sipush (pc := 50) (v := 401) (by decide) C dX4_init_50 ?_
  refine n_arrI (pc := 53) (N := 401) (c := 25) (J := 3) (j := 7) C ar_I g hbo hr (by decide) (by decide +kernel) (by decide +kernel) (by decide) (by decide +kernel) hk fl_RX4_38 R.2.2.1 (fun q e => by cases e; rfl) rfl (fun _ => rfl) (fun _ => rfl) (by decide) (by decide) (by decide) (by decide) (by decide) dX4_init_53 dX4_init_55 ?_
  refine (show NJ Y b X 1 58 [(0, .ref o)] [] (o + 26) (mdR ρ r o 8 o 0 26) (pI (pI h1 o 3 (-1)) o 6 (-1)) 25 3909 from ?_)
  refine n_aload_n (pc := 58) rfl 0 rfl C dX4_init_58 ?_
  refine n_sipush (pc := 59) (v := 401) (by decide) C dX4_init_59 ?_
  refine n_arrI (pc := 62) (N := 401) (c := 26) (J := 8) (j := 8) C ar_I g hbo hr (by decide) (by decide +kernel) (by decide +kernel) (by decide) (by decide +kernel) hk fl_RX4_42 R.2.2.1 (fun q e => by cases e; rfl) rfl (fun _ => rfl) (fun _ => rfl) (by decide) (by decide) (by decide) (by decide) (by decide) dX4_init_62 dX4_init_64 ?_
  refine (show NJ Y b X 1 67 [(0, .ref o)] [] (o + 27) (mdR ρ r o 9 o 0 27) (pI (pI h1 o 3 (-1)) o 6 (-1)) 26 4310 from ?_)
  refine n_aload_n (pc := 67) rfl 0 rfl C dX4_init_67 ?_
  refine n_sipush (pc := 68) (v := 401) (by decide) C dX4_init_68 ?_
  refine n_arrI (pc := 71) (N := 401) (c := 27) (J := 9) (j := 9) C ar_I g hbo hr (by decide) (by decide +kernel) (by decide +kernel) (by decide) (by decide +kernel) hk fl_RX4_45 R.2.2.1 (fun q e => by cases e; rfl) rfl (fun _ => rfl) (fun _ => rfl) (by decide) (by decide) (by decide) (by decide) (by decide) dX4_init_71 dX4_init_73 ?_
  refine (show NJ Y b X 1 76 [(0, .ref o)] [] (o + 28) (mdR ρ r o 10 o 0 28) (pI (pI h1 o 3 (-1)) o 6 (-1)) 27 4711 from ?_)
  refine n_aload_n (pc := 76) rfl 0 rfl C dX4_init_76 ?_
  refine n_iconst (pc := 77) (v := 0) (by decide) C dX4_init_77 ?_
  refine n_put0 (pc := 78) C fl_RX4_48 hbo (by omega) hk rfl (by decide) (by decide) (by rw [pI_n _ _ _ _ (by omega)]; exact (by rw [pI_n _ _ _ _ (by omega)]; exact (by rw [(hp.2.1 o (by omega)).1]; exact hh o (Nat.le_refl o) 10))) dX4_init_78 ?_
  refine (show NJ Y b X 1 81 [(0, .ref o)] [] (o + 28) (mdR ρ r o 10 o 0 28) (pI (pI h1 o 3 (-1)) o 6 (-1)) 27 4711 from ?_)
  refine n_vret (pc := 81) C R dX4_init_81 (by omega) ⟨md_endT g (by decide +kernel) (by decide) (by decide +kernel), fun a ha => ?_, ⟨?_, ?_⟩, ?_⟩
  · rw [pI_o _ _ _ _ (by omega), pI_o _ _ _ _ (by omega)]
    exact hp.2.1 a (by omega)
  · rw [pI_n _ _ _ _ (by omega), pI_n _ _ _ _ (by omega), (hp.2.1 o (by omega)).1]; exact hh o (Nat.le_refl o) 1
  · rw [pI_n _ _ _ _ (by omega), pI_s]
  · unfold Zs
    rw [pI_o _ _ _ _ (by omega), pI_o _ _ _ _ (by omega), pI_o _ _ _ _ (by omega), pI_o _ _ _ _ (by omega)]
    exact ⟨hp.2.2.2.2.2.2.2.2.2.2.2.2.1, hp.2.2.2.2.2.2.2.2.2.2.2.2.2⟩
theorem sb_tSR : ∀ i, i < 3 → (tSR.drop (195 + 4 * i)).take tSc.length = shT (195 + 4 * i) tSc := by decide +kernel
theorem rf_tSR : ∀ i, i < 3 → skR tSR 182 i = 195 + 4 * i := by decide +kernel
theorem rfz_tSR (j : Nat) (hj : 3 ≤ j) : skR tSR 182 j = 0 := by
  have e : (tSR.getD 182 (0, 0, [])).2.2 = [195, 199, 203] := by decide +kernel
  unfold skR
  rw [e, List.getD_eq_getElem?_getD, List.getElem?_eq_none_iff.mpr (by show 3 ≤ j; omega)]
  rfl
set_option maxHeartbeats 2000000 in
theorem M_SR_init {Y : CG} {b : Nat} {l : Launch} {o : Nat} {r ρ : TR} {h : TH} (hb : 0 < b) (hbo : b ≤ o) (g : Sgm Y ρ o tSR) (hr : ∀ a, o ≤ a → ∀ j, r a j = 0) (hh : ∀ a, o ≤ a → ∀ j, h.1 a j = 0) : Mc Y b l yX7_init cX7_init 2 6 206 16097 o r h (fun r1 h1 => r1 = fnR ρ r o 207 ∧ Fr (fun a => a = o + 1 ∨ (o + 3 ≤ a ∧ a < o + 26) ∨ (o + 29 ≤ a ∧ a < o + 52)) h h1 ∧ (h1.1 (o + 1) 1 = 0 ∧ h1.1 (o + 1) 3 = -1) ∧ Zs h1 (o + 3) ∧ BayOK h1 (o + 29) B0) := by
  have hk : yK Y o = 7 := g.k (i := 0) (by decide +kernel)
  refine Mc.of RX7 rfl (by decide) rfl (by decide) hb hbo (fun X hXl C R => ?_)
  subst hXl
  refine n_aload_n (pc := 0) rfl 0 rfl C dX7_init_0 ?_
  refine n_objInit (pc := 1) C (by decide) oi_RX7 oi_inst oi_code dX7_init_1 ?_
  rw [md_0 (ρ := ρ) (r := r) (o := o) (fun j => hr o (Nat.le_refl o) j)]
  refine (show NJ Y b X 2 4 [(0, .ref o)] [] (o + 1) (mdR ρ r o 0 o 0 1) h 0 0 from ?_)
  refine n_aload_n (pc := 4) rfl 0 rfl C dX7_init_4 ?_
  refine n_new (pc := 5) C nl_RX7_9 (g.k (i := 1) (by decide +kernel)) (by decide) (by decide) dX7_init_5 ?_
  refine n_dup (pc := 8) rfl C dX7_init_8 ?_
  refine n_callC (pc := 9) (o := o + 1) C mi_RX7_11 (M_Rd_init (ρ := ρ) hb (by omega) (g.sub 1 (by decide +kernel)) (md_hi hr (by decide) (by omega)) (fun a ha j => hh a (by omega) j)) rfl (by decide) (Nat.le_of_ble_eq_true rfl) (by decide) (by decide) dX7_init_9 (fun r1 hA hpA => ?_)
  rw [hpA.1]
  refine n_putR (pc := 12) C fl_RX7_12 R.2.2.1 (fun q e => by cases e; rfl) hbo (by omega) hk rfl (by omega) rfl rfl dX7_init_12 ?_
  rw [md_call (by decide) (by omega), md_putT g (by decide +kernel) (by decide) (by decide +kernel) (by decide +kernel)]
  have hhA : ∀ a, o + 29 ≤ a → ∀ j, hA.1 a j = 0 := fun a ha j => by rw [(hpA.2.1 a (by omega)).1]; exact hh a (by omega) j
  refine (show NJ Y b X 2 15 [(0, .ref o)] [] (o + 29) (mdR ρ r o 1 o 0 29) hA 28 4722 from ?_)
  refine n_aload_n (pc := 15) rfl 0 rfl C dX7_init_15 ?_
  refine n_new (pc := 16) C nl_RX7_16 (g.k (i := 29) (by decide +kernel)) (by decide) (by decide) dX7_init_16 ?_
  refine n_dup (pc := 19) rfl C dX7_init_19 ?_
  refine n_callC (pc := 20) (o := o + 29) C mi_RX7_18 (M_Bay_init (ρ := ρ) hb (by omega) (g.sub 29 (by decide +kernel)) (md_hi hr (by decide) (by omega)) (fun a ha j => hhA a (by omega) j)) rfl (by decide) (Nat.le_of_ble_eq_true rfl) (by decide) (by decide) dX7_init_20 (fun r1 hB hpB => ?_)
  rw [hpB.1]
  refine n_putR (pc := 23) C fl_RX7_19 R.2.2.1 (fun q e => by cases e; rfl) hbo (by omega) hk rfl (by omega) rfl rfl dX7_init_23 ?_
  rw [md_call (by decide) (by omega), md_putT g (by decide +kernel) (by decide) (by decide +kernel) (by decide +kernel)]
  have hhB : ∀ a, o + 52 ≤ a → ∀ j, hB.1 a j = 0 := fun a ha j => by rw [(hpB.2.1 a (by omega)).1]; exact hhA a (by omega) j
  refine (show NJ Y b X 2 26 [(0, .ref o)] [] (o + 52) (mdR ρ r o 2 o 0 52) hB 51 6230 from ?_)
  refine n_aload_n (pc := 26) rfl 0 rfl C dX7_init_26 ?_
  refine n_new (pc := 27) C nl_RX7_23 (g.k (i := 52) (by decide +kernel)) (by decide) (by decide) dX7_init_27 ?_
  refine n_dup (pc := 30) rfl C dX7_init_30 ?_
  refine n_callC (pc := 31) (o := o + 52) C mi_RX7_25 (M_Sc_init (ρ := ρ) hb (by omega) (g.sub 52 (by decide +kernel)) (md_hi hr (by decide) (by omega)) (fun a ha j => hhB a (by omega) j)) rfl (by decide) (Nat.le_of_ble_eq_true rfl) (by decide) (by decide) dX7_init_31 (fun r1 h1 hp => ?_)
  rw [hp.1, hp.2]
  refine n_putR (pc := 34) C fl_RX7_26 R.2.2.1 (fun q e => by cases e; rfl) hbo (by omega) hk rfl (by omega) rfl rfl dX7_init_34 ?_
  rw [md_call (by decide) (by omega), md_putT g (by decide +kernel) (by decide) (by decide +kernel) (by decide +kernel)]
  refine (show NJ Y b X 2 37 [(0, .ref o)] [] (o + 56) (mdR ρ r o 3 o 0 56) hB 55 6489 from ?_)
  refine n_aload_n (pc := 37) rfl 0 rfl C dX7_init_37 ?_
  refine n_new (pc := 38) C nl_RX7_23 (g.k (i := 56) (by decide +kernel)) (by decide) (by decide) dX7_init_38 ?_
  refine n_dup (pc := 41) rfl C dX7_init_41 ?_
  refine n_callC (pc := 42) (o := o + 56) C mi_RX7_25 (M_Sc_init (ρ := ρ) hb (by omega) (g.sub 56 (by decide +kernel)) (md_hi hr (by decide) (by omega)) (fun a ha j => hhB a (by omega) j)) rfl (by decide) (Nat.le_of_ble_eq_true rfl) (by decide) (by decide) dX7_init_42 (fun r1 h1 hp => ?_)
  rw [hp.1, hp.2]
  refine n_putR (pc := 45) C fl_RX7_30 R.2.2.1 (fun q e => by cases e; rfl) hbo (by omega) hk rfl (by omega) rfl rfl dX7_init_45 ?_
  rw [md_call (by decide) (by omega), md_putT g (by decide +kernel) (by decide) (by decide +kernel) (by decide +kernel)]
  refine (show NJ Y b X 2 48 [(0, .ref o)] [] (o + 60) (mdR ρ r o 4 o 0 60) hB 59 6748 from ?_)
  refine n_aload_n (pc := 48) rfl 0 rfl C dX7_init_48 ?_
  refine n_new (pc := 49) C nl_RX7_33 (g.k (i := 60) (by decide +kernel)) (by decide) (by decide) dX7_init_49 ?_
  refine n_dup (pc := 52) rfl C dX7_init_52 ?_
  refine n_callC (pc := 53) (o := o + 60) C mi_RX7_35 (M_Past_init (ρ := ρ) hb (by omega) (g.sub 60 (by decide +kernel)) (md_hi hr (by decide) (by omega)) (fun a ha j => hhB a (by omega) j)) rfl (by decide) (Nat.le_of_ble_eq_true rfl) (by decide) (by decide) dX7_init_53 (fun r1 h1 hp => ?_)
  rw [hp.1, hp.2]
  refine n_putR (pc := 56) C fl_RX7_36 R.2.2.1 (fun q e => by cases e; rfl) hbo (by omega) hk rfl (by omega) rfl rfl dX7_init_56 ?_
  rw [md_call (by decide) (by omega), md_putT g (by decide +kernel) (by decide) (by decide +kernel) (by decide +kernel)]
  refine (show NJ Y b X 2 59 [(0, .ref o)] [] (o + 182) (mdR ρ r o 5 o 0 182) hB 181 14551 from ?_)
  refine n_aload_n (pc := 59) rfl 0 rfl C dX7_init_59 ?_
  refine n_iconst (pc := 60) (v := 3) (by decide) C dX7_init_60 ?_
  refine n_anew (pc := 61) (N := 3) C (lg_at 311 (by decide +kernel) rfl) (g.k (i := 182) (by decide +kernel)) (g.n (i := 182) (by decide +kernel)) (by decide) (by decide) (by decide) (by decide) (by decide) dX7_init_61 ?_
  refine n_putR (pc := 64) C fl_RX7_40 R.2.2.1 (fun q e => by cases e; rfl) hbo (by omega) hk rfl (by omega) rfl rfl dX7_init_64 ?_
  rw [md_putT g (by decide +kernel) (by decide) (by decide +kernel) (by decide +kernel), md_anew (by decide) (hr _ (by omega))]
  refine (show NJ Y b X 2 67 [(0, .ref o)] [] (o + 183) (mdR ρ r o 6 (o + 182) 0 183) hB 182 14554 from ?_)
  refine n_aload_n (pc := 67) rfl 0 rfl C dX7_init_67 ?_
  refine n_iconst (pc := 68) (v := 0) (by decide) C dX7_init_68 ?_
  refine n_put0 (pc := 69) C fl_RX7_44 hbo (by omega) hk rfl (by decide) (by decide) (by rw [(hpB.2.1 o (by omega)).1, (hpA.2.1 o (by omega)).1]; exact hh o (Nat.le_refl o) 6) dX7_init_69 ?_
  refine (show NJ Y b X 2 72 [(0, .ref o)] [] (o + 183) (mdR ρ r o 6 (o + 182) 0 183) hB 182 14554 from ?_)
  refine n_aload_n (pc := 72) rfl 0 rfl C dX7_init_72 ?_
  refine n_new (pc := 73) C nl_RX7_48 (g.k (i := 183) (by decide +kernel)) (by decide) (by decide) dX7_init_73 ?_
  refine n_dup (pc := 76) rfl C dX7_init_76 ?_
  refine n_callC (pc := 77) (o := o + 183) C mi_RX7_50 (M_Told_init (ρ := ρ) hb (by omega) (g.sub 183 (by decide +kernel)) (md_hi hr (by decide) (by omega)) (fun a ha j => hhB a (by omega) j)) rfl (by decide) (Nat.le_of_ble_eq_true rfl) (by decide) (by decide) dX7_init_77 (fun r1 h1 hp => ?_)
  rw [hp.1, hp.2]
  refine n_putR (pc := 80) C fl_RX7_51 R.2.2.1 (fun q e => by cases e; rfl) hbo (by omega) hk rfl (by omega) rfl rfl dX7_init_80 ?_
  rw [md_call (by decide) (by omega), md_putT g (by decide +kernel) (by decide) (by decide +kernel) (by decide +kernel)]
  refine (show NJ Y b X 2 83 [(0, .ref o)] [] (o + 188) (mdR ρ r o 8 (o + 182) 0 188) hB 187 14669 from ?_)
  refine n_aload_n (pc := 83) rfl 0 rfl C dX7_init_83 ?_
  refine n_new (pc := 84) C nl_RX7_55 (g.k (i := 188) (by decide +kernel)) (by decide) (by decide) dX7_init_84 ?_
  refine n_dup (pc := 87) rfl C dX7_init_87 ?_
  refine n_callC (pc := 88) (o := o + 188) C mi_RX7_57 (M_Outs_init (ρ := ρ) hb (by omega) (g.sub 188 (by decide +kernel)) (md_hi hr (by decide) (by omega)) (fun a ha j => hhB a (by omega) j)) rfl (by decide) (Nat.le_of_ble_eq_true rfl) (by decide) (by decide) dX7_init_88 (fun r1 h1 hp => ?_)
  rw [hp.1, hp.2]
  refine n_putR (pc := 91) C fl_RX7_58 R.2.2.1 (fun q e => by cases e; rfl) hbo (by omega) hk rfl (by omega) rfl rfl dX7_init_91 ?_
  rw [md_call (by decide) (by omega), md_putT g (by decide +kernel) (by decide) (by decide +kernel) (by decide +kernel)]
  refine (show NJ Y b X 2 94 [(0, .ref o)] [] (o + 194) (mdR ρ r o 9 (o + 182) 0 194) hB 193 15314 from ?_)
  refine n_aload_n (pc := 94) rfl 0 rfl C dX7_init_94 ?_
  refine n_bipush (pc := 95) (v := 6) (by decide) C dX7_init_95 ?_
  refine n_arrJ (pc := 97) (N := 6) (c := 194) (J := 9) (j := 9) C ar_J g hbo hr (by decide) (by decide +kernel) (by decide +kernel) (by decide) (by decide +kernel) hk fl_RX7_62 R.2.2.1 (fun q e => by cases e; rfl) rfl (fun _ => rfl) (fun _ => rfl) (by decide) (by decide) (by decide) (by decide) (by decide) dX7_init_97 dX7_init_99 ?_
  refine (show NJ Y b X 2 102 [(0, .ref o)] [] (o + 195) (mdR ρ r o 10 (o + 182) 0 195) hB 194 15320 from ?_)
  have lo : ∀ n i, i + n = 3 → ∀ x : Int32, x = nI i → NJ Y b X 2 104 [(1, .int x), (0, .ref o)] [] (o + (195 + 4 * i)) (mdR ρ r o 10 (o + 182) i (195 + 4 * i)) hB (194 + 4 * i) (15320 + 259 * i) := by
    intro n
    induction n with
    | zero =>
      intro i hi x hx
      refine n_iload_n (pc := 104) rfl 0 rfl C dX7_init_104 ?_
      refine n_iconst (pc := 105) (v := 3) (by decide) C dX7_init_105 ?_
      refine n_icmp_ge (pc := 106) 128 C dX7_init_106 (by decide) (fun ct => ?_) (fun cf => ?_)
      · have e : i = 3 := by omega
        subst e
        refine (show NJ Y b X 2 128 [(1, .int x), (0, .ref o)] [] (o + 207) (mdR ρ r o 10 (o + 182) 3 207) hB 206 16097 from ?_)
        rw [md_row (by omega) (by omega) (fun j hj => by rw [(g 182 (by decide +kernel)).2.2 j, if_pos (rfz_tSR j hj)])]
        refine n_vret (pc := 128) C R dX7_init_128 (by omega) ⟨md_endT g (by decide +kernel) (by decide) (by decide +kernel), fun a ha => ?_, ⟨?_, ?_⟩, ?_, hpB.2.2⟩
        · exact ⟨((hpB.2.1 a (by omega)).1).trans (hpA.2.1 a (by omega)).1, ((hpB.2.1 a (by omega)).2).trans (hpA.2.1 a (by omega)).2⟩
        · rw [(hpB.2.1 _ (by omega)).1]; exact hpA.2.2.1.1
        · rw [(hpB.2.1 _ (by omega)).1]; exact hpA.2.2.1.2
        · have zs := hpA.2.2.2
          unfold Zs at zs ⊢
          rw [(hpB.2.1 (o + 3 + 9) (by omega)).1, (hpB.2.1 (o + 3 + 19) (by omega)).1]
          exact zs
      · exact absurd (by rw [hx, show i = 3 by omega]; exact Int32.le_refl _) cf
    | succ n ih =>
      intro i hi x hx
      refine n_iload_n (pc := 104) rfl 0 rfl C dX7_init_104 ?_
      refine n_iconst (pc := 105) (v := 3) (by decide) C dX7_init_105 ?_
      refine n_icmp_ge (pc := 106) 128 C dX7_init_106 (by decide) (fun ct => ?_) (fun cf => ?_)
      · rw [hx] at ct
        exact absurd ((nI_leI (a := 3) (b := i) (by omega) (by omega)).mp ct) (by omega)
      · refine n_aload_n (pc := 109) rfl 1 rfl C dX7_init_109 ?_
        refine n_getR (pc := 110) (v := o + 182) C fl_RX7_40 hbo (by omega) hk rfl ?_ (by omega) dX7_init_110 ?_
        · unfold mdR
          rw [if_pos rfl, if_pos (by decide), g.rf (v := 182) (by decide +kernel) (by decide +kernel)]
          rfl
        refine n_iload_n (pc := 113) rfl 0 rfl C dX7_init_113 ?_
        have gs : Sgm Y ρ (o + (195 + 4 * i)) tSc := g.sub (195 + 4 * i) (sb_tSR i (by omega))
        refine n_new (pc := 114) C nl_RX7_23 (gs.k (i := 0) (by decide +kernel)) (by omega) (by show _ + 7 ≤ _; omega) dX7_init_114 ?_
        refine n_dup (pc := 117) rfl C dX7_init_117 ?_
        refine n_callC (pc := 118) (o := o + (195 + 4 * i)) C mi_RX7_25 (M_Sc_init (ρ := ρ) hb (by omega) gs (md_hi hr (by omega) (by omega)) (fun a ha j => hhB a (by omega) j)) rfl (by decide) (Nat.le_of_ble_eq_true rfl) (by omega) (by show _ + 7 + _ ≤ _; omega) dX7_init_118 (fun r1 h1 hp => ?_)
        rw [hp.1, hp.2]
        have gp := g 182 (by decide +kernel)
        refine n_aast (pc := 121) (N := 3) (iN := i) C (by omega) (by omega) (g.k (i := 182) (by decide +kernel)) (g.n (i := 182) (by decide +kernel)) (by rw [hx]; exact vp_in_nI (by omega) (by omega)) (by rw [hx]; exact nI_clamp (by omega)) (by omega) (by omega) (gs.k (i := 0) (by decide +kernel)) dX7_init_121 ?_
        refine n_iinc (pc := 122) (q := 0) (c := 1) (fun y => [(1, .int y), (0, .ref o)]) C dX7_init_122 rfl (by decide) (by decide) rfl (fun y hy => ?_)
        refine n_goto (pc := 125) 104 C dX7_init_125 (by decide) ?_
        rw [md_call (by omega) (by omega), md_ast (by omega) (by rw [gp.2.2 i, rf_tSR i (by omega), if_neg (by omega)])]
        have hy2 : y = nI (i + 1) := by rw [hy, hx]; exact nI_1 i
        have kk := ih (i + 1) (by omega) y hy2
        rw [show 195 + 4 * (i + 1) = 195 + 4 * i + 4 by omega, show 194 + 4 * (i + 1) = 194 + 4 * i + 1 + 3 by omega, show 15320 + 259 * (i + 1) = 15320 + 259 * i + 7 + 252 by omega] at kk
        exact kk
  refine n_iconst (pc := 102) (v := 0) (by decide) C dX7_init_102 ?_
  refine n_istore_n (pc := 103) (fun x => [(1, .int x), (0, .ref o)]) C dX7_init_103 rfl (by decide) rfl (fun x hx => ?_)
  exact lo 3 0 (by omega) x (by rw [hx]; rfl)
