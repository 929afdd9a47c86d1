def tSc : SgT := (5, 0, [0, 0, 0, 0, 1, 2, 3]) :: [(10, 6, []), (10, 6, []), (10, 240, [])]
def tLw : SgT := (1, 0, [1, 2, 3, 4]) :: [(10, 9, []), (10, 400, []), (10, 13, []), (10, 32, [])]
def tTo : SgT := (6, 0, [0, 1, 2, 3, 4]) :: [(10, 20, []), (10, 20, []), (10, 6, []), (10, 64, [])]
def tOu : SgT := (2, 0, [1, 2]) :: [(10, 384, [])] ++ shT 2 tSc
def tPa : SgT := (3, 0, [0, 1]) :: (13, 30, (List.range 30).map (fun i => 2 + 4 * i)) :: (List.range 30).flatMap (fun i => shT (2 + 4 * i) tSc)
def tBa : SgT := (0, 0, [0, 0, 0, 0, 0, 1, 2, 3, 4, 5, 6, 7, 8, 13, 18]) :: [(10, 40, []), (10, 40, []), (11, 6, []), (10, 6, []), (10, 6, []), (10, 6, []), (10, 6, [])] ++ shT 8 tLw ++ shT 13 tLw ++ shT 18 tLw
def tRd : SgT := (4, 0, [1, 0, 2, 0, 0, 0, 0, 25, 26, 27]) :: [(9, 2000, [])] ++ shT 2 tBa ++ [(10, 401, []), (10, 401, []), (10, 401, [])]
def tSR : SgT := (7, 0, [1, 29, 52, 56, 60, 182, 0, 183, 188, 194]) :: (shT 1 tRd ++ shT 29 tBa ++ shT 52 tSc ++ shT 56 tSc ++ shT 60 tPa ++ [(13, 3, [195, 199, 203])] ++ shT 183 tTo ++ shT 188 tOu ++ [(11, 6, [])] ++ shT 195 tSc ++ shT 199 tSc ++ shT 203 tSc)
def tMo : SgT := (8, 0, [0, 1, 0, 2, 0, 3, 4, 5, 6, 7, 0, 0, 0, 0, 0, 0, 0, 0, 0, 0, 0, 8, 9, 10, 11, 12, 13, 14, 15, 16, 17, 18, 19, 20, 0, 21, 22, 23, 24, 25, 0, 26, 27, 28, 0, 29, 30, 0, 31, 32, 0, 0, 0, 33, 0, 34, 35, 36, 37, 38, 0, 39, 40, 41, 42, 43]) :: [(9, 2000, []), (9, 2000, []), (10, 403, []), (10, 403, []), (10, 403, []), (11, 403, []), (11, 19, []), (11, 6, []), (10, 2, []), (10, 2, []), (10, 80, []), (10, 2, []), (10, 12, []), (10, 12, []), (10, 12, []), (10, 12, []), (10, 2, []), (10, 2, []), (10, 6, []), (10, 6, []), (12, 260, []), (10, 260, []), (10, 260, []), (10, 260, []), (10, 260, []), (10, 840, []), (10, 840, []), (10, 64, []), (10, 9, []), (10, 400, []), (10, 512, []), (10, 512, []), (10, 6, []), (10, 15360, []), (10, 40, []), (12, 40, []), (12, 40, []), (10, 384, []), (10, 20, []), (10, 20, []), (10, 6, []), (12, 3, []), (10, 1536, [])]
theorem Sgm.k {Y : CG} {ρ : TR} {o i k : Nat} {T : SgT} (g : Sgm Y ρ o T) (e : i < T.length ∧ skK T i = k) : yK Y (o + i) = k := (g i e.1).1.trans e.2
theorem Sgm.n {Y : CG} {ρ : TR} {o i k : Nat} {T : SgT} (g : Sgm Y ρ o T) (e : i < T.length ∧ skN T i = k) : yN Y (o + i) = k := (g i e.1).2.1.trans e.2
theorem md_hi {ρ r : TR} {o J p I c : Nat} (hr : ∀ a, o ≤ a → ∀ j, r a j = 0) (hc : 1 ≤ c) (hp : p < o + c) : ∀ a, o + c ≤ a → ∀ j, mdR ρ r o J p I c a j = 0 := fun a ha j => by
  unfold mdR
  rw [if_neg (by omega), if_neg (by omega), if_neg (by omega)]
  exact hr a (by omega) j
theorem md_putT {Y : CG} {ρ r : TR} {o J p I c j v : Nat} {T : SgT} (g : Sgm Y ρ o T) (hl : 0 < T.length) (hJ : J ≤ j) (h0 : ∀ i, i < j → J ≤ i → skR T 0 i = 0) (hj : skR T 0 j = v ∧ ¬ v = 0) : pR (mdR ρ r o J p I c) o j (o + v) = mdR ρ r o (j + 1) p I c := md_put hJ (fun i a e => by rw [g.rf hl (h0 i e a)]; rfl) (by rw [g.rf hl hj.1, if_neg hj.2])
theorem md_endT {Y : CG} {ρ r : TR} {o J c : Nat} {T : SgT} (g : Sgm Y ρ o T) (hl : 0 < T.length) (hc : 1 ≤ c) (hJ : (T.getD 0 (0, 0, [])).2.2.length ≤ J) : mdR ρ r o J o 0 c = fnR ρ r o c := md_end hc (fun j h => by
  rw [g.rf hl rfl, if_pos]
  unfold skR
  rw [List.getD_eq_getElem?_getD, List.getElem?_eq_none_iff.mpr (by omega)]
  rfl)
theorem M_Sc_init {Y : CG} {b : Nat} {l : Launch} {o : Nat} {r ρ : TR} {h : TH} (hb : 0 < b) (hbo : b ≤ o) (g : Sgm Y ρ o tSc) (hr : ∀ a, o ≤ a → ∀ j, r a j = 0) (hh : ∀ a, o ≤ a → ∀ j, h.1 a j = 0) : Mc Y b l yX5_init cX5_init 1 1 3 252 o r h (fun r1 h1 => r1 = fnR ρ r o 4 ∧ h1 = h) := by
  have hk : yK Y o = 5 := g.k (i := 0) (by decide +kernel)
  refine Mc.of RX5 rfl (by decide) rfl (by decide) hb hbo (fun X hXl C R => ?_)
  subst hXl
  refine n_aload_n (pc := 0) rfl 0 rfl C dX5_init_0 ?_
  refine n_objInit (pc := 1) C (by decide) oi_RX5 oi_inst oi_code dX5_init_1 ?_
  rw [md_0 (ρ := ρ) (r := r) (o := o) (fun j => hr o (Nat.le_refl o) j)]
  refine (show NJ Y b X 1 4 [(0, .ref o)] [] (o + 1) (mdR ρ r o 0 o 0 1) h 0 0 from ?_)
  refine n_aload_n (pc := 4) rfl 0 rfl C dX5_init_4 ?_
  refine n_iconst (pc := 5) (v := 0) (by decide) C dX5_init_5 ?_
  refine n_put0 (pc := 6) C fl_RX5_9 hbo (by omega) hk rfl (by decide) (by decide) (hh o (Nat.le_refl o) 0) dX5_init_6 ?_
  refine (show NJ Y b X 1 9 [(0, .ref o)] [] (o + 1) (mdR ρ r o 0 o 0 1) h 0 0 from ?_)
  refine n_aload_n (pc := 9) rfl 0 rfl C dX5_init_9 ?_
  refine n_iconst (pc := 10) (v := 0) (by decide) C dX5_init_10 ?_
  refine n_put0 (pc := 11) C fl_RX5_15 hbo (by omega) hk rfl (by decide) (by decide) (hh o (Nat.le_refl o) 1) dX5_init_11 ?_
  refine (show NJ Y b X 1 14 [(0, .ref o)] [] (o + 1) (mdR ρ r o 0 o 0 1) h 0 0 from ?_)
  refine n_aload_n (pc := 14) rfl 0 rfl C dX5_init_14 ?_
  refine n_iconst (pc := 15) (v := 0) (by decide) C dX5_init_15 ?_
  refine n_put0 (pc := 16) C fl_RX5_18 hbo (by omega) hk rfl (by decide) (by decide) (hh o (Nat.le_refl o) 2) dX5_init_16 ?_
  refine (show NJ Y b X 1 19 [(0, .ref o)] [] (o + 1) (mdR ρ r o 0 o 0 1) h 0 0 from ?_)
  refine n_aload_n (pc := 19) rfl 0 rfl C dX5_init_19 ?_
  refine n_iconst (pc := 20) (v := 0) (by decide) C dX5_init_20 ?_
  refine n_put0 (pc := 21) C fl_RX5_21 hbo (by omega) hk rfl (by decide) (by decide) (hh o (Nat.le_refl o) 3) dX5_init_21 ?_
  refine (show NJ Y b X 1 24 [(0, .ref o)] [] (o + 1) (mdR ρ r o 0 o 0 1) h 0 0 from ?_)
  refine n_aload_n (pc := 24) rfl 0 rfl C dX5_init_24 ?_
  refine n_bipush (pc := 25) (v := 6) (by decide) C dX5_init_25 ?_
  refine n_arrI (pc := 27) (N := 6) (c := 1) (J := 0) (j := 4) C ar_I g hbo hr (by decide) (by decide +kernel) (by decide +kernel) (by decide) (by decide +kernel) hk fl_RX5_24 R.2.2.1 (fun q e => by cases e; rfl) rfl (fun _ => rfl) (fun _ => rfl) (by decide) (by decide) (by decide) (by decide) (by decide) dX5_init_27 dX5_init_29 ?_
  refine (show NJ Y b X 1 32 [(0, .ref o)] [] (o + 2) (mdR ρ r o 5 o 0 2) h 1 6 from ?_)
  refine n_aload_n (pc := 32) rfl 0 rfl C dX5_init_32 ?_
  refine n_bipush (pc := 33) (v := 6) (by decide) C dX5_init_33 ?_
  refine n_arrI (pc := 35) (N := 6) (c := 2) (J := 5) (j := 5) C ar_I g hbo hr (by decide) (by decide +kernel) (by decide +kernel) (by decide) (by decide +kernel) hk fl_RX5_28 R.2.2.1 (fun q e => by cases e; rfl) rfl (fun _ => rfl) (fun _ => rfl) (by decide) (by decide) (by decide) (by decide) (by decide) dX5_init_35 dX5_init_37 ?_
  refine (show NJ Y b X 1 40 [(0, .ref o)] [] (o + 3) (mdR ρ r o 6 o 0 3) h 2 12 from ?_)
  refine n_aload_n (pc := 40) rfl 0 rfl C dX5_init_40 ?_
  refine n_sipush (pc := 41) (v := 240) (by decide) C dX5_init_41 ?_
  refine n_arrI (pc := 44) (N := 240) (c := 3) (J := 6) (j := 6) C ar_I g hbo hr (by decide) (by decide +kernel) (by decide +kernel) (by decide) (by decide +kernel) hk fl_RX5_31 R.2.2.1 (fun q e => by cases e; rfl) rfl (fun _ => rfl) (fun _ => rfl) (by decide) (by decide) (by decide) (by decide) (by decide) dX5_init_44 dX5_init_46 ?_
  refine (show NJ Y b X 1 49 [(0, .ref o)] [] (o + 4) (mdR ρ r o 7 o 0 4) h 3 252 from ?_)
  exact n_vret (pc := 49) C R dX5_init_49 (by omega) ⟨md_endT g (by decide +kernel) (by decide) (by decide +kernel), rfl⟩
theorem M_Law_init {Y : CG} {b : Nat} {l : Launch} {o : Nat} {r ρ : TR} {h : TH} (hb : 0 < b) (hbo : b ≤ o) (g : Sgm Y ρ o tLw) (hr : ∀ a, o ≤ a → ∀ j, r a j = 0) (hh : ∀ a, o ≤ a → ∀ j, h.1 a j = 0) : Mc Y b l yX1_init cX1_init 1 1 4 454 o r h (fun r1 h1 => r1 = fnR ρ r o 5 ∧ h1 = h) := by
  have hk : yK Y o = 1 := g.k (i := 0) (by decide +kernel)
  refine Mc.of RX1 rfl (by decide) rfl (by decide) hb hbo (fun X hXl C R => ?_)
  subst hXl
  refine n_aload_n (pc := 0) rfl 0 rfl C dX1_init_0 ?_
  refine n_objInit (pc := 1) C (by decide) oi_RX1 oi_inst oi_code dX1_init_1 ?_
  rw [md_0 (ρ := ρ) (r := r) (o := o) (fun j => hr o (Nat.le_refl o) j)]
  refine (show NJ Y b X 1 4 [(0, .ref o)] [] (o + 1) (mdR ρ r o 0 o 0 1) h 0 0 from ?_)
  refine n_aload_n (pc := 4) rfl 0 rfl C dX1_init_4 ?_
  refine n_bipush (pc := 5) (v := 9) (by decide) C dX1_init_5 ?_
  refine n_arrI (pc := 7) (N := 9) (c := 1) (J := 0) (j := 0) C ar_I g hbo hr (by decide) (by decide +kernel) (by decide +kernel) (by decide) (by decide +kernel) hk fl_RX1_9 R.2.2.1 (fun q e => by cases e; rfl) rfl (fun _ => rfl) (fun _ => rfl) (by decide) (by decide) (by decide) (by decide) (by decide) dX1_init_7 dX1_init_9 ?_
  refine (show NJ Y b X 1 12 [(0, .ref o)] [] (o + 2) (mdR ρ r o 1 o 0 2) h 1 9 from ?_)
  refine n_aload_n (pc := 12) rfl 0 rfl C dX1_init_12 ?_
  refine n_sipush (pc := 13) (v := 400) (by decide) C dX1_init_13 ?_
  refine n_arrI (pc := 16) (N := 400) (c := 2) (J := 1) (j := 1) C ar_I g hbo hr (by decide) (by decide +kernel) (by decide +kernel) (by decide) (by decide +kernel) hk fl_RX1_15 R.2.2.1 (fun q e => by cases e; rfl) rfl (fun _ => rfl) (fun _ => rfl) (by decide) (by decide) (by decide) (by decide) (by decide) dX1_init_16 dX1_init_18 ?_
  refine (show NJ Y b X 1 21 [(0, .ref o)] [] (o + 3) (mdR ρ r o 2 o 0 3) h 2 409 from ?_)
  refine n_aload_n (pc := 21) rfl 0 rfl C dX1_init_21 ?_
  refine n_bipush (pc := 22) (v := 13) (by decide) C dX1_init_22 ?_
  refine n_arrI (pc := 24) (N := 13) (c := 3) (J := 2) (j := 2) C ar_I g hbo hr (by decide) (by decide +kernel) (by decide +kernel) (by decide) (by decide +kernel) hk fl_RX1_18 R.2.2.1 (fun q e => by cases e; rfl) rfl (fun _ => rfl) (fun _ => rfl) (by decide) (by decide) (by decide) (by decide) (by decide) dX1_init_24 dX1_init_26 ?_
  refine (show NJ Y b X 1 29 [(0, .ref o)] [] (o + 4) (mdR ρ r o 3 o 0 4) h 3 422 from ?_)
  refine n_aload_n (pc := 29) rfl 0 rfl C dX1_init_29 ?_
  refine n_bipush (pc := 30) (v := 32) (by decide) C dX1_init_30 ?_
  refine n_arrI (pc := 32) (N := 32) (c := 4) (J := 3) (j := 3) C ar_I g hbo hr (by decide) (by decide +kernel) (by decide +kernel) (by decide) (by decide +kernel) hk fl_RX1_21 R.2.2.1 (fun q e => by cases e; rfl) rfl (fun _ => rfl) (fun _ => rfl) (by decide) (by decide) (by decide) (by decide) (by decide) dX1_init_32 dX1_init_34 ?_
  refine (show NJ Y b X 1 37 [(0, .ref o)] [] (o + 5) (mdR ρ r o 4 o 0 5) h 4 454 from ?_)
  refine n_aload_n (pc := 37) rfl 0 rfl C dX1_init_37 ?_
  refine n_iconst (pc := 38) (v := 0) (by decide) C dX1_init_38 ?_
  refine n_put0 (pc := 39) C fl_RX1_24 hbo (by omega) hk rfl (by decide) (by decide) (hh o (Nat.le_refl o) 4) dX1_init_39 ?_
  refine (show NJ Y b X 1 42 [(0, .ref o)] [] (o + 5) (mdR ρ r o 4 o 0 5) h 4 454 from ?_)
  refine n_aload_n (pc := 42) rfl 0 rfl C dX1_init_42 ?_
  refine n_iconst (pc := 43) (v := 0) (by decide) C dX1_init_43 ?_
  refine n_put0 (pc := 44) C fl_RX1_28 hbo (by omega) hk rfl (by decide) (by decide) (hh o (Nat.le_refl o) 5) dX1_init_44 ?_
  refine (show NJ Y b X 1 47 [(0, .ref o)] [] (o + 5) (mdR ρ r o 4 o 0 5) h 4 454 from ?_)
  refine n_aload_n (pc := 47) rfl 0 rfl C dX1_init_47 ?_
  refine n_iconst (pc := 48) (v := 0) (by decide) C dX1_init_48 ?_
  refine n_put0 (pc := 49) C fl_RX1_31 hbo (by omega) hk rfl (by decide) (by decide) (hh o (Nat.le_refl o) 6) dX1_init_49 ?_
  refine (show NJ Y b X 1 52 [(0, .ref o)] [] (o + 5) (mdR ρ r o 4 o 0 5) h 4 454 from ?_)
  exact n_vret (pc := 52) C R dX1_init_52 (by omega) ⟨md_endT g (by decide +kernel) (by decide) (by decide +kernel), rfl⟩
theorem M_Told_init {Y : CG} {b : Nat} {l : Launch} {o : Nat} {r ρ : TR} {h : TH} (hb : 0 < b) (hbo : b ≤ o) (g : Sgm Y ρ o tTo) (hr : ∀ a, o ≤ a → ∀ j, r a j = 0) (hh : ∀ a, o ≤ a → ∀ j, h.1 a j = 0) : Mc Y b l yX6_init cX6_init 1 1 4 110 o r h (fun r1 h1 => r1 = fnR ρ r o 5 ∧ h1 = h) := by
  have hk : yK Y o = 6 := g.k (i := 0) (by decide +kernel)
  refine Mc.of RX6 rfl (by decide) rfl (by decide) hb hbo (fun X hXl C R => ?_)
  subst hXl
  refine n_aload_n (pc := 0) rfl 0 rfl C dX6_init_0 ?_
  refine n_objInit (pc := 1) C (by decide) oi_RX6 oi_inst oi_code dX6_init_1 ?_
  rw [md_0 (ρ := ρ) (r := r) (o := o) (fun j => hr o (Nat.le_refl o) j)]
  refine (show NJ Y b X 1 4 [(0, .ref o)] [] (o + 1) (mdR ρ r o 0 o 0 1) h 0 0 from ?_)
  refine n_aload_n (pc := 4) rfl 0 rfl C dX6_init_4 ?_
  refine n_iconst (pc := 5) (v := 0) (by decide) C dX6_init_5 ?_
  refine n_put0 (pc := 6) C fl_RX6_9 hbo (by omega) hk rfl (by decide) (by decide) (hh o (Nat.le_refl o) 0) dX6_init_6 ?_
  refine (show NJ Y b X 1 9 [(0, .ref o)] [] (o + 1) (mdR ρ r o 0 o 0 1) h 0 0 from ?_)
  refine n_aload_n (pc := 9) rfl 0 rfl C dX6_init_9 ?_
  refine n_bipush (pc := 10) (v := 20) (by decide) C dX6_init_10 ?_
  refine n_arrI (pc := 12) (N := 20) (c := 1) (J := 0) (j := 1) C ar_I g hbo hr (by decide) (by decide +kernel) (by decide +kernel) (by decide) (by decide +kernel) hk fl_RX6_15 R.2.2.1 (fun q e => by cases e; rfl) rfl (fun _ => rfl) (fun _ => rfl) (by decide) (by decide) (by decide) (by decide) (by decide) dX6_init_12 dX6_init_14 ?_
  refine (show NJ Y b X 1 17 [(0, .ref o)] [] (o + 2) (mdR ρ r o 2 o 0 2) h 1 20 from ?_)
  refine n_aload_n (pc := 17) rfl 0 rfl C dX6_init_17 ?_
  refine n_bipush (pc := 18) (v := 20) (by decide) C dX6_init_18 ?_
  refine n_arrI (pc := 20) (N := 20) (c := 2) (J := 2) (j := 2) C ar_I g hbo hr (by decide) (by decide +kernel) (by decide +kernel) (by decide) (by decide +kernel) hk fl_RX6_19 R.2.2.1 (fun q e => by cases e; rfl) rfl (fun _ => rfl) (fun _ => rfl) (by decide) (by decide) (by decide) (by decide) (by decide) dX6_init_20 dX6_init_22 ?_
  refine (show NJ Y b X 1 25 [(0, .ref o)] [] (o + 3) (mdR ρ r o 3 o 0 3) h 2 40 from ?_)
  refine n_aload_n (pc := 25) rfl 0 rfl C dX6_init_25 ?_
  refine n_bipush (pc := 26) (v := 6) (by decide) C dX6_init_26 ?_
  refine n_arrI (pc := 28) (N := 6) (c := 3) (J := 3) (j := 3) C ar_I g hbo hr (by decide) (by decide +kernel) (by decide +kernel) (by decide) (by decide +kernel) hk fl_RX6_22 R.2.2.1 (fun q e => by cases e; rfl) rfl (fun _ => rfl) (fun _ => rfl) (by decide) (by decide) (by decide) (by decide) (by decide) dX6_init_28 dX6_init_30 ?_
  refine (show NJ Y b X 1 33 [(0, .ref o)] [] (o + 4) (mdR ρ r o 4 o 0 4) h 3 46 from ?_)
  refine n_aload_n (pc := 33) rfl 0 rfl C dX6_init_33 ?_
  refine n_bipush (pc := 34) (v := 64) (by decide) C dX6_init_34 ?_
  refine n_arrI (pc := 36) (N := 64) (c := 4) (J := 4) (j := 4) C ar_I g hbo hr (by decide) (by decide +kernel) (by decide +kernel) (by decide) (by decide +kernel) hk fl_RX6_25 R.2.2.1 (fun q e => by cases e; rfl) rfl (fun _ => rfl) (fun _ => rfl) (by decide) (by decide) (by decide) (by decide) (by decide) dX6_init_36 dX6_init_38 ?_
  refine (show NJ Y b X 1 41 [(0, .ref o)] [] (o + 5) (mdR ρ r o 5 o 0 5) h 4 110 from ?_)
  exact n_vret (pc := 41) C R dX6_init_41 (by omega) ⟨md_endT g (by decide +kernel) (by decide) (by decide +kernel), rfl⟩
theorem M_Outs_init {Y : CG} {b : Nat} {l : Launch} {o : Nat} {r ρ : TR} {h : TH} (hb : 0 < b) (hbo : b ≤ o) (g : Sgm Y ρ o tOu) (hr : ∀ a, o ≤ a → ∀ j, r a j = 0) (hh : ∀ a, o ≤ a → ∀ j, h.1 a j = 0) : Mc Y b l yX2_init cX2_init 1 2 5 643 o r h (fun r1 h1 => r1 = fnR ρ r o 6 ∧ h1 = h) := by
  have hk : yK Y o = 2 := g.k (i := 0) (by decide +kernel)
  refine Mc.of RX2 rfl (by decide) rfl (by decide) hb hbo (fun X hXl C R => ?_)
  subst hXl
  refine n_aload_n (pc := 0) rfl 0 rfl C dX2_init_0 ?_
  refine n_objInit (pc := 1) C (by decide) oi_RX2 oi_inst oi_code dX2_init_1 ?_
  rw [md_0 (ρ := ρ) (r := r) (o := o) (fun j => hr o (Nat.le_refl o) j)]
  refine (show NJ Y b X 1 4 [(0, .ref o)] [] (o + 1) (mdR ρ r o 0 o 0 1) h 0 0 from ?_)
  refine n_aload_n (pc := 4) rfl 0 rfl C dX2_init_4 ?_
  refine n_sipush (pc := 5) (v := 384) (by decide) C dX2_init_5 ?_
  refine n_arrI (pc := 8) (N := 384) (c := 1) (J := 0) (j := 0) C ar_I g hbo hr (by decide) (by decide +kernel) (by decide +kernel) (by decide) (by decide +kernel) hk fl_RX2_9 R.2.2.1 (fun q e => by cases e; rfl) rfl (fun _ => rfl) (fun _ => rfl) (by decide) (by decide) (by decide) (by decide) (by decide) dX2_init_8 dX2_init_10 ?_
  refine (show NJ Y b X 1 13 [(0, .ref o)] [] (o + 2) (mdR ρ r o 1 o 0 2) h 1 384 from ?_)
  refine n_aload_n (pc := 13) rfl 0 rfl C dX2_init_13 ?_
  refine n_new (pc := 14) C nl_RX2_15 (g.k (i := 2) (by decide +kernel)) (by decide) (by decide) dX2_init_14 ?_
  refine n_dup (pc := 17) rfl C dX2_init_17 ?_
  refine n_callC (pc := 18) (o := o + 2) C mi_RX2_17 (M_Sc_init (ρ := ρ) hb (by omega) (g.sub 2 (by decide +kernel)) (md_hi hr (by decide) (by omega)) (fun a ha j => hh a (by omega) j)) rfl (by decide) (Nat.le_of_ble_eq_true rfl) (by decide) (by decide) dX2_init_18 (fun r1 h1 hp => ?_)
  rw [hp.1, hp.2]
  refine n_putR (pc := 21) C fl_RX2_18 R.2.2.1 (fun q e => by cases e; rfl) hbo (by omega) hk rfl (by omega) rfl rfl dX2_init_21 ?_
  rw [md_call (by decide) (by omega), md_putT g (by decide +kernel) (by decide) (by decide +kernel) (by decide +kernel)]
  refine (show NJ Y b X 1 24 [(0, .ref o)] [] (o + 6) (mdR ρ r o 2 o 0 6) h 5 643 from ?_)
  exact n_vret (pc := 24) C R dX2_init_24 (by omega) ⟨md_endT g (by decide +kernel) (by decide) (by decide +kernel), rfl⟩
theorem sb_tPa : ∀ i, i < 30 → (tPa.drop (2 + 4 * i)).take tSc.length = shT (2 + 4 * i) tSc := by decide +kernel
theorem rf_tPa : ∀ i, i < 30 → skR tPa 1 i = 2 + 4 * i := by decide +kernel
theorem rfz_tPa (j : Nat) (hj : 30 ≤ j) : skR tPa 1 j = 0 := by
  show ((List.range 30).map (fun i => 2 + 4 * i)).getD j 0 = 0
  rw [List.getD_eq_getElem?_getD, List.getElem?_eq_none_iff.mpr (by rw [List.length_map, List.length_range]; omega)]
  rfl
theorem M_Past_init {Y : CG} {b : Nat} {l : Launch} {o : Nat} {r ρ : TR} {h : TH} (hb : 0 < b) (hbo : b ≤ o) (g : Sgm Y ρ o tPa) (hr : ∀ a, o ≤ a → ∀ j, r a j = 0) (hh : ∀ a, o ≤ a → ∀ j, h.1 a j = 0) : Mc Y b l yX3_init cX3_init 2 2 121 7800 o r h (fun r1 h1 => r1 = fnR ρ r o 122 ∧ h1 = h) := by
  have hk : yK Y o = 3 := g.k (i := 0) (by decide +kernel)
  refine Mc.of RX3 rfl (by decide) rfl (by decide) hb hbo (fun X hXl C R => ?_)
  subst hXl
  refine n_aload_n (pc := 0) rfl 0 rfl C dX3_init_0 ?_
  refine n_objInit (pc := 1) C (by decide) oi_RX3 oi_inst oi_code dX3_init_1 ?_
  rw [md_0 (ρ := ρ) (r := r) (o := o) (fun j => hr o (Nat.le_refl o) j)]
  refine (show NJ Y b X 2 4 [(0, .ref o)] [] (o + 1) (mdR ρ r o 0 o 0 1) h 0 0 from ?_)
  refine n_aload_n (pc := 4) rfl 0 rfl C dX3_init_4 ?_
  refine n_iconst (pc := 5) (v := 0) (by decide) C dX3_init_5 ?_
  refine n_put0 (pc := 6) C fl_RX3_9 hbo (by omega) hk rfl (by decide) (by decide) (hh o (Nat.le_refl o) 0) dX3_init_6 ?_
  refine (show NJ Y b X 2 9 [(0, .ref o)] [] (o + 1) (mdR ρ r o 0 o 0 1) h 0 0 from ?_)
  refine n_aload_n (pc := 9) rfl 0 rfl C dX3_init_9 ?_
  refine n_bipush (pc := 10) (v := 30) (by decide) C dX3_init_10 ?_
  refine n_anew (pc := 12) (N := 30) C (lg_at 356 (by decide +kernel) rfl) (g.k (i := 1) (by decide +kernel)) (g.n (i := 1) (by decide +kernel)) (by decide) (by decide) (by decide) (by decide) (by decide) dX3_init_12 ?_
  refine n_putR (pc := 15) C fl_RX3_17 R.2.2.1 (fun q e => by cases e; rfl) hbo (by omega) hk rfl (by omega) rfl rfl dX3_init_15 ?_
  rw [md_putT g (by decide +kernel) (by decide) (by decide +kernel) (by decide +kernel), md_anew (by decide) (hr _ (by omega))]
  refine (show NJ Y b X 2 18 [(0, .ref o)] [] (o + 2) (mdR ρ r o 2 (o + 1) 0 2) h 1 30 from ?_)
  refine n_aload_n (pc := 18) rfl 0 rfl C dX3_init_18 ?_
  refine n_iconst (pc := 19) (v := 0) (by decide) C dX3_init_19 ?_
  refine n_put0 (pc := 20) C fl_RX3_21 hbo (by omega) hk rfl (by decide) (by decide) (hh o (Nat.le_refl o) 2) dX3_init_20 ?_
  refine (show NJ Y b X 2 23 [(0, .ref o)] [] (o + 2) (mdR ρ r o 2 (o + 1) 0 2) h 1 30 from ?_)
  have lo : ∀ n i, i + n = 30 → ∀ x : Int32, x = nI i → NJ Y b X 2 25 [(1, .int x), (0, .ref o)] [] (o + (2 + 4 * i)) (mdR ρ r o 2 (o + 1) i (2 + 4 * i)) h (1 + 4 * i) (30 + 259 * i) := by
    intro n
    induction n with
    | zero =>
      intro i hi x hx
      refine n_iload_n (pc := 25) rfl 0 rfl C dX3_init_25 ?_
      refine n_bipush (pc := 26) (v := 30) (by decide) C dX3_init_26 ?_
      refine n_icmp_ge (pc := 28) 50 C dX3_init_28 (by decide) (fun ct => ?_) (fun cf => ?_)
      · have e : i = 30 := by omega
        subst e
        refine (show NJ Y b X 2 50 [(1, .int x), (0, .ref o)] [] (o + 122) (mdR ρ r o 2 (o + 1) 30 122) h 121 7800 from ?_)
        rw [md_row (by omega) (by omega) (fun j hj => by rw [(g 1 (by decide +kernel)).2.2 j, if_pos (rfz_tPa j hj)])]
        exact n_vret (pc := 50) C R dX3_init_50 (by omega) ⟨md_endT g (by decide +kernel) (by decide) (by decide +kernel), rfl⟩
      · exact absurd (by rw [hx, show i = 30 by omega]; exact Int32.le_refl _) cf
    | succ n ih =>
      intro i hi x hx
      refine n_iload_n (pc := 25) rfl 0 rfl C dX3_init_25 ?_
      refine n_bipush (pc := 26) (v := 30) (by decide) C dX3_init_26 ?_
      refine n_icmp_ge (pc := 28) 50 C dX3_init_28 (by decide) (fun ct => ?_) (fun cf => ?_)
      · rw [hx] at ct
        exact absurd ((nI_leI (a := 30) (b := i) (by omega) (by omega)).mp ct) (by omega)
      · refine n_aload_n (pc := 31) rfl 1 rfl C dX3_init_31 ?_
        refine n_getR (pc := 32) (v := o + 1) C fl_RX3_17 hbo (by omega) hk rfl ?_ (by omega) dX3_init_32 ?_
        · unfold mdR
          rw [if_pos rfl, if_pos (by decide), g.rf (v := 1) (by decide +kernel) (by decide +kernel)]
          rfl
        refine n_iload_n (pc := 35) rfl 0 rfl C dX3_init_35 ?_
        have gs : Sgm Y ρ (o + (2 + 4 * i)) tSc := g.sub (2 + 4 * i) (sb_tPa i (by omega))
        refine n_new (pc := 36) C nl_RX3_15 (gs.k (i := 0) (by decide +kernel)) (by omega) (by show _ + 7 ≤ _; omega) dX3_init_36 ?_
        refine n_dup (pc := 39) rfl C dX3_init_39 ?_
        refine n_callC (pc := 40) (o := o + (2 + 4 * i)) C mi_RX3_24 (M_Sc_init (ρ := ρ) hb (by omega) gs (md_hi hr (by omega) (by omega)) (fun a ha j => hh a (by omega) j)) rfl (by decide) (Nat.le_of_ble_eq_true rfl) (by omega) (by show _ + 7 + _ ≤ _; omega) dX3_init_40 (fun r1 h1 hp => ?_)
        rw [hp.1, hp.2]
        have gp := g 1 (by decide +kernel)
        refine n_aast (pc := 43) (N := 30) (iN := i) C (by omega) (by omega) (g.k (i := 1) (by decide +kernel)) (g.n (i := 1) (by decide +kernel)) (by rw [hx]; exact vp_in_nI (by omega) (by omega)) (by rw [hx]; exact nI_clamp (by omega)) (by omega) (by omega) (gs.k (i := 0) (by decide +kernel)) dX3_init_43 ?_
        refine n_iinc (pc := 44) (q := 0) (c := 1) (fun y => [(1, .int y), (0, .ref o)]) C dX3_init_44 rfl (by decide) (by decide) rfl (fun y hy => ?_)
        refine n_goto (pc := 47) 25 C dX3_init_47 (by decide) ?_
        rw [md_call (by omega) (by omega), md_ast (by omega) (by rw [gp.2.2 i, rf_tPa i (by omega), if_neg (by omega)])]
        have hy2 : y = nI (i + 1) := by rw [hy, hx]; exact nI_1 i
        have kk := ih (i + 1) (by omega) y hy2
        rw [show 2 + 4 * (i + 1) = 2 + 4 * i + 4 by omega, show 1 + 4 * (i + 1) = 1 + 4 * i + 1 + 3 by omega, show 30 + 259 * (i + 1) = 30 + 259 * i + 7 + 252 by omega] at kk
        exact kk
  refine n_iconst (pc := 23) (v := 0) (by decide) C dX3_init_23 ?_
  refine n_istore_n (pc := 24) (fun x => [(1, .int x), (0, .ref o)]) C dX3_init_24 rfl (by decide) rfl (fun x hx => ?_)
  exact lo 30 0 (by omega) x (by rw [hx]; rfl)
