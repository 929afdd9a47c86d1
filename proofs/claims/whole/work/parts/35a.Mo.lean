def D_Mo_homeIs (r : TR) (o : Nat) (a1 : Int32) (h : TH) (Q : TH → Prop) : Prop :=
  ∀ h2, h2 = pI h (r o 49) ((31 : Int32).toNatClampNeg) ((h.1 (r o 49) ((31 : Int32).toNatClampNeg)) + 1) → vp_in (12 + a1) 512 ∧ ∀ h5, h5 = pI h2 (r o 49) ((12 + a1).toNatClampNeg) (h2.1 (r o 49) ((31 : Int32).toNatClampNeg)) → Q h5
set_option maxRecDepth 100000 in
set_option maxHeartbeats 4000000 in
theorem M_Mo_homeIs {Y : CG} {r : TR} {l : Launch} {o : Nat} {a1 : Int32} {h : TH} {Q : TH → Prop} (t0 : TO Y o 8) (hD : D_Mo_homeIs r o a1 h Q) : Mv Y r l yX8_homeIs cX8_homeIs 2 1 [.ref o, .int a1] h Q := by
  unfold D_Mo_homeIs at hD
  refine Mv.of RX8 rfl (by decide) (by simp [lg_sl, Value.category]) [(0, .ref o), (1, .int a1)] rfl (fun X hXl C R => ?_)
  subst hXl
  refine g_wt (fun hw => ?_)
  refine g_aload_n (pc := 0) rfl 0 rfl C dX8_homeIs_0 ?_
  have u1 : TA Y (r o 49) 10 512 := wt_a hw t0 (by decide) (by decide) rfl
  refine g_getR (pc := 1) C fl_RX8_113 t0 rfl dX8_homeIs_1 ?_
  refine g_bipush (pc := 4) (v := 31) (by decide) C dX8_homeIs_4 ?_
  refine g_dup2 (pc := 6) rfl rfl C dX8_homeIs_6 ?_
  refine g_iald (pc := 7) C u1 (by unfold vp_in; decide) dX8_homeIs_7 ?_
  refine g_iconst (pc := 8) (v := 1) (by decide) C dX8_homeIs_8 ?_
  refine g_iadd (pc := 9) C dX8_homeIs_9 ?_
  refine g_iast (pc := 10) C u1 (by unfold vp_in; decide) dX8_homeIs_10 (fun h2 eh2 => ?_)
  have hD := hD h2 eh2
  refine g_aload_n (pc := 11) rfl 0 rfl C dX8_homeIs_11 ?_
  have u3 : TA Y (r o 49) 10 512 := wt_a hw t0 (by decide) (by decide) rfl
  refine g_getR (pc := 12) C fl_RX8_113 t0 rfl dX8_homeIs_12 ?_
  refine g_bipush (pc := 15) (v := 12) (by decide) C dX8_homeIs_15 ?_
  refine g_iload_n (pc := 17) rfl 1 rfl C dX8_homeIs_17 ?_
  refine g_iadd (pc := 18) C dX8_homeIs_18 ?_
  refine g_aload_n (pc := 19) rfl 0 rfl C dX8_homeIs_19 ?_
  have u4 : TA Y (r o 49) 10 512 := wt_a hw t0 (by decide) (by decide) rfl
  refine g_getR (pc := 20) C fl_RX8_113 t0 rfl dX8_homeIs_20 ?_
  refine g_bipush (pc := 23) (v := 31) (by decide) C dX8_homeIs_23 ?_
  refine g_iald (pc := 25) C u4 (by unfold vp_in; decide) dX8_homeIs_25 ?_
  obtain ⟨hb, hD⟩ := hD
  refine g_iast (pc := 26) C u3 hb dX8_homeIs_26 (fun h5 eh5 => ?_)
  have hD := hD h5 eh5
  exact g_vret (pc := 27) C R dX8_homeIs_27 hD
def D_Mo_eastBy (r : TR) (a0 : Int32) (h : TH) (Q : Int32 → TH → Prop) : Prop :=
  ((¬ a0 = 1 → ((¬ a0 = 3 → Q 0 h) ∧ (a0 = 3 → Q (-1) h))) ∧ (a0 = 1 → Q 1 h))
set_option maxRecDepth 100000 in
set_option maxHeartbeats 4000000 in
theorem M_Mo_eastBy {Y : CG} {r : TR} {l : Launch} {a0 : Int32} {h : TH} {Q : Int32 → TH → Prop} (hD : D_Mo_eastBy r a0 h Q) : Mi Y r l yX8_eastBy cX8_eastBy 1 .int 1 [.int a0] h Q := by
  unfold D_Mo_eastBy at hD
  refine Mi.of RX8 rfl (by decide) (by simp [lg_sl, Value.category]) [(0, .int a0)] rfl (fun X hXl C R => ?_)
  subst hXl
  refine g_wt (fun hw => ?_)
  refine g_iload_n (pc := 0) rfl 0 rfl C dX8_eastBy_0 ?_
  refine g_iconst (pc := 1) (v := 1) (by decide) C dX8_eastBy_1 ?_
  refine g_icmp_ne (pc := 2) 9 C dX8_eastBy_2 (by decide) (fun c1 => ?_) (fun c1 => ?_)
  · have hD := hD.1 c1
    refine g_iload_n (pc := 9) rfl 0 rfl C dX8_eastBy_9 ?_
    refine g_iconst (pc := 10) (v := 3) (by decide) C dX8_eastBy_10 ?_
    refine g_icmp_ne (pc := 11) 18 C dX8_eastBy_11 (by decide) (fun c2 => ?_) (fun c2 => ?_)
    · have hD := hD.1 c2
      refine g_iconst (pc := 18) (v := 0) (by decide) C dX8_eastBy_18 ?_
      exact g_iret (pc := 19) C R dX8_eastBy_19 hD
    · have hD := hD.2 c2
      refine g_iconst (pc := 14) (v := (-1)) (by decide) C dX8_eastBy_14 ?_
      refine g_goto (pc := 15) 19 C dX8_eastBy_15 (by decide) ?_
      exact g_iret (pc := 19) C R dX8_eastBy_19 hD
  · have hD := hD.2 c1
    refine g_iconst (pc := 5) (v := 1) (by decide) C dX8_eastBy_5 ?_
    refine g_goto (pc := 6) 19 C dX8_eastBy_6 (by decide) ?_
    exact g_iret (pc := 19) C R dX8_eastBy_19 hD
def D_Mo_in (r : TR) (a0 : Int32) (a1 : Int32) (a2 : Int32) (h : TH) (Q : Int32 → TH → Prop) : Prop :=
  ((a0 < a1 → Q 0 h) ∧ (¬ a0 < a1 → ((a2 < a0 → Q 0 h) ∧ (¬ a2 < a0 → Q 1 h))))
set_option maxRecDepth 100000 in
set_option maxHeartbeats 4000000 in
theorem M_Mo_in {Y : CG} {r : TR} {l : Launch} {a0 : Int32} {a1 : Int32} {a2 : Int32} {h : TH} {Q : Int32 → TH → Prop} (hD : D_Mo_in r a0 a1 a2 h Q) : Mi Y r l yX8_in cX8_in 3 .boolean 1 [.int a0, .int a1, .int a2] h Q := by
  unfold D_Mo_in at hD
  refine Mi.of RX8 rfl (by decide) (by simp [lg_sl, Value.category]) [(0, .int a0), (1, .int a1), (2, .int a2)] rfl (fun X hXl C R => ?_)
  subst hXl
  refine g_wt (fun hw => ?_)
  refine g_iload_n (pc := 0) rfl 0 rfl C dX8_in_0 ?_
  refine g_iload_n (pc := 1) rfl 1 rfl C dX8_in_1 ?_
  refine g_icmp_lt (pc := 2) 14 C dX8_in_2 (by decide) (fun c1 => ?_) (fun c1 => ?_)
  · have hD := hD.1 c1
    refine g_iconst (pc := 14) (v := 0) (by decide) C dX8_in_14 ?_
    exact g_zret (pc := 15) C R nz_0 dX8_in_15 hD
  · have hD := hD.2 c1
    refine g_iload_n (pc := 5) rfl 0 rfl C dX8_in_5 ?_
    refine g_iload_n (pc := 6) rfl 2 rfl C dX8_in_6 ?_
    refine g_icmp_gt (pc := 7) 14 C dX8_in_7 (by decide) (fun c2 => ?_) (fun c2 => ?_)
    · have hD := hD.1 c2
      refine g_iconst (pc := 14) (v := 0) (by decide) C dX8_in_14 ?_
      exact g_zret (pc := 15) C R nz_0 dX8_in_15 hD
    · have hD := hD.2 c2
      refine g_iconst (pc := 10) (v := 1) (by decide) C dX8_in_10 ?_
      refine g_goto (pc := 11) 15 C dX8_in_11 (by decide) ?_
      exact g_zret (pc := 15) C R nz_1 dX8_in_15 hD
def D_Mo_isCell (r : TR) (o : Nat) (a1 : Int32) (a2 : Int32) (h : TH) (Q : Int32 → TH → Prop) : Prop :=
  ∀ i2 : Int32, i2 = h.1 o 18 → vp_in i2 2 ∧ D_Mo_in r a1 0 ((h.1 (r o 23) i2.toNatClampNeg) - 1) h (fun x4 h3 => ((x4 = 0 → Q 0 h3) ∧ (¬ x4 = 0 → ∀ i7 : Int32, i7 = h3.1 o 18 → vp_in i7 2 ∧ D_Mo_in r a2 0 ((h3.1 (r o 22) i7.toNatClampNeg) - 1) h3 (fun x9 h8 => ((x9 = 0 → Q 0 h8) ∧ (¬ x9 = 0 → Q 1 h8))))))
set_option maxRecDepth 100000 in
set_option maxHeartbeats 4000000 in
theorem M_Mo_isCell {Y : CG} {r : TR} {l : Launch} {o : Nat} {a1 : Int32} {a2 : Int32} {h : TH} {Q : Int32 → TH → Prop} (t0 : TO Y o 8) (hD : D_Mo_isCell r o a1 a2 h Q) : Mi Y r l yX8_isCell cX8_isCell 3 .boolean 2 [.ref o, .int a1, .int a2] h Q := by
  unfold D_Mo_isCell at hD
  refine Mi.of RX8 rfl (by decide) (by simp [lg_sl, Value.category]) [(0, .ref o), (1, .int a1), (2, .int a2)] rfl (fun X hXl C R => ?_)
  subst hXl
  refine g_wt (fun hw => ?_)
  refine g_iload_n (pc := 0) rfl 1 rfl C dX8_isCell_0 ?_
  refine g_iconst (pc := 1) (v := 0) (by decide) C dX8_isCell_1 ?_
  refine g_aload_n (pc := 2) rfl 0 rfl C dX8_isCell_2 ?_
  have u1 : TA Y (r o 23) 10 2 := wt_a hw t0 (by decide) (by decide) rfl
  refine g_getR (pc := 3) C fl_RX8_46 t0 rfl dX8_isCell_3 ?_
  refine g_aload_n (pc := 6) rfl 0 rfl C dX8_isCell_6 ?_
  refine g_getI (pc := 7) C fl_RX8_230 t0 rfl dX8_isCell_7 ?_
  refine g_topi (fun i2 ei2 => ?_)
  have hD := hD i2 ei2
  obtain ⟨hb, hD⟩ := hD
  refine g_iald (pc := 10) C u1 hb dX8_isCell_10 ?_
  refine g_iconst (pc := 11) (v := 1) (by decide) C dX8_isCell_11 ?_
  refine g_isub (pc := 12) C dX8_isCell_12 ?_
  refine g_callSi (pc := 13) (As := [.int a1, .int 0, .int ((h.1 (r o 23) i2.toNatClampNeg) - 1)]) C ms_RX8_303 (M_Mo_in  hD) (by decide) rfl rfl (Nat.le_of_ble_eq_true rfl) dX8_isCell_13 (fun x4 h3 hD => ?_)
  refine g_if_eq (pc := 16) 42 C dX8_isCell_16 (by decide) (fun c5 => ?_) (fun c5 => ?_)
  · have hD := hD.1 c5
    refine g_iconst (pc := 42) (v := 0) (by decide) C dX8_isCell_42 ?_
    exact g_zret (pc := 43) C R nz_0 dX8_isCell_43 hD
  · have hD := hD.2 c5
    refine g_iload_n (pc := 19) rfl 2 rfl C dX8_isCell_19 ?_
    refine g_iconst (pc := 20) (v := 0) (by decide) C dX8_isCell_20 ?_
    refine g_aload_n (pc := 21) rfl 0 rfl C dX8_isCell_21 ?_
    have u6 : TA Y (r o 22) 10 2 := wt_a hw t0 (by decide) (by decide) rfl
    refine g_getR (pc := 22) C fl_RX8_43 t0 rfl dX8_isCell_22 ?_
    refine g_aload_n (pc := 25) rfl 0 rfl C dX8_isCell_25 ?_
    refine g_getI (pc := 26) C fl_RX8_230 t0 rfl dX8_isCell_26 ?_
    refine g_topi (fun i7 ei7 => ?_)
    have hD := hD i7 ei7
    obtain ⟨hb, hD⟩ := hD
    refine g_iald (pc := 29) C u6 hb dX8_isCell_29 ?_
    refine g_iconst (pc := 30) (v := 1) (by decide) C dX8_isCell_30 ?_
    refine g_isub (pc := 31) C dX8_isCell_31 ?_
    refine g_callSi (pc := 32) (As := [.int a2, .int 0, .int ((h3.1 (r o 22) i7.toNatClampNeg) - 1)]) C ms_RX8_303 (M_Mo_in  hD) (by decide) rfl rfl (Nat.le_of_ble_eq_true rfl) dX8_isCell_32 (fun x9 h8 hD => ?_)
    refine g_if_eq (pc := 35) 42 C dX8_isCell_35 (by decide) (fun c10 => ?_) (fun c10 => ?_)
    · have hD := hD.1 c10
      refine g_iconst (pc := 42) (v := 0) (by decide) C dX8_isCell_42 ?_
      exact g_zret (pc := 43) C R nz_0 dX8_isCell_43 hD
    · have hD := hD.2 c10
      refine g_iconst (pc := 38) (v := 1) (by decide) C dX8_isCell_38 ?_
      refine g_goto (pc := 39) 43 C dX8_isCell_39 (by decide) ?_
      exact g_zret (pc := 43) C R nz_1 dX8_isCell_43 hD
def D_Mo_isSailing (r : TR) (o : Nat) (a1 : Int32) (h : TH) (Q : Int32 → TH → Prop) : Prop :=
  ((a1 = (h.1 o 51) → Q 0 h) ∧ (¬ a1 = (h.1 o 51) → ∀ i3 : Int32, i3 = 12 + a1 → vp_in i3 512 ∧ ((¬ (h.1 (r o 49) i3.toNatClampNeg) = 0 → Q 0 h) ∧ ((h.1 (r o 49) i3.toNatClampNeg) = 0 → ∀ i6 : Int32, i6 = 18 + a1 → vp_in i6 512 ∧ ((¬ (h.1 (r o 49) i6.toNatClampNeg) = 0 → Q 0 h) ∧ ((h.1 (r o 49) i6.toNatClampNeg) = 0 → Q 1 h))))))
set_option maxRecDepth 100000 in
set_option maxHeartbeats 4000000 in
theorem M_Mo_isSailing {Y : CG} {r : TR} {l : Launch} {o : Nat} {a1 : Int32} {h : TH} {Q : Int32 → TH → Prop} (t0 : TO Y o 8) (hD : D_Mo_isSailing r o a1 h Q) : Mi Y r l yX8_isSailing cX8_isSailing 2 .boolean 1 [.ref o, .int a1] h Q := by
  unfold D_Mo_isSailing at hD
  refine Mi.of RX8 rfl (by decide) (by simp [lg_sl, Value.category]) [(0, .ref o), (1, .int a1)] rfl (fun X hXl C R => ?_)
  subst hXl
  refine g_wt (fun hw => ?_)
  refine g_iload_n (pc := 0) rfl 1 rfl C dX8_isSailing_0 ?_
  refine g_aload_n (pc := 1) rfl 0 rfl C dX8_isSailing_1 ?_
  refine g_getI (pc := 2) C fl_RX8_310 t0 rfl dX8_isSailing_2 ?_
  refine g_icmp_eq (pc := 5) 36 C dX8_isSailing_5 (by decide) (fun c1 => ?_) (fun c1 => ?_)
  · have hD := hD.1 c1
    refine g_iconst (pc := 36) (v := 0) (by decide) C dX8_isSailing_36 ?_
    exact g_zret (pc := 37) C R nz_0 dX8_isSailing_37 hD
  · have hD := hD.2 c1
    refine g_aload_n (pc := 8) rfl 0 rfl C dX8_isSailing_8 ?_
    have u2 : TA Y (r o 49) 10 512 := wt_a hw t0 (by decide) (by decide) rfl
    refine g_getR (pc := 9) C fl_RX8_113 t0 rfl dX8_isSailing_9 ?_
    refine g_bipush (pc := 12) (v := 12) (by decide) C dX8_isSailing_12 ?_
    refine g_iload_n (pc := 14) rfl 1 rfl C dX8_isSailing_14 ?_
    refine g_iadd (pc := 15) C dX8_isSailing_15 ?_
    refine g_topi (fun i3 ei3 => ?_)
    have hD := hD i3 ei3
    obtain ⟨hb, hD⟩ := hD
    refine g_iald (pc := 16) C u2 hb dX8_isSailing_16 ?_
    refine g_if_ne (pc := 17) 36 C dX8_isSailing_17 (by decide) (fun c4 => ?_) (fun c4 => ?_)
    · have hD := hD.1 c4
      refine g_iconst (pc := 36) (v := 0) (by decide) C dX8_isSailing_36 ?_
      exact g_zret (pc := 37) C R nz_0 dX8_isSailing_37 hD
    · have hD := hD.2 c4
      refine g_aload_n (pc := 20) rfl 0 rfl C dX8_isSailing_20 ?_
      have u5 : TA Y (r o 49) 10 512 := wt_a hw t0 (by decide) (by decide) rfl
      refine g_getR (pc := 21) C fl_RX8_113 t0 rfl dX8_isSailing_21 ?_
      refine g_bipush (pc := 24) (v := 18) (by decide) C dX8_isSailing_24 ?_
      refine g_iload_n (pc := 26) rfl 1 rfl C dX8_isSailing_26 ?_
      refine g_iadd (pc := 27) C dX8_isSailing_27 ?_
      refine g_topi (fun i6 ei6 => ?_)
      have hD := hD i6 ei6
      obtain ⟨hb, hD⟩ := hD
      refine g_iald (pc := 28) C u5 hb dX8_isSailing_28 ?_
      refine g_if_ne (pc := 29) 36 C dX8_isSailing_29 (by decide) (fun c7 => ?_) (fun c7 => ?_)
      · have hD := hD.1 c7
        refine g_iconst (pc := 36) (v := 0) (by decide) C dX8_isSailing_36 ?_
        exact g_zret (pc := 37) C R nz_0 dX8_isSailing_37 hD
      · have hD := hD.2 c7
        refine g_iconst (pc := 32) (v := 1) (by decide) C dX8_isSailing_32 ?_
        refine g_goto (pc := 33) 37 C dX8_isSailing_33 (by decide) ?_
        exact g_zret (pc := 37) C R nz_1 dX8_isSailing_37 hD
def DJ_Mo_termOf_104 (r : TR) (l0 : Nat) (l2 : Int32) (l3 : Int32) (l4 : Int32) (l5 : Int32) (l6 : Int32) (l7 : Int32) (h : TH) (K5 : Int32 → Int32 → TH → Prop) (K165 : TH → Prop) (Q : Int32 → TH → Prop) : Prop :=
  ((¬ l5 = 2 → ((¬ l5 = 3 → ((¬ l5 = 4 → ¬ l7 = 0 ∧ vp_in (l3 - 1) 400 ∧ ∀ h18, h18 = pI h (r l0 46) ((l3 - 1).toNatClampNeg) (l6 / l7) → ∀ x19 : Int32, x19 = l4 + 1 → K5 l3 x19 h18) ∧ (l5 = 4 → vp_in (l3 - 1) 400 ∧ ∀ h20, h20 = pI h (r l0 46) ((l3 - 1).toNatClampNeg) (l6 * l7) → ∀ x21 : Int32, x21 = l4 + 1 → K5 l3 x21 h20))) ∧ (l5 = 3 → vp_in (l3 - 1) 400 ∧ ∀ h22, h22 = pI h (r l0 46) ((l3 - 1).toNatClampNeg) (l6 - l7) → ∀ x23 : Int32, x23 = l4 + 1 → K5 l3 x23 h22))) ∧ (l5 = 2 → vp_in (l3 - 1) 400 ∧ ∀ h24, h24 = pI h (r l0 46) ((l3 - 1).toNatClampNeg) (l6 + l7) → ∀ x25 : Int32, x25 = l4 + 1 → K5 l3 x25 h24))
set_option maxRecDepth 100000 in
set_option maxHeartbeats 4000000 in
theorem WJ_Mo_termOf_104 {Y : CG} {X : CX} {r : TR} {l0 : Nat} {l2 : Int32} {l3 : Int32} {l4 : Int32} {l5 : Int32} {l6 : Int32} {l7 : Int32} {h : TH} {K5 : Int32 → Int32 → TH → Prop} {K165 : TH → Prop} {Q : Int32 → TH → Prop} (C : Gd Y X cX8_termOf 8 RX8 1) (R : Ri Y r X .int Q) (t0 : TO Y l0 8) (hK5 : ∀ (k3 : Int32) (k4 : Int32) (hh : TH), K5 k3 k4 hh → G Y X 8 5 [(0, .ref l0), (2, .int l2), (3, .int k3), (4, .int k4)] [] r hh) (hK165 : ∀ (hh : TH), K165 hh → G Y X 8 165 [(0, .ref l0)] [] r hh) (hD : DJ_Mo_termOf_104 r l0 l2 l3 l4 l5 l6 l7 h K5 K165 Q) : G Y X 8 104 [(0, .ref l0), (2, .int l2), (3, .int l3), (4, .int l4), (5, .int l5), (6, .int l6), (7, .int l7)] [] r h := by
  unfold DJ_Mo_termOf_104 at hD
  refine g_wt (fun hw => ?_)
  refine g_aload_n (pc := 104) rfl 0 rfl C dX8_termOf_104 ?_
  have u14 : TA Y (r l0 46) 10 400 := wt_a hw t0 (by decide) (by decide) rfl
  refine g_getR (pc := 105) C fl_RX8_107 t0 rfl dX8_termOf_105 ?_
  refine g_iload_n (pc := 108) rfl 2 rfl C dX8_termOf_108 ?_
  refine g_iconst (pc := 109) (v := 1) (by decide) C dX8_termOf_109 ?_
  refine g_isub (pc := 110) C dX8_termOf_110 ?_
  refine g_iload (pc := 111) 4 rfl C dX8_termOf_111 ?_
  refine g_iconst (pc := 113) (v := 2) (by decide) C dX8_termOf_113 ?_
  refine g_icmp_ne (pc := 114) 125 C dX8_termOf_114 (by decide) (fun c15 => ?_) (fun c15 => ?_)
  · have hD := hD.1 c15
    refine g_iload (pc := 125) 4 rfl C dX8_termOf_125 ?_
    refine g_iconst (pc := 127) (v := 3) (by decide) C dX8_termOf_127 ?_
    refine g_icmp_ne (pc := 128) 139 C dX8_termOf_128 (by decide) (fun c16 => ?_) (fun c16 => ?_)
    · have hD := hD.1 c16
      refine g_iload (pc := 139) 4 rfl C dX8_termOf_139 ?_
      refine g_iconst (pc := 141) (v := 4) (by decide) C dX8_termOf_141 ?_
      refine g_icmp_ne (pc := 142) 153 C dX8_termOf_142 (by decide) (fun c17 => ?_) (fun c17 => ?_)
      · have hD := hD.1 c17
        refine g_iload (pc := 153) 5 rfl C dX8_termOf_153 ?_
        refine g_iload (pc := 155) 6 rfl C dX8_termOf_155 ?_
        obtain ⟨hz, hD⟩ := hD
        refine g_idiv (pc := 157) hz C dX8_termOf_157 ?_
        obtain ⟨hb, hD⟩ := hD
        refine g_iast (pc := 158) C u14 hb dX8_termOf_158 (fun h18 eh18 => ?_)
        have hD := hD h18 eh18
        refine g_iinc (pc := 159) (q := 3) (c := 1) (fun x19 => [(4, .int x19), (0, .ref l0), (2, .int l2), (3, .int l3), (5, .int l5), (6, .int l6), (7, .int l7)]) C dX8_termOf_159 rfl (by decide) (by decide) rfl (fun x19 ex19 => ?_)
        have hD := hD x19 ex19
        refine g_goto (pc := 162) 5 C dX8_termOf_162 (by decide) ?_
        refine g_sub [1, 2, 3, 0] rfl ?_
        exact hK5 l3 x19 h18 hD
      · have hD := hD.2 c17
        refine g_iload (pc := 145) 5 rfl C dX8_termOf_145 ?_
        refine g_iload (pc := 147) 6 rfl C dX8_termOf_147 ?_
        refine g_imul (pc := 149) C dX8_termOf_149 ?_
        refine g_goto (pc := 150) 158 C dX8_termOf_150 (by decide) ?_
        obtain ⟨hb, hD⟩ := hD
        refine g_iast (pc := 158) C u14 hb dX8_termOf_158 (fun h20 eh20 => ?_)
        have hD := hD h20 eh20
        refine g_iinc (pc := 159) (q := 3) (c := 1) (fun x21 => [(4, .int x21), (0, .ref l0), (2, .int l2), (3, .int l3), (5, .int l5), (6, .int l6), (7, .int l7)]) C dX8_termOf_159 rfl (by decide) (by decide) rfl (fun x21 ex21 => ?_)
        have hD := hD x21 ex21
        refine g_goto (pc := 162) 5 C dX8_termOf_162 (by decide) ?_
        refine g_sub [1, 2, 3, 0] rfl ?_
        exact hK5 l3 x21 h20 hD
    · have hD := hD.2 c16
      refine g_iload (pc := 131) 5 rfl C dX8_termOf_131 ?_
      refine g_iload (pc := 133) 6 rfl C dX8_termOf_133 ?_
      refine g_isub (pc := 135) C dX8_termOf_135 ?_
      refine g_goto (pc := 136) 158 C dX8_termOf_136 (by decide) ?_
      obtain ⟨hb, hD⟩ := hD
      refine g_iast (pc := 158) C u14 hb dX8_termOf_158 (fun h22 eh22 => ?_)
      have hD := hD h22 eh22
      refine g_iinc (pc := 159) (q := 3) (c := 1) (fun x23 => [(4, .int x23), (0, .ref l0), (2, .int l2), (3, .int l3), (5, .int l5), (6, .int l6), (7, .int l7)]) C dX8_termOf_159 rfl (by decide) (by decide) rfl (fun x23 ex23 => ?_)
      have hD := hD x23 ex23
      refine g_goto (pc := 162) 5 C dX8_termOf_162 (by decide) ?_
      refine g_sub [1, 2, 3, 0] rfl ?_
      exact hK5 l3 x23 h22 hD
  · have hD := hD.2 c15
    refine g_iload (pc := 117) 5 rfl C dX8_termOf_117 ?_
    refine g_iload (pc := 119) 6 rfl C dX8_termOf_119 ?_
    refine g_iadd (pc := 121) C dX8_termOf_121 ?_
    refine g_goto (pc := 122) 158 C dX8_termOf_122 (by decide) ?_
    obtain ⟨hb, hD⟩ := hD
    refine g_iast (pc := 158) C u14 hb dX8_termOf_158 (fun h24 eh24 => ?_)
    have hD := hD h24 eh24
    refine g_iinc (pc := 159) (q := 3) (c := 1) (fun x25 => [(4, .int x25), (0, .ref l0), (2, .int l2), (3, .int l3), (5, .int l5), (6, .int l6), (7, .int l7)]) C dX8_termOf_159 rfl (by decide) (by decide) rfl (fun x25 ex25 => ?_)
    have hD := hD x25 ex25
    refine g_goto (pc := 162) 5 C dX8_termOf_162 (by decide) ?_
    refine g_sub [1, 2, 3, 0] rfl ?_
    exact hK5 l3 x25 h24 hD
def DB_Mo_termOf_5 (r : TR) (l0 : Nat) (l2 : Int32) (l3 : Int32) (l4 : Int32) (h : TH) (K5 : Int32 → Int32 → TH → Prop) (K165 : TH → Prop) (Q : Int32 → TH → Prop) : Prop :=
  ((l2 ≤ l4 → K165 h) ∧ (¬ l2 ≤ l4 → vp_in l4 840 ∧ ∀ x5 : Int32, x5 = h.1 (r l0 41) l4.toNatClampNeg → ((2 ≤ x5 → ∀ x7 : Int32, x7 = l3 + (-1) → ∀ i9 : Int32, i9 = x7 - 1 → vp_in i9 400 ∧ ∀ x10 : Int32, x10 = h.1 (r l0 46) i9.toNatClampNeg → vp_in x7 400 ∧ ∀ x12 : Int32, x12 = h.1 (r l0 46) x7.toNatClampNeg → ((¬ x5 = 5 → DJ_Mo_termOf_104 r l0 l2 x7 l4 x5 x10 x12 h (K5) (K165) Q) ∧ (x5 = 5 → ((¬ x12 = 0 → DJ_Mo_termOf_104 r l0 l2 x7 l4 x5 x10 x12 h (K5) (K165) Q) ∧ (x12 = 0 → ∀ h27, h27 = pI h l0 47 1 → Q 0 h27))))) ∧ (¬ 2 ≤ x5 → ((¬ x5 = 0 → vp_in l4 840 ∧ ∀ i32 : Int32, i32 = h.1 (r l0 42) l4.toNatClampNeg → vp_in i32 9 ∧ vp_in l3 400 ∧ ∀ h33, h33 = pI h (r l0 46) l3.toNatClampNeg (h.1 (r l0 45) i32.toNatClampNeg) → ∀ x34 : Int32, x34 = l3 + 1 → ∀ x35 : Int32, x35 = l4 + 1 → K5 x34 x35 h33) ∧ (x5 = 0 → vp_in l4 840 ∧ vp_in l3 400 ∧ ∀ h37, h37 = pI h (r l0 46) l3.toNatClampNeg (h.1 (r l0 42) l4.toNatClampNeg) → ∀ x38 : Int32, x38 = l3 + 1 → ∀ x39 : Int32, x39 = l4 + 1 → K5 x38 x39 h37))))))
set_option maxRecDepth 100000 in
set_option maxHeartbeats 4000000 in
theorem WB_Mo_termOf_5 {Y : CG} {X : CX} {r : TR} {l0 : Nat} {l2 : Int32} {l3 : Int32} {l4 : Int32} {h : TH} {K5 : Int32 → Int32 → TH → Prop} {K165 : TH → Prop} {Q : Int32 → TH → Prop} (C : Gd Y X cX8_termOf 8 RX8 1) (R : Ri Y r X .int Q) (t0 : TO Y l0 8) (hK5 : ∀ (k3 : Int32) (k4 : Int32) (hh : TH), K5 k3 k4 hh → G Y X 8 5 [(0, .ref l0), (2, .int l2), (3, .int k3), (4, .int k4)] [] r hh) (hK165 : ∀ (hh : TH), K165 hh → G Y X 8 165 [(0, .ref l0)] [] r hh) (hD : DB_Mo_termOf_5 r l0 l2 l3 l4 h K5 K165 Q) : G Y X 8 5 [(0, .ref l0), (2, .int l2), (3, .int l3), (4, .int l4)] [] r h := by
  unfold DB_Mo_termOf_5 at hD
  refine g_wt (fun hw => ?_)
  refine g_iload (pc := 5) 3 rfl C dX8_termOf_5 ?_
  refine g_iload_n (pc := 7) rfl 1 rfl C dX8_termOf_7 ?_
  refine g_icmp_ge (pc := 8) 165 C dX8_termOf_8 (by decide) (fun c3 => ?_) (fun c3 => ?_)
  · have hD := hD.1 c3
    refine g_sub [0] rfl ?_
    exact hK165 h hD
  · have hD := hD.2 c3
    refine g_aload_n (pc := 11) rfl 0 rfl C dX8_termOf_11 ?_
    have u4 : TA Y (r l0 41) 10 840 := wt_a hw t0 (by decide) (by decide) rfl
    refine g_getR (pc := 12) C fl_RX8_95 t0 rfl dX8_termOf_12 ?_
    refine g_iload (pc := 15) 3 rfl C dX8_termOf_15 ?_
    obtain ⟨hb, hD⟩ := hD
    refine g_iald (pc := 17) C u4 hb dX8_termOf_17 ?_
    refine g_istore (pc := 18) (fun x5 => [(5, .int x5), (0, .ref l0), (2, .int l2), (3, .int l3), (4, .int l4)]) C dX8_termOf_18 (by decide) rfl (fun x5 ex5 => ?_)
    have hD := hD x5 ex5
    refine g_iload (pc := 20) 0 rfl C dX8_termOf_20 ?_
    refine g_iconst (pc := 22) (v := 2) (by decide) C dX8_termOf_22 ?_
    refine g_icmp_ge (pc := 23) 65 C dX8_termOf_23 (by decide) (fun c6 => ?_) (fun c6 => ?_)
    · have hD := hD.1 c6
      refine g_iinc (pc := 65) (q := 3) (c := (-1)) (fun x7 => [(3, .int x7), (5, .int x5), (0, .ref l0), (2, .int l2), (4, .int l4)]) C dX8_termOf_65 rfl (by decide) (by decide) rfl (fun x7 ex7 => ?_)
      have hD := hD x7 ex7
      refine g_aload_n (pc := 68) rfl 2 rfl C dX8_termOf_68 ?_
      have u8 : TA Y (r l0 46) 10 400 := wt_a hw t0 (by decide) (by decide) rfl
      refine g_getR (pc := 69) C fl_RX8_107 t0 rfl dX8_termOf_69 ?_
      refine g_iload_n (pc := 72) rfl 0 rfl C dX8_termOf_72 ?_
      refine g_iconst (pc := 73) (v := 1) (by decide) C dX8_termOf_73 ?_
      refine g_isub (pc := 74) C dX8_termOf_74 ?_
      refine g_topi (fun i9 ei9 => ?_)
      have hD := hD i9 ei9
      obtain ⟨hb, hD⟩ := hD
      refine g_iald (pc := 75) C u8 hb dX8_termOf_75 ?_
      refine g_istore (pc := 76) (fun x10 => [(6, .int x10), (3, .int x7), (5, .int x5), (0, .ref l0), (2, .int l2), (4, .int l4)]) C dX8_termOf_76 (by decide) rfl (fun x10 ex10 => ?_)
      have hD := hD x10 ex10
      refine g_aload_n (pc := 78) rfl 3 rfl C dX8_termOf_78 ?_
      have u11 : TA Y (r l0 46) 10 400 := wt_a hw t0 (by decide) (by decide) rfl
      refine g_getR (pc := 79) C fl_RX8_107 t0 rfl dX8_termOf_79 ?_
      refine g_iload_n (pc := 82) rfl 1 rfl C dX8_termOf_82 ?_
      obtain ⟨hb, hD⟩ := hD
      refine g_iald (pc := 83) C u11 hb dX8_termOf_83 ?_
      refine g_istore (pc := 84) (fun x12 => [(7, .int x12), (6, .int x10), (3, .int x7), (5, .int x5), (0, .ref l0), (2, .int l2), (4, .int l4)]) C dX8_termOf_84 (by decide) rfl (fun x12 ex12 => ?_)
      have hD := hD x12 ex12
      refine g_iload (pc := 86) 3 rfl C dX8_termOf_86 ?_
      refine g_iconst (pc := 88) (v := 5) (by decide) C dX8_termOf_88 ?_
      refine g_icmp_ne (pc := 89) 104 C dX8_termOf_89 (by decide) (fun c13 => ?_) (fun c13 => ?_)
      · have hD := hD.1 c13
        refine g_sub [4, 5, 2, 6, 3, 1, 0] rfl ?_
        exact WJ_Mo_termOf_104 C R t0 (hK5) (hK165) hD
      · have hD := hD.2 c13
        refine g_iload (pc := 92) 0 rfl C dX8_termOf_92 ?_
        refine g_if_ne (pc := 94) 104 C dX8_termOf_94 (by decide) (fun c26 => ?_) (fun c26 => ?_)
        · have hD := hD.1 c26
          refine g_sub [4, 5, 2, 6, 3, 1, 0] rfl ?_
          exact WJ_Mo_termOf_104 C R t0 (hK5) (hK165) hD
        · have hD := hD.2 c26
          refine g_aload_n (pc := 97) rfl 4 rfl C dX8_termOf_97 ?_
          refine g_iconst (pc := 98) (v := 1) (by decide) C dX8_termOf_98 ?_
          refine g_putI (pc := 99) C fl_RX8_299 t0 rfl (by decide) (by decide) dX8_termOf_99 (fun h27 eh27 => ?_)
          have hD := hD h27 eh27
          refine g_iconst (pc := 102) (v := 0) (by decide) C dX8_termOf_102 ?_
          exact g_iret (pc := 103) C R dX8_termOf_103 hD
    · have hD := hD.2 c6
      refine g_aload_n (pc := 26) rfl 1 rfl C dX8_termOf_26 ?_
      have u28 : TA Y (r l0 46) 10 400 := wt_a hw t0 (by decide) (by decide) rfl
      refine g_getR (pc := 27) C fl_RX8_107 t0 rfl dX8_termOf_27 ?_
      refine g_iload_n (pc := 30) rfl 3 rfl C dX8_termOf_30 ?_
      refine g_iload (pc := 31) 0 rfl C dX8_termOf_31 ?_
      refine g_if_ne (pc := 33) 46 C dX8_termOf_33 (by decide) (fun c29 => ?_) (fun c29 => ?_)
      · have hD := hD.1 c29
        refine g_aload_n (pc := 46) rfl 1 rfl C dX8_termOf_46 ?_
        have u30 : TA Y (r l0 45) 10 9 := wt_a hw t0 (by decide) (by decide) rfl
        refine g_getR (pc := 47) C fl_RX8_104 t0 rfl dX8_termOf_47 ?_
        refine g_aload_n (pc := 50) rfl 1 rfl C dX8_termOf_50 ?_
        have u31 : TA Y (r l0 42) 10 840 := wt_a hw t0 (by decide) (by decide) rfl
        refine g_getR (pc := 51) C fl_RX8_98 t0 rfl dX8_termOf_51 ?_
        refine g_iload (pc := 54) 4 rfl C dX8_termOf_54 ?_
        obtain ⟨hb, hD⟩ := hD
        refine g_iald (pc := 56) C u31 hb dX8_termOf_56 ?_
        refine g_topi (fun i32 ei32 => ?_)
        have hD := hD i32 ei32
        obtain ⟨hb, hD⟩ := hD
        refine g_iald (pc := 57) C u30 hb dX8_termOf_57 ?_
        obtain ⟨hb, hD⟩ := hD
        refine g_iast (pc := 58) C u28 hb dX8_termOf_58 (fun h33 eh33 => ?_)
        have hD := hD h33 eh33
        refine g_iinc (pc := 59) (q := 3) (c := 1) (fun x34 => [(3, .int x34), (5, .int x5), (0, .ref l0), (2, .int l2), (4, .int l4)]) C dX8_termOf_59 rfl (by decide) (by decide) rfl (fun x34 ex34 => ?_)
        have hD := hD x34 ex34
        refine g_goto (pc := 62) 159 C dX8_termOf_62 (by decide) ?_
        refine g_iinc (pc := 159) (q := 4) (c := 1) (fun x35 => [(4, .int x35), (3, .int x34), (5, .int x5), (0, .ref l0), (2, .int l2)]) C dX8_termOf_159 rfl (by decide) (by decide) rfl (fun x35 ex35 => ?_)
        have hD := hD x35 ex35
        refine g_goto (pc := 162) 5 C dX8_termOf_162 (by decide) ?_
        refine g_sub [3, 4, 1, 0] rfl ?_
        exact hK5 x34 x35 h33 hD
      · have hD := hD.2 c29
        refine g_aload_n (pc := 36) rfl 1 rfl C dX8_termOf_36 ?_
        have u36 : TA Y (r l0 42) 10 840 := wt_a hw t0 (by decide) (by decide) rfl
        refine g_getR (pc := 37) C fl_RX8_98 t0 rfl dX8_termOf_37 ?_
        refine g_iload (pc := 40) 4 rfl C dX8_termOf_40 ?_
        obtain ⟨hb, hD⟩ := hD
        refine g_iald (pc := 42) C u36 hb dX8_termOf_42 ?_
        refine g_goto (pc := 43) 58 C dX8_termOf_43 (by decide) ?_
        obtain ⟨hb, hD⟩ := hD
        refine g_iast (pc := 58) C u28 hb dX8_termOf_58 (fun h37 eh37 => ?_)
        have hD := hD h37 eh37
        refine g_iinc (pc := 59) (q := 3) (c := 1) (fun x38 => [(3, .int x38), (5, .int x5), (0, .ref l0), (2, .int l2), (4, .int l4)]) C dX8_termOf_59 rfl (by decide) (by decide) rfl (fun x38 ex38 => ?_)
        have hD := hD x38 ex38
        refine g_goto (pc := 62) 159 C dX8_termOf_62 (by decide) ?_
        refine g_iinc (pc := 159) (q := 4) (c := 1) (fun x39 => [(4, .int x39), (3, .int x38), (5, .int x5), (0, .ref l0), (2, .int l2)]) C dX8_termOf_159 rfl (by decide) (by decide) rfl (fun x39 ex39 => ?_)
        have hD := hD x39 ex39
        refine g_goto (pc := 162) 5 C dX8_termOf_162 (by decide) ?_
        refine g_sub [3, 4, 1, 0] rfl ?_
        exact hK5 x38 x39 h37 hD
def D_Mo_termOf (r : TR) (o : Nat) (a1 : Int32) (a2 : Int32) (h : TH) (Q : Int32 → TH → Prop) : Prop :=
  ∃ n, lp (fun (K : Int32 × Int32 × TH → Prop) (s : Int32 × Int32 × TH) => DB_Mo_termOf_5 r o a2 s.1 s.2.1 s.2.2 (fun y40 y41 h42 => K (y40, y41, h42)) (fun h43 => Q (h43.1 (r o 46) ((0 : Int32).toNatClampNeg)) h43) Q) n (0, a1, h)
set_option maxRecDepth 100000 in
set_option maxHeartbeats 4000000 in
theorem M_Mo_termOf {Y : CG} {r : TR} {l : Launch} {o : Nat} {a1 : Int32} {a2 : Int32} {h : TH} {Q : Int32 → TH → Prop} (t0 : TO Y o 8) (hD : D_Mo_termOf r o a1 a2 h Q) : Mi Y r l yX8_termOf cX8_termOf 8 .int 1 [.ref o, .int a1, .int a2] h Q := by
  unfold D_Mo_termOf at hD
  refine Mi.of RX8 rfl (by decide) (by simp [lg_sl, Value.category]) [(0, .ref o), (1, .int a1), (2, .int a2)] rfl (fun X hXl C R => ?_)
  subst hXl
  refine g_wt (fun hw => ?_)
  refine g_iconst (pc := 0) (v := 0) (by decide) C dX8_termOf_0 ?_
  refine g_istore_n (pc := 1) (fun _ => [(3, .int 0), (0, .ref o), (1, .int a1), (2, .int a2)]) C dX8_termOf_1 rfl (by decide) rfl (fun _ _ => ?_)
  refine g_iload_n (pc := 2) rfl 2 rfl C dX8_termOf_2 ?_
  refine g_istore (pc := 3) (fun _ => [(4, .int a1), (3, .int 0), (0, .ref o), (1, .int a1), (2, .int a2)]) C dX8_termOf_3 (by decide) rfl (fun _ _ => ?_)
  obtain ⟨n, hD⟩ := hD
  refine g_sub [2, 4, 1, 0] rfl ?_
  refine lp_run (fun s : Int32 × Int32 × TH => G Y X 8 5 [(0, .ref o), (2, .int a2), (3, .int s.1), (4, .int s.2.1)] [] r s.2.2) (fun K s hB hK => ?_) n (0, a1, h) hD
  refine WB_Mo_termOf_5 C R t0 (fun y40 y41 h42 hk => hK _ hk) (fun h43 hD => ?_) hB
  · refine g_aload_n (pc := 165) rfl 0 rfl C dX8_termOf_165 ?_
    have u44 : TA Y (r o 46) 10 400 := wt_a hw t0 (by decide) (by decide) rfl
    refine g_getR (pc := 166) C fl_RX8_107 t0 rfl dX8_termOf_166 ?_
    refine g_iconst (pc := 169) (v := 0) (by decide) C dX8_termOf_169 ?_
    refine g_iald (pc := 170) C u44 (by unfold vp_in; decide) dX8_termOf_170 ?_
    exact g_iret (pc := 171) C R dX8_termOf_171 hD
def DJ_Mo_asks_119 (r : TR) (l0 : Nat) (l4 : Int32) (h : TH) (Q : Int32 → TH → Prop) : Prop :=
  vp_in l4 260 ∧ vp_in l4 260 ∧ D_Mo_termOf r l0 (h.1 (r l0 38) l4.toNatClampNeg) (h.1 (r l0 39) l4.toNatClampNeg) h (fun x15 h14 => (((h14.1 l0 47) = 0 → Q x15 h14) ∧ (¬ (h14.1 l0 47) = 0 → Q 0 h14)))
set_option maxRecDepth 100000 in
set_option maxHeartbeats 4000000 in
theorem WJ_Mo_asks_119 {Y : CG} {X : CX} {r : TR} {l0 : Nat} {l4 : Int32} {h : TH} {Q : Int32 → TH → Prop} (C : Gd Y X cX8_asks 7 RX8 2) (R : Ri Y r X .int Q) (t0 : TO Y l0 8) (hD : DJ_Mo_asks_119 r l0 l4 h  Q) : G Y X 7 119 [(0, .ref l0), (4, .int l4)] [] r h := by
  unfold DJ_Mo_asks_119 at hD
  refine g_wt (fun hw => ?_)
  refine g_aload_n (pc := 119) rfl 0 rfl C dX8_asks_119 ?_
  refine g_aload_n (pc := 120) rfl 0 rfl C dX8_asks_120 ?_
  have u12 : TA Y (r l0 38) 10 260 := wt_a hw t0 (by decide) (by decide) rfl
  refine g_getR (pc := 121) C fl_RX8_89 t0 rfl dX8_asks_121 ?_
  refine g_iload (pc := 124) 1 rfl C dX8_asks_124 ?_
  obtain ⟨hb, hD⟩ := hD
  refine g_iald (pc := 126) C u12 hb dX8_asks_126 ?_
  refine g_aload_n (pc := 127) rfl 0 rfl C dX8_asks_127 ?_
  have u13 : TA Y (r l0 39) 10 260 := wt_a hw t0 (by decide) (by decide) rfl
  refine g_getR (pc := 128) C fl_RX8_92 t0 rfl dX8_asks_128 ?_
  refine g_iload (pc := 131) 1 rfl C dX8_asks_131 ?_
  obtain ⟨hb, hD⟩ := hD
  refine g_iald (pc := 133) C u13 hb dX8_asks_133 ?_
  refine g_callVi (pc := 134) (As := [.int (h.1 (r l0 38) l4.toNatClampNeg), .int (h.1 (r l0 39) l4.toNatClampNeg)]) C mv_RX8_335 (M_Mo_termOf t0 hD) t0 (by decide) rfl rfl (Nat.le_of_ble_eq_true rfl) dX8_asks_134 (fun x15 h14 hD => ?_)
  refine g_istore (pc := 137) (fun _ => [(5, .int x15), (0, .ref l0), (4, .int l4)]) C dX8_asks_137 (by decide) rfl (fun _ _ => ?_)
  refine g_aload_n (pc := 139) rfl 1 rfl C dX8_asks_139 ?_
  refine g_getI (pc := 140) C fl_RX8_299 t0 rfl dX8_asks_140 ?_
  refine g_if_eq (pc := 143) 150 C dX8_asks_143 (by decide) (fun c17 => ?_) (fun c17 => ?_)
  · have hD := hD.1 c17
    refine g_iload (pc := 150) 0 rfl C dX8_asks_150 ?_
    exact g_iret (pc := 152) C R dX8_asks_152 hD
  · have hD := hD.2 c17
    refine g_iconst (pc := 146) (v := 0) (by decide) C dX8_asks_146 ?_
    refine g_goto (pc := 147) 152 C dX8_asks_147 (by decide) ?_
    exact g_iret (pc := 152) C R dX8_asks_152 hD
def DB_Mo_asks_39 (r : TR) (l0 : Nat) (l3 : Int32) (l4 : Int32) (h : TH) (K39 : Int32 → TH → Prop) (K159 : TH → Prop) (Q : Int32 → TH → Prop) : Prop :=
  vp_in l3 6 ∧ (((h.1 (r l0 33) l3.toNatClampNeg) ≤ l4 → K159 h) ∧ (¬ (h.1 (r l0 33) l3.toNatClampNeg) ≤ l4 → vp_in l4 260 ∧ (((h.1 (r l0 35) l4.toNatClampNeg) = 0 → DJ_Mo_asks_119 r l0 l4 h Q) ∧ (¬ (h.1 (r l0 35) l4.toNatClampNeg) = 0 → vp_in l4 260 ∧ vp_in l4 260 ∧ D_Mo_termOf r l0 (h.1 (r l0 36) l4.toNatClampNeg) (h.1 (r l0 37) l4.toNatClampNeg) h (fun x21 h20 => vp_in l4 260 ∧ vp_in l4 260 ∧ D_Mo_termOf r l0 (h20.1 (r l0 37) l4.toNatClampNeg) (h20.1 (r l0 38) l4.toNatClampNeg) h20 (fun x26 h25 => (((h25.1 l0 47) = 0 → ((x21 < x26 → DJ_Mo_asks_119 r l0 l4 h25 Q) ∧ (¬ x21 < x26 → ∀ x30 : Int32, x30 = l4 + 1 → K39 x30 h25))) ∧ (¬ (h25.1 l0 47) = 0 → Q 0 h25))))))))
set_option maxRecDepth 100000 in
set_option maxHeartbeats 4000000 in
theorem WB_Mo_asks_39 {Y : CG} {X : CX} {r : TR} {l0 : Nat} {l3 : Int32} {l4 : Int32} {h : TH} {K39 : Int32 → TH → Prop} {K159 : TH → Prop} {Q : Int32 → TH → Prop} (C : Gd Y X cX8_asks 7 RX8 2) (R : Ri Y r X .int Q) (t0 : TO Y l0 8) (hK39 : ∀ (k4 : Int32) (hh : TH), K39 k4 hh → G Y X 7 39 [(0, .ref l0), (3, .int l3), (4, .int k4)] [] r hh) (hK159 : ∀ (hh : TH), K159 hh → G Y X 7 159 [] [] r hh) (hD : DB_Mo_asks_39 r l0 l3 l4 h K39 K159 Q) : G Y X 7 39 [(0, .ref l0), (3, .int l3), (4, .int l4)] [] r h := by
  unfold DB_Mo_asks_39 at hD
  refine g_wt (fun hw => ?_)
  refine g_iload (pc := 39) 2 rfl C dX8_asks_39 ?_
  refine g_aload_n (pc := 41) rfl 0 rfl C dX8_asks_41 ?_
  have u8 : TA Y (r l0 33) 10 6 := wt_a hw t0 (by decide) (by decide) rfl
  refine g_getR (pc := 42) C fl_RX8_76 t0 rfl dX8_asks_42 ?_
  refine g_iload_n (pc := 45) rfl 1 rfl C dX8_asks_45 ?_
  obtain ⟨hb, hD⟩ := hD
  refine g_iald (pc := 46) C u8 hb dX8_asks_46 ?_
  refine g_icmp_ge (pc := 47) 159 C dX8_asks_47 (by decide) (fun c9 => ?_) (fun c9 => ?_)
  · have hD := hD.1 c9
    refine g_sub [] rfl ?_
    exact hK159 h hD
  · have hD := hD.2 c9
    refine g_aload_n (pc := 50) rfl 0 rfl C dX8_asks_50 ?_
    have u10 : TA Y (r l0 35) 12 260 := wt_a hw t0 (by decide) (by decide) rfl
    refine g_getR (pc := 51) C fl_RX8_79 t0 rfl dX8_asks_51 ?_
    refine g_iload (pc := 54) 2 rfl C dX8_asks_54 ?_
    obtain ⟨hb, hD⟩ := hD
    refine g_zald (pc := 56) C u10 hb dX8_asks_56 ?_
    refine g_if_eq (pc := 57) 119 C dX8_asks_57 (by decide) (fun c11 => ?_) (fun c11 => ?_)
    · have hD := hD.1 c11
      refine g_sub [0, 2] rfl ?_
      exact WJ_Mo_asks_119 C R t0 hD
    · have hD := hD.2 c11
      refine g_aload_n (pc := 60) rfl 0 rfl C dX8_asks_60 ?_
      refine g_aload_n (pc := 61) rfl 0 rfl C dX8_asks_61 ?_
      have u18 : TA Y (r l0 36) 10 260 := wt_a hw t0 (by decide) (by decide) rfl
      refine g_getR (pc := 62) C fl_RX8_83 t0 rfl dX8_asks_62 ?_
      refine g_iload (pc := 65) 2 rfl C dX8_asks_65 ?_
      obtain ⟨hb, hD⟩ := hD
      refine g_iald (pc := 67) C u18 hb dX8_asks_67 ?_
      refine g_aload_n (pc := 68) rfl 0 rfl C dX8_asks_68 ?_
      have u19 : TA Y (r l0 37) 10 260 := wt_a hw t0 (by decide) (by decide) rfl
      refine g_getR (pc := 69) C fl_RX8_86 t0 rfl dX8_asks_69 ?_
      refine g_iload (pc := 72) 2 rfl C dX8_asks_72 ?_
      obtain ⟨hb, hD⟩ := hD
      refine g_iald (pc := 74) C u19 hb dX8_asks_74 ?_
      refine g_callVi (pc := 75) (As := [.int (h.1 (r l0 36) l4.toNatClampNeg), .int (h.1 (r l0 37) l4.toNatClampNeg)]) C mv_RX8_335 (M_Mo_termOf t0 hD) t0 (by decide) rfl rfl (Nat.le_of_ble_eq_true rfl) dX8_asks_75 (fun x21 h20 hD => ?_)
      refine g_istore (pc := 78) (fun _ => [(5, .int x21), (0, .ref l0), (3, .int l3), (4, .int l4)]) C dX8_asks_78 (by decide) rfl (fun _ _ => ?_)
      refine g_aload_n (pc := 80) rfl 1 rfl C dX8_asks_80 ?_
      refine g_aload_n (pc := 81) rfl 1 rfl C dX8_asks_81 ?_
      have u23 : TA Y (r l0 37) 10 260 := wt_a hw t0 (by decide) (by decide) rfl
      refine g_getR (pc := 82) C fl_RX8_86 t0 rfl dX8_asks_82 ?_
      refine g_iload (pc := 85) 3 rfl C dX8_asks_85 ?_
      obtain ⟨hb, hD⟩ := hD
      refine g_iald (pc := 87) C u23 hb dX8_asks_87 ?_
      refine g_aload_n (pc := 88) rfl 1 rfl C dX8_asks_88 ?_
      have u24 : TA Y (r l0 38) 10 260 := wt_a hw t0 (by decide) (by decide) rfl
      refine g_getR (pc := 89) C fl_RX8_89 t0 rfl dX8_asks_89 ?_
      refine g_iload (pc := 92) 3 rfl C dX8_asks_92 ?_
      obtain ⟨hb, hD⟩ := hD
      refine g_iald (pc := 94) C u24 hb dX8_asks_94 ?_
      refine g_callVi (pc := 95) (As := [.int (h20.1 (r l0 37) l4.toNatClampNeg), .int (h20.1 (r l0 38) l4.toNatClampNeg)]) C mv_RX8_335 (M_Mo_termOf t0 hD) t0 (by decide) rfl rfl (Nat.le_of_ble_eq_true rfl) dX8_asks_95 (fun x26 h25 hD => ?_)
      refine g_istore (pc := 98) (fun _ => [(6, .int x26), (5, .int x21), (0, .ref l0), (3, .int l3), (4, .int l4)]) C dX8_asks_98 (by decide) rfl (fun _ _ => ?_)
      refine g_aload_n (pc := 100) rfl 2 rfl C dX8_asks_100 ?_
      refine g_getI (pc := 101) C fl_RX8_299 t0 rfl dX8_asks_101 ?_
      refine g_if_eq (pc := 104) 109 C dX8_asks_104 (by decide) (fun c28 => ?_) (fun c28 => ?_)
      · have hD := hD.1 c28
        refine g_iload (pc := 109) 1 rfl C dX8_asks_109 ?_
        refine g_iload (pc := 111) 0 rfl C dX8_asks_111 ?_
        refine g_icmp_lt (pc := 113) 119 C dX8_asks_113 (by decide) (fun c29 => ?_) (fun c29 => ?_)
        · have hD := hD.1 c29
          refine g_sub [2, 4] rfl ?_
          exact WJ_Mo_asks_119 C R t0 hD
        · have hD := hD.2 c29
          refine g_goto (pc := 116) 153 C dX8_asks_116 (by decide) ?_
          refine g_iinc (pc := 153) (q := 4) (c := 1) (fun x30 => [(4, .int x30), (6, .int x26), (5, .int x21), (0, .ref l0), (3, .int l3)]) C dX8_asks_153 rfl (by decide) (by decide) rfl (fun x30 ex30 => ?_)
          have hD := hD x30 ex30
          refine g_goto (pc := 156) 39 C dX8_asks_156 (by decide) ?_
          refine g_sub [3, 4, 0] rfl ?_
          exact hK39 x30 h25 hD
      · have hD := hD.2 c28
        refine g_iconst (pc := 107) (v := 0) (by decide) C dX8_asks_107 ?_
        exact g_iret (pc := 108) C R dX8_asks_108 hD
def D_Mo_asks (r : TR) (o : Nat) (a1 : Int32) (a2 : Int32) (h : TH) (Q : Int32 → TH → Prop) : Prop :=
  ∀ x1 : Int32, x1 = (3 * (h.1 o 18)) + a1 → vp_in x1 6 ∧ vp_in x1 6 ∧ ((¬ (h.1 (r o 32) x1.toNatClampNeg) = (h.1 (r o 33) x1.toNatClampNeg) → ∀ h5, h5 = pI h o 47 0 → vp_in x1 6 ∧ ∀ x7 : Int32, x7 = h5.1 (r o 32) x1.toNatClampNeg → ∃ n, lp (fun (K : Int32 × TH → Prop) (s : Int32 × TH) => DB_Mo_asks_39 r o x1 s.1 s.2 (fun y31 h32 => K (y31, h32)) (fun h33 => Q 0 h33) Q) n (x7, h5)) ∧ ((h.1 (r o 32) x1.toNatClampNeg) = (h.1 (r o 33) x1.toNatClampNeg) → Q a2 h))
set_option maxRecDepth 100000 in
set_option maxHeartbeats 4000000 in
theorem M_Mo_asks {Y : CG} {r : TR} {l : Launch} {o : Nat} {a1 : Int32} {a2 : Int32} {h : TH} {Q : Int32 → TH → Prop} (t0 : TO Y o 8) (hD : D_Mo_asks r o a1 a2 h Q) : Mi Y r l yX8_asks cX8_asks 7 .int 2 [.ref o, .int a1, .int a2] h Q := by
  unfold D_Mo_asks at hD
  refine Mi.of RX8 rfl (by decide) (by simp [lg_sl, Value.category]) [(0, .ref o), (1, .int a1), (2, .int a2)] rfl (fun X hXl C R => ?_)
  subst hXl
  refine g_wt (fun hw => ?_)
  refine g_iconst (pc := 0) (v := 3) (by decide) C dX8_asks_0 ?_
  refine g_aload_n (pc := 1) rfl 0 rfl C dX8_asks_1 ?_
  refine g_getI (pc := 2) C fl_RX8_230 t0 rfl dX8_asks_2 ?_
  refine g_imul (pc := 5) C dX8_asks_5 ?_
  refine g_iload_n (pc := 6) rfl 1 rfl C dX8_asks_6 ?_
  refine g_iadd (pc := 7) C dX8_asks_7 ?_
  refine g_istore_n (pc := 8) (fun x1 => [(3, .int x1), (0, .ref o), (1, .int a1), (2, .int a2)]) C dX8_asks_8 rfl (by decide) rfl (fun x1 ex1 => ?_)
  have hD := hD x1 ex1
  refine g_aload_n (pc := 9) rfl 1 rfl C dX8_asks_9 ?_
  have u2 : TA Y (r o 32) 10 6 := wt_a hw t0 (by decide) (by decide) rfl
  refine g_getR (pc := 10) C fl_RX8_73 t0 rfl dX8_asks_10 ?_
  refine g_iload_n (pc := 13) rfl 0 rfl C dX8_asks_13 ?_
  obtain ⟨hb, hD⟩ := hD
  refine g_iald (pc := 14) C u2 hb dX8_asks_14 ?_
  refine g_aload_n (pc := 15) rfl 1 rfl C dX8_asks_15 ?_
  have u3 : TA Y (r o 33) 10 6 := wt_a hw t0 (by decide) (by decide) rfl
  refine g_getR (pc := 16) C fl_RX8_76 t0 rfl dX8_asks_16 ?_
  refine g_iload_n (pc := 19) rfl 0 rfl C dX8_asks_19 ?_
  obtain ⟨hb, hD⟩ := hD
  refine g_iald (pc := 20) C u3 hb dX8_asks_20 ?_
  refine g_icmp_ne (pc := 21) 26 C dX8_asks_21 (by decide) (fun c4 => ?_) (fun c4 => ?_)
  · have hD := hD.1 c4
    refine g_aload_n (pc := 26) rfl 1 rfl C dX8_asks_26 ?_
    refine g_iconst (pc := 27) (v := 0) (by decide) C dX8_asks_27 ?_
    refine g_putI (pc := 28) C fl_RX8_299 t0 rfl (by decide) (by decide) dX8_asks_28 (fun h5 eh5 => ?_)
    have hD := hD h5 eh5
    refine g_aload_n (pc := 31) rfl 1 rfl C dX8_asks_31 ?_
    have u6 : TA Y (r o 32) 10 6 := wt_a hw t0 (by decide) (by decide) rfl
    refine g_getR (pc := 32) C fl_RX8_73 t0 rfl dX8_asks_32 ?_
    refine g_iload_n (pc := 35) rfl 0 rfl C dX8_asks_35 ?_
    obtain ⟨hb, hD⟩ := hD
    refine g_iald (pc := 36) C u6 hb dX8_asks_36 ?_
    refine g_istore (pc := 37) (fun x7 => [(4, .int x7), (3, .int x1), (0, .ref o), (1, .int a1), (2, .int a2)]) C dX8_asks_37 (by decide) rfl (fun x7 ex7 => ?_)
    have hD := hD x7 ex7
    obtain ⟨n, hD⟩ := hD
    refine g_sub [2, 1, 0] rfl ?_
    refine lp_run (fun s : Int32 × TH => G Y X 7 39 [(0, .ref o), (3, .int x1), (4, .int s.1)] [] r s.2) (fun K s hB hK => ?_) n (x7, h5) hD
    refine WB_Mo_asks_39 C R t0 (fun y31 h32 hk => hK _ hk) (fun h33 hD => ?_) hB
    · refine g_iconst (pc := 159) (v := 0) (by decide) C dX8_asks_159 ?_
      exact g_iret (pc := 160) C R dX8_asks_160 hD
  · have hD := hD.2 c4
    refine g_iload_n (pc := 24) rfl 3 rfl C dX8_asks_24 ?_
    exact g_iret (pc := 25) C R dX8_asks_25 hD
def DB_Mo_looks_9 (r : TR) (l0 : Nat) (l2 : Int32) (h : TH) (K9 : Int32 → TH → Prop) (K28 : TH → Prop) (Q : TH → Prop) : Prop :=
  ((9 ≤ l2 → K28 h) ∧ (¬ 9 ≤ l2 → vp_in l2 9 ∧ ∀ h6, h6 = pI h (r l0 45) l2.toNatClampNeg 0 → ∀ x7 : Int32, x7 = l2 + 1 → K9 x7 h6))
set_option maxRecDepth 100000 in
set_option maxHeartbeats 4000000 in
theorem WB_Mo_looks_9 {Y : CG} {X : CX} {r : TR} {l0 : Nat} {l2 : Int32} {h : TH} {K9 : Int32 → TH → Prop} {K28 : TH → Prop} {Q : TH → Prop} (C : Gd Y X cX8_looks 3 RX8 1) (R : Rv Y r X Q) (t0 : TO Y l0 8) (hK9 : ∀ (k2 : Int32) (hh : TH), K9 k2 hh → G Y X 3 9 [(0, .ref l0), (2, .int k2)] [] r hh) (hK28 : ∀ (hh : TH), K28 hh → G Y X 3 28 [] [] r hh) (hD : DB_Mo_looks_9 r l0 l2 h K9 K28 Q) : G Y X 3 9 [(0, .ref l0), (2, .int l2)] [] r h := by
  unfold DB_Mo_looks_9 at hD
  refine g_wt (fun hw => ?_)
  refine g_iload_n (pc := 9) rfl 1 rfl C dX8_looks_9 ?_
  refine g_bipush (pc := 10) (v := 9) (by decide) C dX8_looks_10 ?_
  refine g_icmp_ge (pc := 12) 28 C dX8_looks_12 (by decide) (fun c4 => ?_) (fun c4 => ?_)
  · have hD := hD.1 c4
    refine g_sub [] rfl ?_
    exact hK28 h hD
  · have hD := hD.2 c4
    refine g_aload_n (pc := 15) rfl 0 rfl C dX8_looks_15 ?_
    have u5 : TA Y (r l0 45) 10 9 := wt_a hw t0 (by decide) (by decide) rfl
    refine g_getR (pc := 16) C fl_RX8_104 t0 rfl dX8_looks_16 ?_
    refine g_iload_n (pc := 19) rfl 1 rfl C dX8_looks_19 ?_
    refine g_iconst (pc := 20) (v := 0) (by decide) C dX8_looks_20 ?_
    obtain ⟨hb, hD⟩ := hD
    refine g_iast (pc := 21) C u5 hb dX8_looks_21 (fun h6 eh6 => ?_)
    have hD := hD h6 eh6
    refine g_iinc (pc := 22) (q := 1) (c := 1) (fun x7 => [(2, .int x7), (0, .ref l0)]) C dX8_looks_22 rfl (by decide) (by decide) rfl (fun x7 ex7 => ?_)
    have hD := hD x7 ex7
    refine g_goto (pc := 25) 9 C dX8_looks_25 (by decide) ?_
    refine g_sub [1, 0] rfl ?_
    exact hK9 x7 h6 hD
def D_Mo_looks (r : TR) (o : Nat) (a1 : Int32) (h : TH) (Q : TH → Prop) : Prop :=
  ∀ h2, h2 = pI h (r o 45) ((0 : Int32).toNatClampNeg) a1 → ∃ n, lp (fun (K : Int32 × TH → Prop) (s : Int32 × TH) => DB_Mo_looks_9 r o s.1 s.2 (fun y8 h9 => K (y8, h9)) (fun h10 => Q h10) Q) n (1, h2)
set_option maxRecDepth 100000 in
set_option maxHeartbeats 4000000 in
theorem M_Mo_looks {Y : CG} {r : TR} {l : Launch} {o : Nat} {a1 : Int32} {h : TH} {Q : TH → Prop} (t0 : TO Y o 8) (hD : D_Mo_looks r o a1 h Q) : Mv Y r l yX8_looks cX8_looks 3 1 [.ref o, .int a1] h Q := by
  unfold D_Mo_looks at hD
  refine Mv.of RX8 rfl (by decide) (by simp [lg_sl, Value.category]) [(0, .ref o), (1, .int a1)] rfl (fun X hXl C R => ?_)
  subst hXl
  refine g_wt (fun hw => ?_)
  refine g_aload_n (pc := 0) rfl 0 rfl C dX8_looks_0 ?_
  have u1 : TA Y (r o 45) 10 9 := wt_a hw t0 (by decide) (by decide) rfl
  refine g_getR (pc := 1) C fl_RX8_104 t0 rfl dX8_looks_1 ?_
  refine g_iconst (pc := 4) (v := 0) (by decide) C dX8_looks_4 ?_
  refine g_iload_n (pc := 5) rfl 1 rfl C dX8_looks_5 ?_
  refine g_iast (pc := 6) C u1 (by unfold vp_in; decide) dX8_looks_6 (fun h2 eh2 => ?_)
  have hD := hD h2 eh2
  refine g_iconst (pc := 7) (v := 1) (by decide) C dX8_looks_7 ?_
  refine g_istore_n (pc := 8) (fun _ => [(2, .int 1), (0, .ref o), (1, .int a1)]) C dX8_looks_8 rfl (by decide) rfl (fun _ _ => ?_)
  obtain ⟨n, hD⟩ := hD
  refine g_sub [1, 0] rfl ?_
  refine lp_run (fun s : Int32 × TH => G Y X 3 9 [(0, .ref o), (2, .int s.1)] [] r s.2) (fun K s hB hK => ?_) n (1, h2) hD
  refine WB_Mo_looks_9 C R t0 (fun y8 h9 hk => hK _ hk) (fun h10 hD => ?_) hB
  · exact g_vret (pc := 28) C R dX8_looks_28 hD
def D_Mo_lays (r : TR) (o : Nat) (a1 : Int32) (a2 : Int32) (a3 : Int32) (h : TH) (Q : TH → Prop) : Prop :=
  D_Mo_looks r o (h.1 (r o 49) ((30 : Int32).toNatClampNeg)) h (fun h2 => ∀ h5, h5 = pI h2 (r o 45) ((1 : Int32).toNatClampNeg) a2 → ∀ h7, h7 = pI h5 (r o 45) ((2 : Int32).toNatClampNeg) a3 → ∀ h9, h9 = pI h7 (r o 45) ((6 : Int32).toNatClampNeg) a1 → ∀ i12 : Int32, i12 = (6 * (h9.1 o 18)) + a1 → vp_in i12 12 ∧ ∀ h13, h13 = pI h9 (r o 45) ((7 : Int32).toNatClampNeg) (h9.1 (r o 28) i12.toNatClampNeg) → D_Mo_asks r o 2 1 h13 (fun x15 h14 => ∀ x17 : Int32, x17 = (6 * ((8 * a3) + a2)) + a1 → vp_in (32 + x17) 512 ∧ ∀ h20, h20 = pI h14 (r o 49) ((32 + x17).toNatClampNeg) (h14.1 (r o 49) ((30 : Int32).toNatClampNeg)) → ((0 ≤ x15 → ((x15 ≤ 9 → vp_in (272 + x17) 512 ∧ ∀ h25, h25 = pI h20 (r o 49) ((272 + x17).toNatClampNeg) ((h20.1 (r o 49) ((30 : Int32).toNatClampNeg)) + x15) → Q h25) ∧ (¬ x15 ≤ 9 → vp_in (272 + x17) 512 ∧ ∀ h26, h26 = pI h20 (r o 49) ((272 + x17).toNatClampNeg) ((h20.1 (r o 49) ((30 : Int32).toNatClampNeg)) + 9) → Q h26))) ∧ (¬ 0 ≤ x15 → vp_in (272 + x17) 512 ∧ ∀ h27, h27 = pI h20 (r o 49) ((272 + x17).toNatClampNeg) ((h20.1 (r o 49) ((30 : Int32).toNatClampNeg)) + 0) → Q h27))))
set_option maxRecDepth 100000 in
set_option maxHeartbeats 4000000 in
theorem M_Mo_lays {Y : CG} {r : TR} {l : Launch} {o : Nat} {a1 : Int32} {a2 : Int32} {a3 : Int32} {h : TH} {Q : TH → Prop} (t0 : TO Y o 8) (hD : D_Mo_lays r o a1 a2 a3 h Q) : Mv Y r l yX8_lays cX8_lays 6 3 [.ref o, .int a1, .int a2, .int a3] h Q := by
  unfold D_Mo_lays at hD
  refine Mv.of RX8 rfl (by decide) (by simp [lg_sl, Value.category]) [(0, .ref o), (1, .int a1), (2, .int a2), (3, .int a3)] rfl (fun X hXl C R => ?_)
  subst hXl
  refine g_wt (fun hw => ?_)
  refine g_aload_n (pc := 0) rfl 0 rfl C dX8_lays_0 ?_
  refine g_aload_n (pc := 1) rfl 0 rfl C dX8_lays_1 ?_
  have u1 : TA Y (r o 49) 10 512 := wt_a hw t0 (by decide) (by decide) rfl
  refine g_getR (pc := 2) C fl_RX8_113 t0 rfl dX8_lays_2 ?_
  refine g_bipush (pc := 5) (v := 30) (by decide) C dX8_lays_5 ?_
  refine g_iald (pc := 7) C u1 (by unfold vp_in; decide) dX8_lays_7 ?_
  refine g_callVv (pc := 8) (As := [.int (h.1 (r o 49) ((30 : Int32).toNatClampNeg))]) C mv_RX8_338 (M_Mo_looks t0 hD) t0 (by decide) rfl rfl (Nat.le_of_ble_eq_true rfl) dX8_lays_8 (fun h2 hD => ?_)
  refine g_aload_n (pc := 11) rfl 0 rfl C dX8_lays_11 ?_
  have u4 : TA Y (r o 45) 10 9 := wt_a hw t0 (by decide) (by decide) rfl
  refine g_getR (pc := 12) C fl_RX8_104 t0 rfl dX8_lays_12 ?_
  refine g_iconst (pc := 15) (v := 1) (by decide) C dX8_lays_15 ?_
  refine g_iload_n (pc := 16) rfl 2 rfl C dX8_lays_16 ?_
  refine g_iast (pc := 17) C u4 (by unfold vp_in; decide) dX8_lays_17 (fun h5 eh5 => ?_)
  have hD := hD h5 eh5
  refine g_aload_n (pc := 18) rfl 0 rfl C dX8_lays_18 ?_
  have u6 : TA Y (r o 45) 10 9 := wt_a hw t0 (by decide) (by decide) rfl
  refine g_getR (pc := 19) C fl_RX8_104 t0 rfl dX8_lays_19 ?_
  refine g_iconst (pc := 22) (v := 2) (by decide) C dX8_lays_22 ?_
  refine g_iload_n (pc := 23) rfl 3 rfl C dX8_lays_23 ?_
  refine g_iast (pc := 24) C u6 (by unfold vp_in; decide) dX8_lays_24 (fun h7 eh7 => ?_)
  have hD := hD h7 eh7
  refine g_aload_n (pc := 25) rfl 0 rfl C dX8_lays_25 ?_
  have u8 : TA Y (r o 45) 10 9 := wt_a hw t0 (by decide) (by decide) rfl
  refine g_getR (pc := 26) C fl_RX8_104 t0 rfl dX8_lays_26 ?_
  refine g_bipush (pc := 29) (v := 6) (by decide) C dX8_lays_29 ?_
  refine g_iload_n (pc := 31) rfl 1 rfl C dX8_lays_31 ?_
  refine g_iast (pc := 32) C u8 (by unfold vp_in; decide) dX8_lays_32 (fun h9 eh9 => ?_)
  have hD := hD h9 eh9
  refine g_aload_n (pc := 33) rfl 0 rfl C dX8_lays_33 ?_
  have u10 : TA Y (r o 45) 10 9 := wt_a hw t0 (by decide) (by decide) rfl
  refine g_getR (pc := 34) C fl_RX8_104 t0 rfl dX8_lays_34 ?_
  refine g_bipush (pc := 37) (v := 7) (by decide) C dX8_lays_37 ?_
  refine g_aload_n (pc := 39) rfl 0 rfl C dX8_lays_39 ?_
  have u11 : TA Y (r o 28) 10 12 := wt_a hw t0 (by decide) (by decide) rfl
  refine g_getR (pc := 40) C fl_RX8_61 t0 rfl dX8_lays_40 ?_
  refine g_bipush (pc := 43) (v := 6) (by decide) C dX8_lays_43 ?_
  refine g_aload_n (pc := 45) rfl 0 rfl C dX8_lays_45 ?_
  refine g_getI (pc := 46) C fl_RX8_230 t0 rfl dX8_lays_46 ?_
  refine g_imul (pc := 49) C dX8_lays_49 ?_
  refine g_iload_n (pc := 50) rfl 1 rfl C dX8_lays_50 ?_
  refine g_iadd (pc := 51) C dX8_lays_51 ?_
  refine g_topi (fun i12 ei12 => ?_)
  have hD := hD i12 ei12
  obtain ⟨hb, hD⟩ := hD
  refine g_iald (pc := 52) C u11 hb dX8_lays_52 ?_
  refine g_iast (pc := 53) C u10 (by unfold vp_in; decide) dX8_lays_53 (fun h13 eh13 => ?_)
  have hD := hD h13 eh13
  refine g_aload_n (pc := 54) rfl 0 rfl C dX8_lays_54 ?_
  refine g_iconst (pc := 55) (v := 2) (by decide) C dX8_lays_55 ?_
  refine g_iconst (pc := 56) (v := 1) (by decide) C dX8_lays_56 ?_
  refine g_callVi (pc := 57) (As := [.int 2, .int 1]) C mv_RX8_341 (M_Mo_asks t0 hD) t0 (by decide) rfl rfl (Nat.le_of_ble_eq_true rfl) dX8_lays_57 (fun x15 h14 hD => ?_)
  refine g_istore (pc := 60) (fun _ => [(4, .int x15), (0, .ref o), (1, .int a1), (2, .int a2), (3, .int a3)]) C dX8_lays_60 (by decide) rfl (fun _ _ => ?_)
  refine g_bipush (pc := 62) (v := 6) (by decide) C dX8_lays_62 ?_
  refine g_bipush (pc := 64) (v := 8) (by decide) C dX8_lays_64 ?_
  refine g_iload_n (pc := 66) rfl 4 rfl C dX8_lays_66 ?_
  refine g_imul (pc := 67) C dX8_lays_67 ?_
  refine g_iload_n (pc := 68) rfl 3 rfl C dX8_lays_68 ?_
  refine g_iadd (pc := 69) C dX8_lays_69 ?_
  refine g_imul (pc := 70) C dX8_lays_70 ?_
  refine g_iload_n (pc := 71) rfl 2 rfl C dX8_lays_71 ?_
  refine g_iadd (pc := 72) C dX8_lays_72 ?_
  refine g_istore (pc := 73) (fun x17 => [(5, .int x17), (4, .int x15), (0, .ref o), (1, .int a1), (2, .int a2), (3, .int a3)]) C dX8_lays_73 (by decide) rfl (fun x17 ex17 => ?_)
  have hD := hD x17 ex17
  refine g_aload_n (pc := 75) rfl 2 rfl C dX8_lays_75 ?_
  have u18 : TA Y (r o 49) 10 512 := wt_a hw t0 (by decide) (by decide) rfl
  refine g_getR (pc := 76) C fl_RX8_113 t0 rfl dX8_lays_76 ?_
  refine g_bipush (pc := 79) (v := 32) (by decide) C dX8_lays_79 ?_
  refine g_iload (pc := 81) 0 rfl C dX8_lays_81 ?_
  refine g_iadd (pc := 83) C dX8_lays_83 ?_
  refine g_aload_n (pc := 84) rfl 2 rfl C dX8_lays_84 ?_
  have u19 : TA Y (r o 49) 10 512 := wt_a hw t0 (by decide) (by decide) rfl
  refine g_getR (pc := 85) C fl_RX8_113 t0 rfl dX8_lays_85 ?_
  refine g_bipush (pc := 88) (v := 30) (by decide) C dX8_lays_88 ?_
  refine g_iald (pc := 90) C u19 (by unfold vp_in; decide) dX8_lays_90 ?_
  obtain ⟨hb, hD⟩ := hD
  refine g_iast (pc := 91) C u18 hb dX8_lays_91 (fun h20 eh20 => ?_)
  have hD := hD h20 eh20
  refine g_aload_n (pc := 92) rfl 2 rfl C dX8_lays_92 ?_
  have u21 : TA Y (r o 49) 10 512 := wt_a hw t0 (by decide) (by decide) rfl
  refine g_getR (pc := 93) C fl_RX8_113 t0 rfl dX8_lays_93 ?_
  refine g_sipush (pc := 96) (v := 272) (by decide) C dX8_lays_96 ?_
  refine g_iload (pc := 99) 0 rfl C dX8_lays_99 ?_
  refine g_iadd (pc := 101) C dX8_lays_101 ?_
  refine g_aload_n (pc := 102) rfl 2 rfl C dX8_lays_102 ?_
  have u22 : TA Y (r o 49) 10 512 := wt_a hw t0 (by decide) (by decide) rfl
  refine g_getR (pc := 103) C fl_RX8_113 t0 rfl dX8_lays_103 ?_
  refine g_bipush (pc := 106) (v := 30) (by decide) C dX8_lays_106 ?_
  refine g_iald (pc := 108) C u22 (by unfold vp_in; decide) dX8_lays_108 ?_
  refine g_iload (pc := 109) 1 rfl C dX8_lays_109 ?_
  refine g_if_ge (pc := 111) 118 C dX8_lays_111 (by decide) (fun c23 => ?_) (fun c23 => ?_)
  · have hD := hD.1 c23
    refine g_iload (pc := 118) 1 rfl C dX8_lays_118 ?_
    refine g_bipush (pc := 120) (v := 9) (by decide) C dX8_lays_120 ?_
    refine g_icmp_le (pc := 122) 130 C dX8_lays_122 (by decide) (fun c24 => ?_) (fun c24 => ?_)
    · have hD := hD.1 c24
      refine g_iload (pc := 130) 1 rfl C dX8_lays_130 ?_
      refine g_iadd (pc := 132) C dX8_lays_132 ?_
      obtain ⟨hb, hD⟩ := hD
      refine g_iast (pc := 133) C u21 hb dX8_lays_133 (fun h25 eh25 => ?_)
      have hD := hD h25 eh25
      exact g_vret (pc := 134) C R dX8_lays_134 hD
    · have hD := hD.2 c24
      refine g_bipush (pc := 125) (v := 9) (by decide) C dX8_lays_125 ?_
      refine g_goto (pc := 127) 132 C dX8_lays_127 (by decide) ?_
      refine g_iadd (pc := 132) C dX8_lays_132 ?_
      obtain ⟨hb, hD⟩ := hD
      refine g_iast (pc := 133) C u21 hb dX8_lays_133 (fun h26 eh26 => ?_)
      have hD := hD h26 eh26
      exact g_vret (pc := 134) C R dX8_lays_134 hD
  · have hD := hD.2 c23
    refine g_iconst (pc := 114) (v := 0) (by decide) C dX8_lays_114 ?_
    refine g_goto (pc := 115) 132 C dX8_lays_115 (by decide) ?_
    refine g_iadd (pc := 132) C dX8_lays_132 ?_
    obtain ⟨hb, hD⟩ := hD
    refine g_iast (pc := 133) C u21 hb dX8_lays_133 (fun h27 eh27 => ?_)
    have hD := hD h27 eh27
    exact g_vret (pc := 134) C R dX8_lays_134 hD
def D_Mo_sortAt (r : TR) (o : Nat) (a1 : Int32) (a2 : Int32) (h : TH) (Q : Int32 → TH → Prop) : Prop :=
  ((¬ ((8 * a2) + a1) = (h.1 o 52) → ∀ i3 : Int32, i3 = ((40 * (h.1 o 18)) + (8 * a2)) + a1 → vp_in i3 80 ∧ Q (h.1 (r o 24) i3.toNatClampNeg) h) ∧ (((8 * a2) + a1) = (h.1 o 52) → Q 1 h))
set_option maxRecDepth 100000 in
set_option maxHeartbeats 4000000 in
theorem M_Mo_sortAt {Y : CG} {r : TR} {l : Launch} {o : Nat} {a1 : Int32} {a2 : Int32} {h : TH} {Q : Int32 → TH → Prop} (t0 : TO Y o 8) (hD : D_Mo_sortAt r o a1 a2 h Q) : Mi Y r l yX8_sortAt cX8_sortAt 3 .int 1 [.ref o, .int a1, .int a2] h Q := by
  unfold D_Mo_sortAt at hD
  refine Mi.of RX8 rfl (by decide) (by simp [lg_sl, Value.category]) [(0, .ref o), (1, .int a1), (2, .int a2)] rfl (fun X hXl C R => ?_)
  subst hXl
  refine g_wt (fun hw => ?_)
  refine g_bipush (pc := 0) (v := 8) (by decide) C dX8_sortAt_0 ?_
  refine g_iload_n (pc := 2) rfl 2 rfl C dX8_sortAt_2 ?_
  refine g_imul (pc := 3) C dX8_sortAt_3 ?_
  refine g_iload_n (pc := 4) rfl 1 rfl C dX8_sortAt_4 ?_
  refine g_iadd (pc := 5) C dX8_sortAt_5 ?_
  refine g_aload_n (pc := 6) rfl 0 rfl C dX8_sortAt_6 ?_
  refine g_getI (pc := 7) C fl_RX8_307 t0 rfl dX8_sortAt_7 ?_
  refine g_icmp_ne (pc := 10) 17 C dX8_sortAt_10 (by decide) (fun c1 => ?_) (fun c1 => ?_)
  · have hD := hD.1 c1
    refine g_aload_n (pc := 17) rfl 0 rfl C dX8_sortAt_17 ?_
    have u2 : TA Y (r o 24) 10 80 := wt_a hw t0 (by decide) (by decide) rfl
    refine g_getR (pc := 18) C fl_RX8_49 t0 rfl dX8_sortAt_18 ?_
    refine g_bipush (pc := 21) (v := 40) (by decide) C dX8_sortAt_21 ?_
    refine g_aload_n (pc := 23) rfl 0 rfl C dX8_sortAt_23 ?_
    refine g_getI (pc := 24) C fl_RX8_230 t0 rfl dX8_sortAt_24 ?_
    refine g_imul (pc := 27) C dX8_sortAt_27 ?_
    refine g_bipush (pc := 28) (v := 8) (by decide) C dX8_sortAt_28 ?_
    refine g_iload_n (pc := 30) rfl 2 rfl C dX8_sortAt_30 ?_
    refine g_imul (pc := 31) C dX8_sortAt_31 ?_
    refine g_iadd (pc := 32) C dX8_sortAt_32 ?_
    refine g_iload_n (pc := 33) rfl 1 rfl C dX8_sortAt_33 ?_
    refine g_iadd (pc := 34) C dX8_sortAt_34 ?_
    refine g_topi (fun i3 ei3 => ?_)
    have hD := hD i3 ei3
    obtain ⟨hb, hD⟩ := hD
    refine g_iald (pc := 35) C u2 hb dX8_sortAt_35 ?_
    exact g_iret (pc := 36) C R dX8_sortAt_36 hD
  · have hD := hD.2 c1
    refine g_iconst (pc := 13) (v := 1) (by decide) C dX8_sortAt_13 ?_
    refine g_goto (pc := 14) 36 C dX8_sortAt_14 (by decide) ?_
    exact g_iret (pc := 36) C R dX8_sortAt_36 hD
def D_Mo_southBy (r : TR) (a0 : Int32) (h : TH) (Q : Int32 → TH → Prop) : Prop :=
  ((¬ a0 = 2 → ((¬ a0 = 4 → Q 0 h) ∧ (a0 = 4 → Q (-1) h))) ∧ (a0 = 2 → Q 1 h))
set_option maxRecDepth 100000 in
set_option maxHeartbeats 4000000 in
theorem M_Mo_southBy {Y : CG} {r : TR} {l : Launch} {a0 : Int32} {h : TH} {Q : Int32 → TH → Prop} (hD : D_Mo_southBy r a0 h Q) : Mi Y r l yX8_southBy cX8_southBy 1 .int 1 [.int a0] h Q := by
  unfold D_Mo_southBy at hD
  refine Mi.of RX8 rfl (by decide) (by simp [lg_sl, Value.category]) [(0, .int a0)] rfl (fun X hXl C R => ?_)
  subst hXl
  refine g_wt (fun hw => ?_)
  refine g_iload_n (pc := 0) rfl 0 rfl C dX8_southBy_0 ?_
  refine g_iconst (pc := 1) (v := 2) (by decide) C dX8_southBy_1 ?_
  refine g_icmp_ne (pc := 2) 9 C dX8_southBy_2 (by decide) (fun c1 => ?_) (fun c1 => ?_)
  · have hD := hD.1 c1
    refine g_iload_n (pc := 9) rfl 0 rfl C dX8_southBy_9 ?_
    refine g_iconst (pc := 10) (v := 4) (by decide) C dX8_southBy_10 ?_
    refine g_icmp_ne (pc := 11) 18 C dX8_southBy_11 (by decide) (fun c2 => ?_) (fun c2 => ?_)
    · have hD := hD.1 c2
      refine g_iconst (pc := 18) (v := 0) (by decide) C dX8_southBy_18 ?_
      exact g_iret (pc := 19) C R dX8_southBy_19 hD
    · have hD := hD.2 c2
      refine g_iconst (pc := 14) (v := (-1)) (by decide) C dX8_southBy_14 ?_
      refine g_goto (pc := 15) 19 C dX8_southBy_15 (by decide) ?_
      exact g_iret (pc := 19) C R dX8_southBy_19 hD
  · have hD := hD.2 c1
    refine g_iconst (pc := 5) (v := 1) (by decide) C dX8_southBy_5 ?_
    refine g_goto (pc := 6) 19 C dX8_southBy_6 (by decide) ?_
    exact g_iret (pc := 19) C R dX8_southBy_19 hD
def D_Mo_windIn (r : TR) (o : Nat) (a1 : Int32) (h : TH) (Q : Int32 → TH → Prop) : Prop :=
  D_Mo_looks r o a1 h (fun h1 => D_Mo_asks r o 0 0 h1 (fun x4 h3 => ((0 ≤ x4 → Q ((jrem x4 4) + 1) h3) ∧ (¬ 0 ≤ x4 → Q 1 h3))))
set_option maxRecDepth 100000 in
set_option maxHeartbeats 4000000 in
theorem M_Mo_windIn {Y : CG} {r : TR} {l : Launch} {o : Nat} {a1 : Int32} {h : TH} {Q : Int32 → TH → Prop} (t0 : TO Y o 8) (hD : D_Mo_windIn r o a1 h Q) : Mi Y r l yX8_windIn cX8_windIn 3 .int 3 [.ref o, .int a1] h Q := by
  unfold D_Mo_windIn at hD
  refine Mi.of RX8 rfl (by decide) (by simp [lg_sl, Value.category]) [(0, .ref o), (1, .int a1)] rfl (fun X hXl C R => ?_)
  subst hXl
  refine g_wt (fun hw => ?_)
  refine g_aload_n (pc := 0) rfl 0 rfl C dX8_windIn_0 ?_
  refine g_iload_n (pc := 1) rfl 1 rfl C dX8_windIn_1 ?_
  refine g_callVv (pc := 2) (As := [.int a1]) C mv_RX8_338 (M_Mo_looks t0 hD) t0 (by decide) rfl rfl (Nat.le_of_ble_eq_true rfl) dX8_windIn_2 (fun h1 hD => ?_)
  refine g_aload_n (pc := 5) rfl 0 rfl C dX8_windIn_5 ?_
  refine g_iconst (pc := 6) (v := 0) (by decide) C dX8_windIn_6 ?_
  refine g_iconst (pc := 7) (v := 0) (by decide) C dX8_windIn_7 ?_
  refine g_callVi (pc := 8) (As := [.int 0, .int 0]) C mv_RX8_341 (M_Mo_asks t0 hD) t0 (by decide) rfl rfl (Nat.le_of_ble_eq_true rfl) dX8_windIn_8 (fun x4 h3 hD => ?_)
  refine g_istore_n (pc := 11) (fun _ => [(2, .int x4), (0, .ref o), (1, .int a1)]) C dX8_windIn_11 rfl (by decide) rfl (fun _ _ => ?_)
  refine g_iload_n (pc := 12) rfl 0 rfl C dX8_windIn_12 ?_
  refine g_if_ge (pc := 13) 20 C dX8_windIn_13 (by decide) (fun c6 => ?_) (fun c6 => ?_)
  · have hD := hD.1 c6
    refine g_iload_n (pc := 20) rfl 0 rfl C dX8_windIn_20 ?_
    refine g_iconst (pc := 21) (v := 4) (by decide) C dX8_windIn_21 ?_
    refine g_irem (pc := 22) (by decide) C dX8_windIn_22 ?_
    refine g_iconst (pc := 23) (v := 1) (by decide) C dX8_windIn_23 ?_
    refine g_iadd (pc := 24) C dX8_windIn_24 ?_
    exact g_iret (pc := 25) C R dX8_windIn_25 hD
  · have hD := hD.2 c6
    refine g_iconst (pc := 16) (v := 1) (by decide) C dX8_windIn_16 ?_
    refine g_goto (pc := 17) 25 C dX8_windIn_17 (by decide) ?_
    exact g_iret (pc := 25) C R dX8_windIn_25 hD
def DB_Mo_laysAll_79 (r : TR) (l0 : Nat) (l1 : Int32) (l2 : Int32) (l3 : Int32) (l4 : Int32) (l5 : Int32) (h : TH) (K14 : Int32 → TH → Prop) (K79 : Int32 → Int32 → Int32 → TH → Prop) (K152 : TH → Prop) (K158 : TH → Prop) (Q : TH → Prop) : Prop :=
  ∀ i25 : Int32, i25 = (6 * (h.1 l0 18)) + l2 → vp_in i25 12 ∧ (((h.1 (r l0 28) i25.toNatClampNeg) ≤ l5 → K152 h) ∧ (¬ (h.1 (r l0 28) i25.toNatClampNeg) ≤ l5 → D_Mo_eastBy r l1 h (fun x28 h27 => ∀ x29 : Int32, x29 = l3 + x28 → D_Mo_southBy r l1 h27 (fun x31 h30 => ∀ x32 : Int32, x32 = l4 + x31 → D_Mo_isCell r l0 x29 x32 h30 (fun x34 h33 => ((x34 = 0 → K152 h33) ∧ (¬ x34 = 0 → D_Mo_sortAt r l0 x29 x32 h33 (fun x37 h36 => ((¬ x37 = 1 → D_Mo_lays r l0 l2 x29 x32 h36 (fun h39 => ∀ x41 : Int32, x41 = l5 + 1 → K79 x29 x32 x41 h39)) ∧ (x37 = 1 → K152 h36))))))))))
set_option maxRecDepth 100000 in
set_option maxHeartbeats 4000000 in
theorem WB_Mo_laysAll_79 {Y : CG} {X : CX} {r : TR} {l0 : Nat} {l1 : Int32} {l2 : Int32} {l3 : Int32} {l4 : Int32} {l5 : Int32} {h : TH} {K14 : Int32 → TH → Prop} {K79 : Int32 → Int32 → Int32 → TH → Prop} {K152 : TH → Prop} {K158 : TH → Prop} {Q : TH → Prop} (C : Gd Y X cX8_laysAll 6 RX8 4) (R : Rv Y r X Q) (t0 : TO Y l0 8) (hK14 : ∀ (k2 : Int32) (hh : TH), K14 k2 hh → G Y X 6 14 [(0, .ref l0), (1, .int l1), (2, .int k2)] [] r hh) (hK79 : ∀ (k3 : Int32) (k4 : Int32) (k5 : Int32) (hh : TH), K79 k3 k4 k5 hh → G Y X 6 79 [(0, .ref l0), (1, .int l1), (2, .int l2), (3, .int k3), (4, .int k4), (5, .int k5)] [] r hh) (hK152 : ∀ (hh : TH), K152 hh → G Y X 6 152 [(0, .ref l0), (1, .int l1), (2, .int l2)] [] r hh) (hK158 : ∀ (hh : TH), K158 hh → G Y X 6 158 [] [] r hh) (hD : DB_Mo_laysAll_79 r l0 l1 l2 l3 l4 l5 h K14 K79 K152 K158 Q) : G Y X 6 79 [(0, .ref l0), (1, .int l1), (2, .int l2), (3, .int l3), (4, .int l4), (5, .int l5)] [] r h := by
  unfold DB_Mo_laysAll_79 at hD
  refine g_wt (fun hw => ?_)
  refine g_iload (pc := 79) 5 rfl C dX8_laysAll_79 ?_
  refine g_aload_n (pc := 81) rfl 0 rfl C dX8_laysAll_81 ?_
  have u24 : TA Y (r l0 28) 10 12 := wt_a hw t0 (by decide) (by decide) rfl
  refine g_getR (pc := 82) C fl_RX8_61 t0 rfl dX8_laysAll_82 ?_
  refine g_bipush (pc := 85) (v := 6) (by decide) C dX8_laysAll_85 ?_
  refine g_aload_n (pc := 87) rfl 0 rfl C dX8_laysAll_87 ?_
  refine g_getI (pc := 88) C fl_RX8_230 t0 rfl dX8_laysAll_88 ?_
  refine g_imul (pc := 91) C dX8_laysAll_91 ?_
  refine g_iload_n (pc := 92) rfl 2 rfl C dX8_laysAll_92 ?_
  refine g_iadd (pc := 93) C dX8_laysAll_93 ?_
  refine g_topi (fun i25 ei25 => ?_)
  have hD := hD i25 ei25
  obtain ⟨hb, hD⟩ := hD
  refine g_iald (pc := 94) C u24 hb dX8_laysAll_94 ?_
  refine g_icmp_ge (pc := 95) 152 C dX8_laysAll_95 (by decide) (fun c26 => ?_) (fun c26 => ?_)
  · have hD := hD.1 c26
    refine g_sub [0, 1, 2] rfl ?_
    exact hK152 h hD
  · have hD := hD.2 c26
    refine g_iload_n (pc := 98) rfl 3 rfl C dX8_laysAll_98 ?_
    refine g_iload_n (pc := 99) rfl 1 rfl C dX8_laysAll_99 ?_
    refine g_callSi (pc := 100) (As := [.int l1]) C ms_RX8_354 (M_Mo_eastBy  hD) (by decide) rfl rfl (Nat.le_of_ble_eq_true rfl) dX8_laysAll_100 (fun x28 h27 hD => ?_)
    refine g_iadd (pc := 103) C dX8_laysAll_103 ?_
    refine g_istore_n (pc := 104) (fun x29 => [(3, .int x29), (0, .ref l0), (1, .int l1), (2, .int l2), (4, .int l4), (5, .int l5)]) C dX8_laysAll_104 rfl (by decide) rfl (fun x29 ex29 => ?_)
    have hD := hD x29 ex29
    refine g_iload (pc := 105) 4 rfl C dX8_laysAll_105 ?_
    refine g_iload_n (pc := 107) rfl 2 rfl C dX8_laysAll_107 ?_
    refine g_callSi (pc := 108) (As := [.int l1]) C ms_RX8_357 (M_Mo_southBy  hD) (by decide) rfl rfl (Nat.le_of_ble_eq_true rfl) dX8_laysAll_108 (fun x31 h30 hD => ?_)
    refine g_iadd (pc := 111) C dX8_laysAll_111 ?_
    refine g_istore (pc := 112) (fun x32 => [(4, .int x32), (3, .int x29), (0, .ref l0), (1, .int l1), (2, .int l2), (5, .int l5)]) C dX8_laysAll_112 (by decide) rfl (fun x32 ex32 => ?_)
    have hD := hD x32 ex32
    refine g_aload_n (pc := 114) rfl 2 rfl C dX8_laysAll_114 ?_
    refine g_iload_n (pc := 115) rfl 1 rfl C dX8_laysAll_115 ?_
    refine g_iload (pc := 116) 0 rfl C dX8_laysAll_116 ?_
    refine g_callVi (pc := 118) (As := [.int x29, .int x32]) C mv_RX8_360 (M_Mo_isCell t0 hD) t0 (by decide) rfl rfl (Nat.le_of_ble_eq_true rfl) dX8_laysAll_118 (fun x34 h33 hD => ?_)
    refine g_if_eq (pc := 121) 152 C dX8_laysAll_121 (by decide) (fun c35 => ?_) (fun c35 => ?_)
    · have hD := hD.1 c35
      refine g_sub [2, 3, 4] rfl ?_
      exact hK152 h33 hD
    · have hD := hD.2 c35
      refine g_aload_n (pc := 124) rfl 2 rfl C dX8_laysAll_124 ?_
      refine g_iload_n (pc := 125) rfl 1 rfl C dX8_laysAll_125 ?_
      refine g_iload (pc := 126) 0 rfl C dX8_laysAll_126 ?_
      refine g_callVi (pc := 128) (As := [.int x29, .int x32]) C mv_RX8_319 (M_Mo_sortAt t0 hD) t0 (by decide) rfl rfl (Nat.le_of_ble_eq_true rfl) dX8_laysAll_128 (fun x37 h36 hD => ?_)
      refine g_iconst (pc := 131) (v := 1) (by decide) C dX8_laysAll_131 ?_
      refine g_icmp_ne (pc := 132) 138 C dX8_laysAll_132 (by decide) (fun c38 => ?_) (fun c38 => ?_)
      · have hD := hD.1 c38
        refine g_aload_n (pc := 138) rfl 2 rfl C dX8_laysAll_138 ?_
        refine g_iload_n (pc := 139) rfl 4 rfl C dX8_laysAll_139 ?_
        refine g_iload_n (pc := 140) rfl 1 rfl C dX8_laysAll_140 ?_
        refine g_iload (pc := 141) 0 rfl C dX8_laysAll_141 ?_
        refine g_callVv (pc := 143) (As := [.int l2, .int x29, .int x32]) C mv_RX8_350 (M_Mo_lays t0 hD) t0 (by decide) rfl rfl (Nat.le_of_ble_eq_true rfl) dX8_laysAll_143 (fun h39 hD => ?_)
        refine g_iinc (pc := 146) (q := 5) (c := 1) (fun x41 => [(5, .int x41), (4, .int x32), (3, .int x29), (0, .ref l0), (1, .int l1), (2, .int l2)]) C dX8_laysAll_146 rfl (by decide) (by decide) rfl (fun x41 ex41 => ?_)
        have hD := hD x41 ex41
        refine g_goto (pc := 149) 79 C dX8_laysAll_149 (by decide) ?_
        refine g_sub [3, 4, 5, 2, 1, 0] rfl ?_
        exact hK79 x29 x32 x41 h39 hD
      · have hD := hD.2 c38
        refine g_goto (pc := 135) 152 C dX8_laysAll_135 (by decide) ?_
        refine g_sub [2, 3, 4] rfl ?_
        exact hK152 h36 hD
def DB_Mo_laysAll_14 (r : TR) (l0 : Nat) (l1 : Int32) (l2 : Int32) (h : TH) (K14 : Int32 → TH → Prop) (K158 : TH → Prop) (Q : TH → Prop) : Prop :=
  ∀ i7 : Int32, i7 = h.1 l0 18 → vp_in i7 2 ∧ (((h.1 (r l0 25) i7.toNatClampNeg) ≤ l2 → K158 h) ∧ (¬ (h.1 (r l0 25) i7.toNatClampNeg) ≤ l2 → D_Mo_isSailing r l0 l2 h (fun x10 h9 => ((x10 = 0 → ∀ x12 : Int32, x12 = l2 + 1 → K14 x12 h9) ∧ (¬ x10 = 0 → ∀ i14 : Int32, i14 = 24 + l2 → vp_in i14 512 ∧ ((¬ (h9.1 (r l0 49) i14.toNatClampNeg) = 0 → vp_in l2 512 ∧ ∀ x17 : Int32, x17 = h9.1 (r l0 49) l2.toNatClampNeg → ∀ i19 : Int32, i19 = 6 + l2 → vp_in i19 512 ∧ ∀ x20 : Int32, x20 = h9.1 (r l0 49) i19.toNatClampNeg → D_Mo_lays r l0 l2 x17 x20 h9 (fun h21 => ∃ n, lp (fun (K : Int32 × Int32 × Int32 × TH → Prop) (s : Int32 × Int32 × Int32 × TH) => DB_Mo_laysAll_79 r l0 l1 l2 s.1 s.2.1 s.2.2.1 s.2.2.2 K14 (fun y42 y43 y44 h45 => K (y42, y43, y44, h45)) (fun h46 => ∀ x47 : Int32, x47 = l2 + 1 → K14 x47 h46) K158 Q) n (x17, x20, 0, h21))) ∧ ((h9.1 (r l0 49) i14.toNatClampNeg) = 0 → ∀ x48 : Int32, x48 = l2 + 1 → K14 x48 h9)))))))
set_option maxRecDepth 100000 in
set_option maxHeartbeats 4000000 in
theorem WB_Mo_laysAll_14 {Y : CG} {X : CX} {r : TR} {l0 : Nat} {l1 : Int32} {l2 : Int32} {h : TH} {K14 : Int32 → TH → Prop} {K158 : TH → Prop} {Q : TH → Prop} (C : Gd Y X cX8_laysAll 6 RX8 4) (R : Rv Y r X Q) (t0 : TO Y l0 8) (hK14 : ∀ (k2 : Int32) (hh : TH), K14 k2 hh → G Y X 6 14 [(0, .ref l0), (1, .int l1), (2, .int k2)] [] r hh) (hK158 : ∀ (hh : TH), K158 hh → G Y X 6 158 [] [] r hh) (hD : DB_Mo_laysAll_14 r l0 l1 l2 h K14 K158 Q) : G Y X 6 14 [(0, .ref l0), (1, .int l1), (2, .int l2)] [] r h := by
  unfold DB_Mo_laysAll_14 at hD
  refine g_wt (fun hw => ?_)
  refine g_iload_n (pc := 14) rfl 2 rfl C dX8_laysAll_14 ?_
  refine g_aload_n (pc := 15) rfl 0 rfl C dX8_laysAll_15 ?_
  have u6 : TA Y (r l0 25) 10 2 := wt_a hw t0 (by decide) (by decide) rfl
  refine g_getR (pc := 16) C fl_RX8_52 t0 rfl dX8_laysAll_16 ?_
  refine g_aload_n (pc := 19) rfl 0 rfl C dX8_laysAll_19 ?_
  refine g_getI (pc := 20) C fl_RX8_230 t0 rfl dX8_laysAll_20 ?_
  refine g_topi (fun i7 ei7 => ?_)
  have hD := hD i7 ei7
  obtain ⟨hb, hD⟩ := hD
  refine g_iald (pc := 23) C u6 hb dX8_laysAll_23 ?_
  refine g_icmp_ge (pc := 24) 158 C dX8_laysAll_24 (by decide) (fun c8 => ?_) (fun c8 => ?_)
  · have hD := hD.1 c8
    refine g_sub [] rfl ?_
    exact hK158 h hD
  · have hD := hD.2 c8
    refine g_aload_n (pc := 27) rfl 0 rfl C dX8_laysAll_27 ?_
    refine g_iload_n (pc := 28) rfl 2 rfl C dX8_laysAll_28 ?_
    refine g_callVi (pc := 29) (As := [.int l2]) C mv_RX8_347 (M_Mo_isSailing t0 hD) t0 (by decide) rfl rfl (Nat.le_of_ble_eq_true rfl) dX8_laysAll_29 (fun x10 h9 hD => ?_)
    refine g_if_eq (pc := 32) 152 C dX8_laysAll_32 (by decide) (fun c11 => ?_) (fun c11 => ?_)
    · have hD := hD.1 c11
      refine g_iinc (pc := 152) (q := 2) (c := 1) (fun x12 => [(2, .int x12), (0, .ref l0), (1, .int l1)]) C dX8_laysAll_152 rfl (by decide) (by decide) rfl (fun x12 ex12 => ?_)
      have hD := hD x12 ex12
      refine g_goto (pc := 155) 14 C dX8_laysAll_155 (by decide) ?_
      refine g_sub [1, 2, 0] rfl ?_
      exact hK14 x12 h9 hD
    · have hD := hD.2 c11
      refine g_aload_n (pc := 35) rfl 0 rfl C dX8_laysAll_35 ?_
      have u13 : TA Y (r l0 49) 10 512 := wt_a hw t0 (by decide) (by decide) rfl
      refine g_getR (pc := 36) C fl_RX8_113 t0 rfl dX8_laysAll_36 ?_
      refine g_bipush (pc := 39) (v := 24) (by decide) C dX8_laysAll_39 ?_
      refine g_iload_n (pc := 41) rfl 2 rfl C dX8_laysAll_41 ?_
      refine g_iadd (pc := 42) C dX8_laysAll_42 ?_
      refine g_topi (fun i14 ei14 => ?_)
      have hD := hD i14 ei14
      obtain ⟨hb, hD⟩ := hD
      refine g_iald (pc := 43) C u13 hb dX8_laysAll_43 ?_
      refine g_if_ne (pc := 44) 50 C dX8_laysAll_44 (by decide) (fun c15 => ?_) (fun c15 => ?_)
      · have hD := hD.1 c15
        refine g_aload_n (pc := 50) rfl 0 rfl C dX8_laysAll_50 ?_
        have u16 : TA Y (r l0 49) 10 512 := wt_a hw t0 (by decide) (by decide) rfl
        refine g_getR (pc := 51) C fl_RX8_113 t0 rfl dX8_laysAll_51 ?_
        refine g_iload_n (pc := 54) rfl 2 rfl C dX8_laysAll_54 ?_
        obtain ⟨hb, hD⟩ := hD
        refine g_iald (pc := 55) C u16 hb dX8_laysAll_55 ?_
        refine g_istore_n (pc := 56) (fun x17 => [(3, .int x17), (0, .ref l0), (1, .int l1), (2, .int l2)]) C dX8_laysAll_56 rfl (by decide) rfl (fun x17 ex17 => ?_)
        have hD := hD x17 ex17
        refine g_aload_n (pc := 57) rfl 1 rfl C dX8_laysAll_57 ?_
        have u18 : TA Y (r l0 49) 10 512 := wt_a hw t0 (by decide) (by decide) rfl
        refine g_getR (pc := 58) C fl_RX8_113 t0 rfl dX8_laysAll_58 ?_
        refine g_bipush (pc := 61) (v := 6) (by decide) C dX8_laysAll_61 ?_
        refine g_iload_n (pc := 63) rfl 3 rfl C dX8_laysAll_63 ?_
        refine g_iadd (pc := 64) C dX8_laysAll_64 ?_
        refine g_topi (fun i19 ei19 => ?_)
        have hD := hD i19 ei19
        obtain ⟨hb, hD⟩ := hD
        refine g_iald (pc := 65) C u18 hb dX8_laysAll_65 ?_
        refine g_istore (pc := 66) (fun x20 => [(4, .int x20), (3, .int x17), (0, .ref l0), (1, .int l1), (2, .int l2)]) C dX8_laysAll_66 (by decide) rfl (fun x20 ex20 => ?_)
        have hD := hD x20 ex20
        refine g_aload_n (pc := 68) rfl 2 rfl C dX8_laysAll_68 ?_
        refine g_iload_n (pc := 69) rfl 4 rfl C dX8_laysAll_69 ?_
        refine g_iload_n (pc := 70) rfl 1 rfl C dX8_laysAll_70 ?_
        refine g_iload (pc := 71) 0 rfl C dX8_laysAll_71 ?_
        refine g_callVv (pc := 73) (As := [.int l2, .int x17, .int x20]) C mv_RX8_350 (M_Mo_lays t0 hD) t0 (by decide) rfl rfl (Nat.le_of_ble_eq_true rfl) dX8_laysAll_73 (fun h21 hD => ?_)
        refine g_iconst (pc := 76) (v := 0) (by decide) C dX8_laysAll_76 ?_
        refine g_istore (pc := 77) (fun _ => [(5, .int 0), (4, .int x20), (3, .int x17), (0, .ref l0), (1, .int l1), (2, .int l2)]) C dX8_laysAll_77 (by decide) rfl (fun _ _ => ?_)
        obtain ⟨n, hD⟩ := hD
        refine g_sub [3, 4, 5, 2, 1, 0] rfl ?_
        refine lp_run (fun s : Int32 × Int32 × Int32 × TH => G Y X 6 79 [(0, .ref l0), (1, .int l1), (2, .int l2), (3, .int s.1), (4, .int s.2.1), (5, .int s.2.2.1)] [] r s.2.2.2) (fun K s hB hK => ?_) n (x17, x20, 0, h21) hD
        refine WB_Mo_laysAll_79 C R t0 hK14 (fun y42 y43 y44 h45 hk => hK _ hk) (fun h46 hD => ?_) hK158 hB
        · refine g_iinc (pc := 152) (q := 2) (c := 1) (fun x47 => [(2, .int x47), (0, .ref l0), (1, .int l1)]) C dX8_laysAll_152 rfl (by decide) (by decide) rfl (fun x47 ex47 => ?_)
          have hD := hD x47 ex47
          refine g_goto (pc := 155) 14 C dX8_laysAll_155 (by decide) ?_
          refine g_sub [1, 2, 0] rfl ?_
          exact hK14 x47 h46 hD
      · have hD := hD.2 c15
        refine g_goto (pc := 47) 152 C dX8_laysAll_47 (by decide) ?_
        refine g_iinc (pc := 152) (q := 2) (c := 1) (fun x48 => [(2, .int x48), (0, .ref l0), (1, .int l1)]) C dX8_laysAll_152 rfl (by decide) (by decide) rfl (fun x48 ex48 => ?_)
        have hD := hD x48 ex48
        refine g_goto (pc := 155) 14 C dX8_laysAll_155 (by decide) ?_
        refine g_sub [1, 2, 0] rfl ?_
        exact hK14 x48 h9 hD
def D_Mo_laysAll (r : TR) (o : Nat) (h : TH) (Q : TH → Prop) : Prop :=
  D_Mo_windIn r o (h.1 (r o 49) ((30 : Int32).toNatClampNeg)) h (fun x3 h2 => ∃ n, lp (fun (K : Int32 × TH → Prop) (s : Int32 × TH) => DB_Mo_laysAll_14 r o x3 s.1 s.2 (fun y49 h50 => K (y49, h50)) (fun h51 => Q h51) Q) n (0, h2))
set_option maxRecDepth 100000 in
set_option maxHeartbeats 4000000 in
theorem M_Mo_laysAll {Y : CG} {r : TR} {l : Launch} {o : Nat} {h : TH} {Q : TH → Prop} (t0 : TO Y o 8) (hD : D_Mo_laysAll r o h Q) : Mv Y r l yX8_laysAll cX8_laysAll 6 4 [.ref o] h Q := by
  unfold D_Mo_laysAll at hD
  refine Mv.of RX8 rfl (by decide) (by simp [lg_sl, Value.category]) [(0, .ref o)] rfl (fun X hXl C R => ?_)
  subst hXl
  refine g_wt (fun hw => ?_)
  refine g_aload_n (pc := 0) rfl 0 rfl C dX8_laysAll_0 ?_
  refine g_aload_n (pc := 1) rfl 0 rfl C dX8_laysAll_1 ?_
  have u1 : TA Y (r o 49) 10 512 := wt_a hw t0 (by decide) (by decide) rfl
  refine g_getR (pc := 2) C fl_RX8_113 t0 rfl dX8_laysAll_2 ?_
  refine g_bipush (pc := 5) (v := 30) (by decide) C dX8_laysAll_5 ?_
  refine g_iald (pc := 7) C u1 (by unfold vp_in; decide) dX8_laysAll_7 ?_
  refine g_callVi (pc := 8) (As := [.int (h.1 (r o 49) ((30 : Int32).toNatClampNeg))]) C mv_RX8_344 (M_Mo_windIn t0 hD) t0 (by decide) rfl rfl (Nat.le_of_ble_eq_true rfl) dX8_laysAll_8 (fun x3 h2 hD => ?_)
  refine g_istore_n (pc := 11) (fun _ => [(1, .int x3), (0, .ref o)]) C dX8_laysAll_11 rfl (by decide) rfl (fun _ _ => ?_)
  refine g_iconst (pc := 12) (v := 0) (by decide) C dX8_laysAll_12 ?_
  refine g_istore_n (pc := 13) (fun _ => [(2, .int 0), (1, .int x3), (0, .ref o)]) C dX8_laysAll_13 rfl (by decide) rfl (fun _ _ => ?_)
  obtain ⟨n, hD⟩ := hD
  refine g_sub [2, 1, 0] rfl ?_
  refine lp_run (fun s : Int32 × TH => G Y X 6 14 [(0, .ref o), (1, .int x3), (2, .int s.1)] [] r s.2) (fun K s hB hK => ?_) n (0, h2) hD
  refine WB_Mo_laysAll_14 C R t0 (fun y49 h50 hk => hK _ hk) (fun h51 hD => ?_) hB
  · exact g_vret (pc := 158) C R dX8_laysAll_158 hD
def D_Mo_plainly (r : TR) (o : Nat) (h : TH) (Q : TH → Prop) : Prop :=
  ∀ i2 : Int32, i2 = h.1 o 18 → vp_in i2 2 ∧ ∀ h3, h3 = pI h o 50 (h.1 (r o 31) i2.toNatClampNeg) → ∀ h4, h4 = pI h3 o 51 (-1) → ∀ h5, h5 = pI h4 o 52 (-1) → Q h5
set_option maxRecDepth 100000 in
set_option maxHeartbeats 4000000 in
theorem M_Mo_plainly {Y : CG} {r : TR} {l : Launch} {o : Nat} {h : TH} {Q : TH → Prop} (t0 : TO Y o 8) (hD : D_Mo_plainly r o h Q) : Mv Y r l yX8_plainly cX8_plainly 1 1 [.ref o] h Q := by
  unfold D_Mo_plainly at hD
  refine Mv.of RX8 rfl (by decide) (by simp [lg_sl, Value.category]) [(0, .ref o)] rfl (fun X hXl C R => ?_)
  subst hXl
  refine g_wt (fun hw => ?_)
  refine g_aload_n (pc := 0) rfl 0 rfl C dX8_plainly_0 ?_
  refine g_aload_n (pc := 1) rfl 0 rfl C dX8_plainly_1 ?_
  have u1 : TA Y (r o 31) 10 2 := wt_a hw t0 (by decide) (by decide) rfl
  refine g_getR (pc := 2) C fl_RX8_70 t0 rfl dX8_plainly_2 ?_
  refine g_aload_n (pc := 5) rfl 0 rfl C dX8_plainly_5 ?_
  refine g_getI (pc := 6) C fl_RX8_230 t0 rfl dX8_plainly_6 ?_
  refine g_topi (fun i2 ei2 => ?_)
  have hD := hD i2 ei2
  obtain ⟨hb, hD⟩ := hD
  refine g_iald (pc := 9) C u1 hb dX8_plainly_9 ?_
  refine g_putI (pc := 10) C fl_RX8_313 t0 rfl rfl rfl dX8_plainly_10 (fun h3 eh3 => ?_)
  have hD := hD h3 eh3
  refine g_aload_n (pc := 13) rfl 0 rfl C dX8_plainly_13 ?_
  refine g_iconst (pc := 14) (v := (-1)) (by decide) C dX8_plainly_14 ?_
  refine g_putI (pc := 15) C fl_RX8_310 t0 rfl rfl rfl dX8_plainly_15 (fun h4 eh4 => ?_)
  have hD := hD h4 eh4
  refine g_aload_n (pc := 18) rfl 0 rfl C dX8_plainly_18 ?_
  refine g_iconst (pc := 19) (v := (-1)) (by decide) C dX8_plainly_19 ?_
  refine g_putI (pc := 20) C fl_RX8_307 t0 rfl rfl rfl dX8_plainly_20 (fun h5 eh5 => ?_)
  have hD := hD h5 eh5
  exact g_vret (pc := 23) C R dX8_plainly_23 hD
def DB_Mo_beginsBy_11 (r : TR) (l0 : Nat) (l2 : Int32) (h : TH) (K11 : Int32 → TH → Prop) (K42 : TH → Prop) (Q : TH → Prop) : Prop :=
  ((512 ≤ l2 → K42 h) ∧ (¬ 512 ≤ l2 → ((32 ≤ l2 → vp_in l2 512 ∧ ∀ h8, h8 = pI h (r l0 49) l2.toNatClampNeg (-2) → ∀ x9 : Int32, x9 = l2 + 1 → K11 x9 h8) ∧ (¬ 32 ≤ l2 → vp_in l2 512 ∧ ∀ h10, h10 = pI h (r l0 49) l2.toNatClampNeg 0 → ∀ x11 : Int32, x11 = l2 + 1 → K11 x11 h10))))
set_option maxRecDepth 100000 in
set_option maxHeartbeats 4000000 in
theorem WB_Mo_beginsBy_11 {Y : CG} {X : CX} {r : TR} {l0 : Nat} {l2 : Int32} {h : TH} {K11 : Int32 → TH → Prop} {K42 : TH → Prop} {Q : TH → Prop} (C : Gd Y X cX8_beginsBy 3 RX8 5) (R : Rv Y r X Q) (t0 : TO Y l0 8) (hK11 : ∀ (k2 : Int32) (hh : TH), K11 k2 hh → G Y X 3 11 [(0, .ref l0), (2, .int k2)] [] r hh) (hK42 : ∀ (hh : TH), K42 hh → G Y X 3 42 [(0, .ref l0)] [] r hh) (hD : DB_Mo_beginsBy_11 r l0 l2 h K11 K42 Q) : G Y X 3 11 [(0, .ref l0), (2, .int l2)] [] r h := by
  unfold DB_Mo_beginsBy_11 at hD
  refine g_wt (fun hw => ?_)
  refine g_iload_n (pc := 11) rfl 1 rfl C dX8_beginsBy_11 ?_
  refine g_sipush (pc := 12) (v := 512) (by decide) C dX8_beginsBy_12 ?_
  refine g_icmp_ge (pc := 15) 42 C dX8_beginsBy_15 (by decide) (fun c5 => ?_) (fun c5 => ?_)
  · have hD := hD.1 c5
    refine g_sub [0] rfl ?_
    exact hK42 h hD
  · have hD := hD.2 c5
    refine g_aload_n (pc := 18) rfl 0 rfl C dX8_beginsBy_18 ?_
    have u6 : TA Y (r l0 49) 10 512 := wt_a hw t0 (by decide) (by decide) rfl
    refine g_getR (pc := 19) C fl_RX8_113 t0 rfl dX8_beginsBy_19 ?_
    refine g_iload_n (pc := 22) rfl 1 rfl C dX8_beginsBy_22 ?_
    refine g_iload_n (pc := 23) rfl 1 rfl C dX8_beginsBy_23 ?_
    refine g_bipush (pc := 24) (v := 32) (by decide) C dX8_beginsBy_24 ?_
    refine g_icmp_ge (pc := 26) 33 C dX8_beginsBy_26 (by decide) (fun c7 => ?_) (fun c7 => ?_)
    · have hD := hD.1 c7
      refine g_bipush (pc := 33) (v := (-2)) (by decide) C dX8_beginsBy_33 ?_
      obtain ⟨hb, hD⟩ := hD
      refine g_iast (pc := 35) C u6 hb dX8_beginsBy_35 (fun h8 eh8 => ?_)
      have hD := hD h8 eh8
      refine g_iinc (pc := 36) (q := 1) (c := 1) (fun x9 => [(2, .int x9), (0, .ref l0)]) C dX8_beginsBy_36 rfl (by decide) (by decide) rfl (fun x9 ex9 => ?_)
      have hD := hD x9 ex9
      refine g_goto (pc := 39) 11 C dX8_beginsBy_39 (by decide) ?_
      refine g_sub [1, 0] rfl ?_
      exact hK11 x9 h8 hD
    · have hD := hD.2 c7
      refine g_iconst (pc := 29) (v := 0) (by decide) C dX8_beginsBy_29 ?_
      refine g_goto (pc := 30) 35 C dX8_beginsBy_30 (by decide) ?_
      obtain ⟨hb, hD⟩ := hD
      refine g_iast (pc := 35) C u6 hb dX8_beginsBy_35 (fun h10 eh10 => ?_)
      have hD := hD h10 eh10
      refine g_iinc (pc := 36) (q := 1) (c := 1) (fun x11 => [(2, .int x11), (0, .ref l0)]) C dX8_beginsBy_36 rfl (by decide) (by decide) rfl (fun x11 ex11 => ?_)
      have hD := hD x11 ex11
      refine g_goto (pc := 39) 11 C dX8_beginsBy_39 (by decide) ?_
      refine g_sub [1, 0] rfl ?_
      exact hK11 x11 h10 hD
def DB_Mo_beginsBy_44 (r : TR) (l0 : Nat) (l2 : Int32) (h : TH) (K44 : Int32 → TH → Prop) (K144 : TH → Prop) (Q : TH → Prop) : Prop :=
  ∀ i17 : Int32, i17 = h.1 l0 18 → vp_in i17 2 ∧ (((h.1 (r l0 25) i17.toNatClampNeg) ≤ l2 → K144 h) ∧ (¬ (h.1 (r l0 25) i17.toNatClampNeg) ≤ l2 → ∀ i21 : Int32, i21 = (6 * (h.1 l0 18)) + l2 → vp_in i21 12 ∧ vp_in l2 512 ∧ ∀ h22, h22 = pI h (r l0 49) l2.toNatClampNeg (h.1 (r l0 26) i21.toNatClampNeg) → ∀ i25 : Int32, i25 = (6 * (h22.1 l0 18)) + l2 → vp_in i25 12 ∧ vp_in (6 + l2) 512 ∧ ∀ h26, h26 = pI h22 (r l0 49) ((6 + l2).toNatClampNeg) (h22.1 (r l0 27) i25.toNatClampNeg) → vp_in (24 + l2) 512 ∧ ∀ h28, h28 = pI h26 (r l0 49) ((24 + l2).toNatClampNeg) 1 → vp_in l2 512 ∧ ∀ i31 : Int32, i31 = 6 + l2 → vp_in i31 512 ∧ D_Mo_sortAt r l0 (h28.1 (r l0 49) l2.toNatClampNeg) (h28.1 (r l0 49) i31.toNatClampNeg) h28 (fun x33 h32 => ((¬ x33 = 2 → ∀ x35 : Int32, x35 = l2 + 1 → K44 x35 h32) ∧ (x33 = 2 → D_Mo_homeIs r l0 l2 h32 (fun h36 => ∀ x38 : Int32, x38 = l2 + 1 → K44 x38 h36))))))
set_option maxRecDepth 100000 in
set_option maxHeartbeats 4000000 in
theorem WB_Mo_beginsBy_44 {Y : CG} {X : CX} {r : TR} {l0 : Nat} {l2 : Int32} {h : TH} {K44 : Int32 → TH → Prop} {K144 : TH → Prop} {Q : TH → Prop} (C : Gd Y X cX8_beginsBy 3 RX8 5) (R : Rv Y r X Q) (t0 : TO Y l0 8) (hK44 : ∀ (k2 : Int32) (hh : TH), K44 k2 hh → G Y X 3 44 [(0, .ref l0), (2, .int k2)] [] r hh) (hK144 : ∀ (hh : TH), K144 hh → G Y X 3 144 [(0, .ref l0)] [] r hh) (hD : DB_Mo_beginsBy_44 r l0 l2 h K44 K144 Q) : G Y X 3 44 [(0, .ref l0), (2, .int l2)] [] r h := by
  unfold DB_Mo_beginsBy_44 at hD
  refine g_wt (fun hw => ?_)
  refine g_iload_n (pc := 44) rfl 1 rfl C dX8_beginsBy_44 ?_
  refine g_aload_n (pc := 45) rfl 0 rfl C dX8_beginsBy_45 ?_
  have u16 : TA Y (r l0 25) 10 2 := wt_a hw t0 (by decide) (by decide) rfl
  refine g_getR (pc := 46) C fl_RX8_52 t0 rfl dX8_beginsBy_46 ?_
  refine g_aload_n (pc := 49) rfl 0 rfl C dX8_beginsBy_49 ?_
  refine g_getI (pc := 50) C fl_RX8_230 t0 rfl dX8_beginsBy_50 ?_
  refine g_topi (fun i17 ei17 => ?_)
  have hD := hD i17 ei17
  obtain ⟨hb, hD⟩ := hD
  refine g_iald (pc := 53) C u16 hb dX8_beginsBy_53 ?_
  refine g_icmp_ge (pc := 54) 144 C dX8_beginsBy_54 (by decide) (fun c18 => ?_) (fun c18 => ?_)
  · have hD := hD.1 c18
    refine g_sub [0] rfl ?_
    exact hK144 h hD
  · have hD := hD.2 c18
    refine g_aload_n (pc := 57) rfl 0 rfl C dX8_beginsBy_57 ?_
    have u19 : TA Y (r l0 49) 10 512 := wt_a hw t0 (by decide) (by decide) rfl
    refine g_getR (pc := 58) C fl_RX8_113 t0 rfl dX8_beginsBy_58 ?_
    refine g_iload_n (pc := 61) rfl 1 rfl C dX8_beginsBy_61 ?_
    refine g_aload_n (pc := 62) rfl 0 rfl C dX8_beginsBy_62 ?_
    have u20 : TA Y (r l0 26) 10 12 := wt_a hw t0 (by decide) (by decide) rfl
    refine g_getR (pc := 63) C fl_RX8_55 t0 rfl dX8_beginsBy_63 ?_
    refine g_bipush (pc := 66) (v := 6) (by decide) C dX8_beginsBy_66 ?_
    refine g_aload_n (pc := 68) rfl 0 rfl C dX8_beginsBy_68 ?_
    refine g_getI (pc := 69) C fl_RX8_230 t0 rfl dX8_beginsBy_69 ?_
    refine g_imul (pc := 72) C dX8_beginsBy_72 ?_
    refine g_iload_n (pc := 73) rfl 1 rfl C dX8_beginsBy_73 ?_
    refine g_iadd (pc := 74) C dX8_beginsBy_74 ?_
    refine g_topi (fun i21 ei21 => ?_)
    have hD := hD i21 ei21
    obtain ⟨hb, hD⟩ := hD
    refine g_iald (pc := 75) C u20 hb dX8_beginsBy_75 ?_
    obtain ⟨hb, hD⟩ := hD
    refine g_iast (pc := 76) C u19 hb dX8_beginsBy_76 (fun h22 eh22 => ?_)
    have hD := hD h22 eh22
    refine g_aload_n (pc := 77) rfl 0 rfl C dX8_beginsBy_77 ?_
    have u23 : TA Y (r l0 49) 10 512 := wt_a hw t0 (by decide) (by decide) rfl
    refine g_getR (pc := 78) C fl_RX8_113 t0 rfl dX8_beginsBy_78 ?_
    refine g_bipush (pc := 81) (v := 6) (by decide) C dX8_beginsBy_81 ?_
    refine g_iload_n (pc := 83) rfl 1 rfl C dX8_beginsBy_83 ?_
    refine g_iadd (pc := 84) C dX8_beginsBy_84 ?_
    refine g_aload_n (pc := 85) rfl 0 rfl C dX8_beginsBy_85 ?_
    have u24 : TA Y (r l0 27) 10 12 := wt_a hw t0 (by decide) (by decide) rfl
    refine g_getR (pc := 86) C fl_RX8_58 t0 rfl dX8_beginsBy_86 ?_
    refine g_bipush (pc := 89) (v := 6) (by decide) C dX8_beginsBy_89 ?_
    refine g_aload_n (pc := 91) rfl 0 rfl C dX8_beginsBy_91 ?_
    refine g_getI (pc := 92) C fl_RX8_230 t0 rfl dX8_beginsBy_92 ?_
    refine g_imul (pc := 95) C dX8_beginsBy_95 ?_
    refine g_iload_n (pc := 96) rfl 1 rfl C dX8_beginsBy_96 ?_
    refine g_iadd (pc := 97) C dX8_beginsBy_97 ?_
    refine g_topi (fun i25 ei25 => ?_)
    have hD := hD i25 ei25
    obtain ⟨hb, hD⟩ := hD
    refine g_iald (pc := 98) C u24 hb dX8_beginsBy_98 ?_
    obtain ⟨hb, hD⟩ := hD
    refine g_iast (pc := 99) C u23 hb dX8_beginsBy_99 (fun h26 eh26 => ?_)
    have hD := hD h26 eh26
    refine g_aload_n (pc := 100) rfl 0 rfl C dX8_beginsBy_100 ?_
    have u27 : TA Y (r l0 49) 10 512 := wt_a hw t0 (by decide) (by decide) rfl
    refine g_getR (pc := 101) C fl_RX8_113 t0 rfl dX8_beginsBy_101 ?_
    refine g_bipush (pc := 104) (v := 24) (by decide) C dX8_beginsBy_104 ?_
    refine g_iload_n (pc := 106) rfl 1 rfl C dX8_beginsBy_106 ?_
    refine g_iadd (pc := 107) C dX8_beginsBy_107 ?_
    refine g_iconst (pc := 108) (v := 1) (by decide) C dX8_beginsBy_108 ?_
    obtain ⟨hb, hD⟩ := hD
    refine g_iast (pc := 109) C u27 hb dX8_beginsBy_109 (fun h28 eh28 => ?_)
    have hD := hD h28 eh28
    refine g_aload_n (pc := 110) rfl 0 rfl C dX8_beginsBy_110 ?_
    refine g_aload_n (pc := 111) rfl 0 rfl C dX8_beginsBy_111 ?_
    have u29 : TA Y (r l0 49) 10 512 := wt_a hw t0 (by decide) (by decide) rfl
    refine g_getR (pc := 112) C fl_RX8_113 t0 rfl dX8_beginsBy_112 ?_
    refine g_iload_n (pc := 115) rfl 1 rfl C dX8_beginsBy_115 ?_
    obtain ⟨hb, hD⟩ := hD
    refine g_iald (pc := 116) C u29 hb dX8_beginsBy_116 ?_
    refine g_aload_n (pc := 117) rfl 0 rfl C dX8_beginsBy_117 ?_
    have u30 : TA Y (r l0 49) 10 512 := wt_a hw t0 (by decide) (by decide) rfl
    refine g_getR (pc := 118) C fl_RX8_113 t0 rfl dX8_beginsBy_118 ?_
    refine g_bipush (pc := 121) (v := 6) (by decide) C dX8_beginsBy_121 ?_
    refine g_iload_n (pc := 123) rfl 1 rfl C dX8_beginsBy_123 ?_
    refine g_iadd (pc := 124) C dX8_beginsBy_124 ?_
    refine g_topi (fun i31 ei31 => ?_)
    have hD := hD i31 ei31
    obtain ⟨hb, hD⟩ := hD
    refine g_iald (pc := 125) C u30 hb dX8_beginsBy_125 ?_
    refine g_callVi (pc := 126) (As := [.int (h28.1 (r l0 49) l2.toNatClampNeg), .int (h28.1 (r l0 49) i31.toNatClampNeg)]) C mv_RX8_319 (M_Mo_sortAt t0 hD) t0 (by decide) rfl rfl (Nat.le_of_ble_eq_true rfl) dX8_beginsBy_126 (fun x33 h32 hD => ?_)
    refine g_iconst (pc := 129) (v := 2) (by decide) C dX8_beginsBy_129 ?_
    refine g_icmp_ne (pc := 130) 138 C dX8_beginsBy_130 (by decide) (fun c34 => ?_) (fun c34 => ?_)
    · have hD := hD.1 c34
      refine g_iinc (pc := 138) (q := 1) (c := 1) (fun x35 => [(2, .int x35), (0, .ref l0)]) C dX8_beginsBy_138 rfl (by decide) (by decide) rfl (fun x35 ex35 => ?_)
      have hD := hD x35 ex35
      refine g_goto (pc := 141) 44 C dX8_beginsBy_141 (by decide) ?_
      refine g_sub [1, 0] rfl ?_
      exact hK44 x35 h32 hD
    · have hD := hD.2 c34
      refine g_aload_n (pc := 133) rfl 0 rfl C dX8_beginsBy_133 ?_
      refine g_iload_n (pc := 134) rfl 1 rfl C dX8_beginsBy_134 ?_
      refine g_callVv (pc := 135) (As := [.int l2]) C mv_RX8_322 (M_Mo_homeIs t0 hD) t0 (by decide) rfl rfl (Nat.le_of_ble_eq_true rfl) dX8_beginsBy_135 (fun h36 hD => ?_)
      refine g_iinc (pc := 138) (q := 1) (c := 1) (fun x38 => [(2, .int x38), (0, .ref l0)]) C dX8_beginsBy_138 rfl (by decide) (by decide) rfl (fun x38 ex38 => ?_)
      have hD := hD x38 ex38
      refine g_goto (pc := 141) 44 C dX8_beginsBy_141 (by decide) ?_
      refine g_sub [1, 0] rfl ?_
      exact hK44 x38 h36 hD
def D_Mo_beginsBy (r : TR) (o : Nat) (a1 : Int32) (h : TH) (Q : TH → Prop) : Prop :=
  D_Mo_plainly r o h (fun h1 => ∀ h3, h3 = pI h1 o 52 a1 → ∃ n, lp (fun (K : Int32 × TH → Prop) (s : Int32 × TH) => DB_Mo_beginsBy_11 r o s.1 s.2 (fun y12 h13 => K (y12, h13)) (fun h14 => ∃ n, lp (fun (K : Int32 × TH → Prop) (s : Int32 × TH) => DB_Mo_beginsBy_44 r o s.1 s.2 (fun y39 h40 => K (y39, h40)) (fun h41 => D_Mo_laysAll r o h41 (fun h42 => Q h42)) Q) n (0, h14)) Q) n (0, h3))
set_option maxRecDepth 100000 in
set_option maxHeartbeats 4000000 in
theorem M_Mo_beginsBy {Y : CG} {r : TR} {l : Launch} {o : Nat} {a1 : Int32} {h : TH} {Q : TH → Prop} (t0 : TO Y o 8) (hD : D_Mo_beginsBy r o a1 h Q) : Mv Y r l yX8_beginsBy cX8_beginsBy 3 5 [.ref o, .int a1] h Q := by
  unfold D_Mo_beginsBy at hD
  refine Mv.of RX8 rfl (by decide) (by simp [lg_sl, Value.category]) [(0, .ref o), (1, .int a1)] rfl (fun X hXl C R => ?_)
  subst hXl
  refine g_wt (fun hw => ?_)
  refine g_aload_n (pc := 0) rfl 0 rfl C dX8_beginsBy_0 ?_
  refine g_callVv (pc := 1) (As := []) C mv_RX8_316 (M_Mo_plainly t0 hD) t0 (by decide) rfl rfl (Nat.le_of_ble_eq_true rfl) dX8_beginsBy_1 (fun h1 hD => ?_)
  refine g_aload_n (pc := 4) rfl 0 rfl C dX8_beginsBy_4 ?_
  refine g_iload_n (pc := 5) rfl 1 rfl C dX8_beginsBy_5 ?_
  refine g_putI (pc := 6) C fl_RX8_307 t0 rfl rfl rfl dX8_beginsBy_6 (fun h3 eh3 => ?_)
  have hD := hD h3 eh3
  refine g_iconst (pc := 9) (v := 0) (by decide) C dX8_beginsBy_9 ?_
  refine g_istore_n (pc := 10) (fun _ => [(2, .int 0), (0, .ref o), (1, .int a1)]) C dX8_beginsBy_10 rfl (by decide) rfl (fun _ _ => ?_)
  obtain ⟨n, hD⟩ := hD
  refine g_sub [1, 0] rfl ?_
  refine lp_run (fun s : Int32 × TH => G Y X 3 11 [(0, .ref o), (2, .int s.1)] [] r s.2) (fun K s hB hK => ?_) n (0, h3) hD
  refine WB_Mo_beginsBy_11 C R t0 (fun y12 h13 hk => hK _ hk) (fun h14 hD => ?_) hB
  · refine g_iconst (pc := 42) (v := 0) (by decide) C dX8_beginsBy_42 ?_
    refine g_istore_n (pc := 43) (fun _ => [(2, .int 0), (0, .ref o)]) C dX8_beginsBy_43 rfl (by decide) rfl (fun _ _ => ?_)
    obtain ⟨n, hD⟩ := hD
    refine g_sub [1, 0] rfl ?_
    refine lp_run (fun s : Int32 × TH => G Y X 3 44 [(0, .ref o), (2, .int s.1)] [] r s.2) (fun K s hB hK => ?_) n (0, h14) hD
    refine WB_Mo_beginsBy_44 C R t0 (fun y39 h40 hk => hK _ hk) (fun h41 hD => ?_) hB
    · refine g_aload_n (pc := 144) rfl 0 rfl C dX8_beginsBy_144 ?_
      refine g_callVv (pc := 145) (As := []) C mv_RX8_325 (M_Mo_laysAll t0 hD) t0 (by decide) rfl rfl (Nat.le_of_ble_eq_true rfl) dX8_beginsBy_145 (fun h42 hD => ?_)
      exact g_vret (pc := 148) C R dX8_beginsBy_148 hD
def D_Mo_begins (r : TR) (o : Nat) (h : TH) (Q : TH → Prop) : Prop :=
  D_Mo_beginsBy r o (-1) h (fun h1 => Q h1)
set_option maxRecDepth 100000 in
set_option maxHeartbeats 4000000 in
theorem M_Mo_begins {Y : CG} {r : TR} {l : Launch} {o : Nat} {h : TH} {Q : TH → Prop} (t0 : TO Y o 8) (hD : D_Mo_begins r o h Q) : Mv Y r l yX8_begins cX8_begins 1 6 [.ref o] h Q := by
  unfold D_Mo_begins at hD
  refine Mv.of RX8 rfl (by decide) (by simp [lg_sl, Value.category]) [(0, .ref o)] rfl (fun X hXl C R => ?_)
  subst hXl
  refine g_wt (fun hw => ?_)
  refine g_aload_n (pc := 0) rfl 0 rfl C dX8_begins_0 ?_
  refine g_iconst (pc := 1) (v := (-1)) (by decide) C dX8_begins_1 ?_
  refine g_callVv (pc := 2) (As := [.int (-1)]) C mv_RX8_328 (M_Mo_beginsBy t0 hD) t0 (by decide) rfl rfl (Nat.le_of_ble_eq_true rfl) dX8_begins_2 (fun h1 hD => ?_)
  exact g_vret (pc := 5) C R dX8_begins_5 hD
def DB_Mo_keepsRow_2 (r : TR) (l0 : Nat) (l1 : Int32) (h : TH) (K2 : Int32 → TH → Prop) (K27 : TH → Prop) (Q : TH → Prop) : Prop :=
  ((512 ≤ l1 → K27 h) ∧ (¬ 512 ≤ l1 → vp_in l1 512 ∧ vp_in l1 512 ∧ ∀ h5, h5 = pI h (r l0 48) l1.toNatClampNeg (h.1 (r l0 49) l1.toNatClampNeg) → ∀ x6 : Int32, x6 = l1 + 1 → K2 x6 h5))
set_option maxRecDepth 100000 in
set_option maxHeartbeats 4000000 in
theorem WB_Mo_keepsRow_2 {Y : CG} {X : CX} {r : TR} {l0 : Nat} {l1 : Int32} {h : TH} {K2 : Int32 → TH → Prop} {K27 : TH → Prop} {Q : TH → Prop} (C : Gd Y X cX8_keepsRow 2 RX8 1) (R : Rv Y r X Q) (t0 : TO Y l0 8) (hK2 : ∀ (k1 : Int32) (hh : TH), K2 k1 hh → G Y X 2 2 [(0, .ref l0), (1, .int k1)] [] r hh) (hK27 : ∀ (hh : TH), K27 hh → G Y X 2 27 [] [] r hh) (hD : DB_Mo_keepsRow_2 r l0 l1 h K2 K27 Q) : G Y X 2 2 [(0, .ref l0), (1, .int l1)] [] r h := by
  unfold DB_Mo_keepsRow_2 at hD
  refine g_wt (fun hw => ?_)
  refine g_iload_n (pc := 2) rfl 1 rfl C dX8_keepsRow_2 ?_
  refine g_sipush (pc := 3) (v := 512) (by decide) C dX8_keepsRow_3 ?_
  refine g_icmp_ge (pc := 6) 27 C dX8_keepsRow_6 (by decide) (fun c2 => ?_) (fun c2 => ?_)
  · have hD := hD.1 c2
    refine g_sub [] rfl ?_
    exact hK27 h hD
  · have hD := hD.2 c2
    refine g_aload_n (pc := 9) rfl 0 rfl C dX8_keepsRow_9 ?_
    have u3 : TA Y (r l0 48) 10 512 := wt_a hw t0 (by decide) (by decide) rfl
    refine g_getR (pc := 10) C fl_RX8_110 t0 rfl dX8_keepsRow_10 ?_
    refine g_iload_n (pc := 13) rfl 1 rfl C dX8_keepsRow_13 ?_
    refine g_aload_n (pc := 14) rfl 0 rfl C dX8_keepsRow_14 ?_
    have u4 : TA Y (r l0 49) 10 512 := wt_a hw t0 (by decide) (by decide) rfl
    refine g_getR (pc := 15) C fl_RX8_113 t0 rfl dX8_keepsRow_15 ?_
    refine g_iload_n (pc := 18) rfl 1 rfl C dX8_keepsRow_18 ?_
    obtain ⟨hb, hD⟩ := hD
    refine g_iald (pc := 19) C u4 hb dX8_keepsRow_19 ?_
    obtain ⟨hb, hD⟩ := hD
    refine g_iast (pc := 20) C u3 hb dX8_keepsRow_20 (fun h5 eh5 => ?_)
    have hD := hD h5 eh5
    refine g_iinc (pc := 21) (q := 1) (c := 1) (fun x6 => [(1, .int x6), (0, .ref l0)]) C dX8_keepsRow_21 rfl (by decide) (by decide) rfl (fun x6 ex6 => ?_)
    have hD := hD x6 ex6
    refine g_goto (pc := 24) 2 C dX8_keepsRow_24 (by decide) ?_
    refine g_sub [1, 0] rfl ?_
    exact hK2 x6 h5 hD
def D_Mo_keepsRow (r : TR) (o : Nat) (h : TH) (Q : TH → Prop) : Prop :=
  ∃ n, lp (fun (K : Int32 × TH → Prop) (s : Int32 × TH) => DB_Mo_keepsRow_2 r o s.1 s.2 (fun y7 h8 => K (y7, h8)) (fun h9 => Q h9) Q) n (0, h)
set_option maxRecDepth 100000 in
set_option maxHeartbeats 4000000 in
theorem M_Mo_keepsRow {Y : CG} {r : TR} {l : Launch} {o : Nat} {h : TH} {Q : TH → Prop} (t0 : TO Y o 8) (hD : D_Mo_keepsRow r o h Q) : Mv Y r l yX8_keepsRow cX8_keepsRow 2 1 [.ref o] h Q := by
  unfold D_Mo_keepsRow at hD
  refine Mv.of RX8 rfl (by decide) (by simp [lg_sl, Value.category]) [(0, .ref o)] rfl (fun X hXl C R => ?_)
  subst hXl
  refine g_wt (fun hw => ?_)
  refine g_iconst (pc := 0) (v := 0) (by decide) C dX8_keepsRow_0 ?_
  refine g_istore_n (pc := 1) (fun _ => [(1, .int 0), (0, .ref o)]) C dX8_keepsRow_1 rfl (by decide) rfl (fun _ _ => ?_)
  obtain ⟨n, hD⟩ := hD
  refine g_sub [1, 0] rfl ?_
  refine lp_run (fun s : Int32 × TH => G Y X 2 2 [(0, .ref o), (1, .int s.1)] [] r s.2) (fun K s hB hK => ?_) n (0, h) hD
  refine WB_Mo_keepsRow_2 C R t0 (fun y7 h8 hk => hK _ hk) (fun h9 hD => ?_) hB
  · exact g_vret (pc := 27) C R dX8_keepsRow_27 hD
def DB_Mo_plain_37 (r : TR) (l0 : Nat) (l1 : Int32) (l2 : Int32) (h : TH) (K37 : Int32 → TH → Prop) (K70 : TH → Prop) (Q : TH → Prop) : Prop :=
  ((3 ≤ l2 → K70 h) ∧ (¬ 3 ≤ l2 → vp_in ((3 * l1) + l2) 6 ∧ ∀ h14, h14 = pI h (r l0 32) (((3 * l1) + l2).toNatClampNeg) 0 → vp_in ((3 * l1) + l2) 6 ∧ ∀ h16, h16 = pI h14 (r l0 33) (((3 * l1) + l2).toNatClampNeg) 0 → ∀ x17 : Int32, x17 = l2 + 1 → K37 x17 h16))
set_option maxRecDepth 100000 in
set_option maxHeartbeats 4000000 in
theorem WB_Mo_plain_37 {Y : CG} {X : CX} {r : TR} {l0 : Nat} {l1 : Int32} {l2 : Int32} {h : TH} {K37 : Int32 → TH → Prop} {K70 : TH → Prop} {Q : TH → Prop} (C : Gd Y X cX8_plain 3 RX8 1) (R : Rv Y r X Q) (t0 : TO Y l0 8) (hK37 : ∀ (k2 : Int32) (hh : TH), K37 k2 hh → G Y X 3 37 [(0, .ref l0), (1, .int l1), (2, .int k2)] [] r hh) (hK70 : ∀ (hh : TH), K70 hh → G Y X 3 70 [] [] r hh) (hD : DB_Mo_plain_37 r l0 l1 l2 h K37 K70 Q) : G Y X 3 37 [(0, .ref l0), (1, .int l1), (2, .int l2)] [] r h := by
  unfold DB_Mo_plain_37 at hD
  refine g_wt (fun hw => ?_)
  refine g_iload_n (pc := 37) rfl 2 rfl C dX8_plain_37 ?_
  refine g_iconst (pc := 38) (v := 3) (by decide) C dX8_plain_38 ?_
  refine g_icmp_ge (pc := 39) 70 C dX8_plain_39 (by decide) (fun c12 => ?_) (fun c12 => ?_)
  · have hD := hD.1 c12
    refine g_sub [] rfl ?_
    exact hK70 h hD
  · have hD := hD.2 c12
    refine g_aload_n (pc := 42) rfl 0 rfl C dX8_plain_42 ?_
    have u13 : TA Y (r l0 32) 10 6 := wt_a hw t0 (by decide) (by decide) rfl
    refine g_getR (pc := 43) C fl_RX8_73 t0 rfl dX8_plain_43 ?_
    refine g_iconst (pc := 46) (v := 3) (by decide) C dX8_plain_46 ?_
    refine g_iload_n (pc := 47) rfl 1 rfl C dX8_plain_47 ?_
    refine g_imul (pc := 48) C dX8_plain_48 ?_
    refine g_iload_n (pc := 49) rfl 2 rfl C dX8_plain_49 ?_
    refine g_iadd (pc := 50) C dX8_plain_50 ?_
    refine g_iconst (pc := 51) (v := 0) (by decide) C dX8_plain_51 ?_
    obtain ⟨hb, hD⟩ := hD
    refine g_iast (pc := 52) C u13 hb dX8_plain_52 (fun h14 eh14 => ?_)
    have hD := hD h14 eh14
    refine g_aload_n (pc := 53) rfl 0 rfl C dX8_plain_53 ?_
    have u15 : TA Y (r l0 33) 10 6 := wt_a hw t0 (by decide) (by decide) rfl
    refine g_getR (pc := 54) C fl_RX8_76 t0 rfl dX8_plain_54 ?_
    refine g_iconst (pc := 57) (v := 3) (by decide) C dX8_plain_57 ?_
    refine g_iload_n (pc := 58) rfl 1 rfl C dX8_plain_58 ?_
    refine g_imul (pc := 59) C dX8_plain_59 ?_
    refine g_iload_n (pc := 60) rfl 2 rfl C dX8_plain_60 ?_
    refine g_iadd (pc := 61) C dX8_plain_61 ?_
    refine g_iconst (pc := 62) (v := 0) (by decide) C dX8_plain_62 ?_
    obtain ⟨hb, hD⟩ := hD
    refine g_iast (pc := 63) C u15 hb dX8_plain_63 (fun h16 eh16 => ?_)
    have hD := hD h16 eh16
    refine g_iinc (pc := 64) (q := 2) (c := 1) (fun x17 => [(2, .int x17), (0, .ref l0), (1, .int l1)]) C dX8_plain_64 rfl (by decide) (by decide) rfl (fun x17 ex17 => ?_)
    have hD := hD x17 ex17
    refine g_goto (pc := 67) 37 C dX8_plain_67 (by decide) ?_
    refine g_sub [1, 2, 0] rfl ?_
    exact hK37 x17 h16 hD
def D_Mo_plain (r : TR) (o : Nat) (a1 : Int32) (h : TH) (Q : TH → Prop) : Prop :=
  vp_in a1 2 ∧ ∀ h2, h2 = pI h (r o 22) a1.toNatClampNeg 0 → vp_in a1 2 ∧ ∀ h4, h4 = pI h2 (r o 23) a1.toNatClampNeg 0 → vp_in a1 2 ∧ ∀ h6, h6 = pI h4 (r o 25) a1.toNatClampNeg 0 → vp_in a1 2 ∧ ∀ h8, h8 = pI h6 (r o 30) a1.toNatClampNeg 0 → vp_in a1 2 ∧ ∀ h10, h10 = pI h8 (r o 31) a1.toNatClampNeg 0 → ∃ n, lp (fun (K : Int32 × TH → Prop) (s : Int32 × TH) => DB_Mo_plain_37 r o a1 s.1 s.2 (fun y18 h19 => K (y18, h19)) (fun h20 => Q h20) Q) n (0, h10)
set_option maxRecDepth 100000 in
set_option maxHeartbeats 4000000 in
theorem M_Mo_plain {Y : CG} {r : TR} {l : Launch} {o : Nat} {a1 : Int32} {h : TH} {Q : TH → Prop} (t0 : TO Y o 8) (hD : D_Mo_plain r o a1 h Q) : Mv Y r l yX8_plain cX8_plain 3 1 [.ref o, .int a1] h Q := by
  unfold D_Mo_plain at hD
  refine Mv.of RX8 rfl (by decide) (by simp [lg_sl, Value.category]) [(0, .ref o), (1, .int a1)] rfl (fun X hXl C R => ?_)
  subst hXl
  refine g_wt (fun hw => ?_)
  refine g_aload_n (pc := 0) rfl 0 rfl C dX8_plain_0 ?_
  have u1 : TA Y (r o 22) 10 2 := wt_a hw t0 (by decide) (by decide) rfl
  refine g_getR (pc := 1) C fl_RX8_43 t0 rfl dX8_plain_1 ?_
  refine g_iload_n (pc := 4) rfl 1 rfl C dX8_plain_4 ?_
  refine g_iconst (pc := 5) (v := 0) (by decide) C dX8_plain_5 ?_
  obtain ⟨hb, hD⟩ := hD
  refine g_iast (pc := 6) C u1 hb dX8_plain_6 (fun h2 eh2 => ?_)
  have hD := hD h2 eh2
  refine g_aload_n (pc := 7) rfl 0 rfl C dX8_plain_7 ?_
  have u3 : TA Y (r o 23) 10 2 := wt_a hw t0 (by decide) (by decide) rfl
  refine g_getR (pc := 8) C fl_RX8_46 t0 rfl dX8_plain_8 ?_
  refine g_iload_n (pc := 11) rfl 1 rfl C dX8_plain_11 ?_
  refine g_iconst (pc := 12) (v := 0) (by decide) C dX8_plain_12 ?_
  obtain ⟨hb, hD⟩ := hD
  refine g_iast (pc := 13) C u3 hb dX8_plain_13 (fun h4 eh4 => ?_)
  have hD := hD h4 eh4
  refine g_aload_n (pc := 14) rfl 0 rfl C dX8_plain_14 ?_
  have u5 : TA Y (r o 25) 10 2 := wt_a hw t0 (by decide) (by decide) rfl
  refine g_getR (pc := 15) C fl_RX8_52 t0 rfl dX8_plain_15 ?_
  refine g_iload_n (pc := 18) rfl 1 rfl C dX8_plain_18 ?_
  refine g_iconst (pc := 19) (v := 0) (by decide) C dX8_plain_19 ?_
  obtain ⟨hb, hD⟩ := hD
  refine g_iast (pc := 20) C u5 hb dX8_plain_20 (fun h6 eh6 => ?_)
  have hD := hD h6 eh6
  refine g_aload_n (pc := 21) rfl 0 rfl C dX8_plain_21 ?_
  have u7 : TA Y (r o 30) 10 2 := wt_a hw t0 (by decide) (by decide) rfl
  refine g_getR (pc := 22) C fl_RX8_67 t0 rfl dX8_plain_22 ?_
  refine g_iload_n (pc := 25) rfl 1 rfl C dX8_plain_25 ?_
  refine g_iconst (pc := 26) (v := 0) (by decide) C dX8_plain_26 ?_
  obtain ⟨hb, hD⟩ := hD
  refine g_iast (pc := 27) C u7 hb dX8_plain_27 (fun h8 eh8 => ?_)
  have hD := hD h8 eh8
  refine g_aload_n (pc := 28) rfl 0 rfl C dX8_plain_28 ?_
  have u9 : TA Y (r o 31) 10 2 := wt_a hw t0 (by decide) (by decide) rfl
  refine g_getR (pc := 29) C fl_RX8_70 t0 rfl dX8_plain_29 ?_
  refine g_iload_n (pc := 32) rfl 1 rfl C dX8_plain_32 ?_
  refine g_iconst (pc := 33) (v := 0) (by decide) C dX8_plain_33 ?_
  obtain ⟨hb, hD⟩ := hD
  refine g_iast (pc := 34) C u9 hb dX8_plain_34 (fun h10 eh10 => ?_)
  have hD := hD h10 eh10
  refine g_iconst (pc := 35) (v := 0) (by decide) C dX8_plain_35 ?_
  refine g_istore_n (pc := 36) (fun _ => [(2, .int 0), (0, .ref o), (1, .int a1)]) C dX8_plain_36 rfl (by decide) rfl (fun _ _ => ?_)
  obtain ⟨n, hD⟩ := hD
  refine g_sub [1, 2, 0] rfl ?_
  refine lp_run (fun s : Int32 × TH => G Y X 3 37 [(0, .ref o), (1, .int a1), (2, .int s.1)] [] r s.2) (fun K s hB hK => ?_) n (0, h10) hD
  refine WB_Mo_plain_37 C R t0 (fun y18 h19 hk => hK _ hk) (fun h20 hD => ?_) hB
  · exact g_vret (pc := 70) C R dX8_plain_70 hD
def D_Mo_appends (r : TR) (a0 : Int64) (a2 : Int32) (h : TH) (Q : Int64 → TH → Prop) : Prop :=
  ((¬ a2 = 0 → Q ((27 * a0) + (((a2 - 97) + 1).toInt64)) h) ∧ (a2 = 0 → Q a0 h))
set_option maxRecDepth 100000 in
set_option maxHeartbeats 4000000 in
theorem M_Mo_appends {Y : CG} {r : TR} {l : Launch} {a0 : Int64} {a2 : Int32} {h : TH} {Q : Int64 → TH → Prop} (hD : D_Mo_appends r a0 a2 h Q) : Ml Y r l yX8_appends cX8_appends 3 1 [.long a0, .int a2] h Q := by
  unfold D_Mo_appends at hD
  refine Ml.of RX8 rfl (by decide) (by simp [lg_sl, Value.category]) [(0, .long a0), (2, .int a2)] rfl (fun X hXl C R => ?_)
  subst hXl
  refine g_wt (fun hw => ?_)
  refine g_iload_n (pc := 0) rfl 1 rfl C dX8_appends_0 ?_
  refine g_if_ne (pc := 1) 8 C dX8_appends_1 (by decide) (fun c1 => ?_) (fun c1 => ?_)
  · have hD := hD.1 c1
    refine g_ldc2 (pc := 8) cn_RX8_172 C dX8_appends_8 ?_
    refine g_lload_n (pc := 11) rfl 0 rfl C dX8_appends_11 ?_
    refine g_lmul (pc := 12) C dX8_appends_12 ?_
    refine g_iload_n (pc := 13) rfl 1 rfl C dX8_appends_13 ?_
    refine g_bipush (pc := 14) (v := 97) (by decide) C dX8_appends_14 ?_
    refine g_isub (pc := 16) C dX8_appends_16 ?_
    refine g_iconst (pc := 17) (v := 1) (by decide) C dX8_appends_17 ?_
    refine g_iadd (pc := 18) C dX8_appends_18 ?_
    refine g_i2l (pc := 19) C dX8_appends_19 ?_
    refine g_ladd (pc := 20) C dX8_appends_20 ?_
    exact g_lret (pc := 21) C R dX8_appends_21 hD
  · have hD := hD.2 c1
    refine g_lload_n (pc := 4) rfl 0 rfl C dX8_appends_4 ?_
    refine g_goto (pc := 5) 21 C dX8_appends_5 (by decide) ?_
    exact g_lret (pc := 21) C R dX8_appends_21 hD
def D_Mo_word (r : TR) (a0 : Int32) (a1 : Int32) (a2 : Int32) (a3 : Int32) (a4 : Int32) (a5 : Int32) (a6 : Int32) (h : TH) (Q : Int64 → TH → Prop) : Prop :=
  D_Mo_appends r 0 a0 h (fun x2 h1 => D_Mo_appends r x2 a1 h1 (fun x4 h3 => D_Mo_appends r x4 a2 h3 (fun x6 h5 => D_Mo_appends r x6 a3 h5 (fun x8 h7 => D_Mo_appends r x8 a4 h7 (fun x10 h9 => D_Mo_appends r x10 a5 h9 (fun x12 h11 => D_Mo_appends r x12 a6 h11 (fun x14 h13 => Q x14 h13)))))))
set_option maxRecDepth 100000 in
set_option maxHeartbeats 4000000 in
theorem M_Mo_word {Y : CG} {r : TR} {l : Launch} {a0 : Int32} {a1 : Int32} {a2 : Int32} {a3 : Int32} {a4 : Int32} {a5 : Int32} {a6 : Int32} {h : TH} {Q : Int64 → TH → Prop} (hD : D_Mo_word r a0 a1 a2 a3 a4 a5 a6 h Q) : Ml Y r l yX8_word cX8_word 7 2 [.int a0, .int a1, .int a2, .int a3, .int a4, .int a5, .int a6] h Q := by
  unfold D_Mo_word at hD
  refine Ml.of RX8 rfl (by decide) (by simp [lg_sl, Value.category]) [(0, .int a0), (1, .int a1), (2, .int a2), (3, .int a3), (4, .int a4), (5, .int a5), (6, .int a6)] rfl (fun X hXl C R => ?_)
  subst hXl
  refine g_wt (fun hw => ?_)
  refine g_lconst (pc := 0) (v := 0) (by decide) C dX8_word_0 ?_
  refine g_iload_n (pc := 1) rfl 0 rfl C dX8_word_1 ?_
  refine g_callSl (pc := 2) (As := [.long 0, .int a0]) C ms_RX8_174 (M_Mo_appends  hD) (by decide) rfl rfl (Nat.le_of_ble_eq_true rfl) dX8_word_2 (fun x2 h1 hD => ?_)
  refine g_iload_n (pc := 5) rfl 1 rfl C dX8_word_5 ?_
  refine g_callSl (pc := 6) (As := [.long x2, .int a1]) C ms_RX8_174 (M_Mo_appends  hD) (by decide) rfl rfl (Nat.le_of_ble_eq_true rfl) dX8_word_6 (fun x4 h3 hD => ?_)
  refine g_iload_n (pc := 9) rfl 2 rfl C dX8_word_9 ?_
  refine g_callSl (pc := 10) (As := [.long x4, .int a2]) C ms_RX8_174 (M_Mo_appends  hD) (by decide) rfl rfl (Nat.le_of_ble_eq_true rfl) dX8_word_10 (fun x6 h5 hD => ?_)
  refine g_iload_n (pc := 13) rfl 3 rfl C dX8_word_13 ?_
  refine g_callSl (pc := 14) (As := [.long x6, .int a3]) C ms_RX8_174 (M_Mo_appends  hD) (by decide) rfl rfl (Nat.le_of_ble_eq_true rfl) dX8_word_14 (fun x8 h7 hD => ?_)
  refine g_iload (pc := 17) 4 rfl C dX8_word_17 ?_
  refine g_callSl (pc := 19) (As := [.long x8, .int a4]) C ms_RX8_174 (M_Mo_appends  hD) (by decide) rfl rfl (Nat.le_of_ble_eq_true rfl) dX8_word_19 (fun x10 h9 hD => ?_)
  refine g_iload (pc := 22) 5 rfl C dX8_word_22 ?_
  refine g_callSl (pc := 24) (As := [.long x10, .int a5]) C ms_RX8_174 (M_Mo_appends  hD) (by decide) rfl rfl (Nat.le_of_ble_eq_true rfl) dX8_word_24 (fun x12 h11 hD => ?_)
  refine g_iload (pc := 27) 6 rfl C dX8_word_27 ?_
  refine g_callSl (pc := 29) (As := [.long x12, .int a6]) C ms_RX8_174 (M_Mo_appends  hD) (by decide) rfl rfl (Nat.le_of_ble_eq_true rfl) dX8_word_29 (fun x14 h13 hD => ?_)
  exact g_lret (pc := 32) C R dX8_word_32 hD
def D_Mo_back (r : TR) (o : Nat) (a1 : Int32) (h : TH) (Q : Int32 → TH → Prop) : Prop :=
  ((a1 < 0 → Q (-1) h) ∧ (¬ a1 < 0 → ((a1 ≤ (h.1 o 2) → ∀ h3, h3 = pI h o 2 ((h.1 o 2) - a1) → Q (h3.1 o 2) h3) ∧ (¬ a1 ≤ (h.1 o 2) → Q (-1) h))))
set_option maxRecDepth 100000 in
set_option maxHeartbeats 4000000 in
theorem M_Mo_back {Y : CG} {r : TR} {l : Launch} {o : Nat} {a1 : Int32} {h : TH} {Q : Int32 → TH → Prop} (t0 : TO Y o 8) (hD : D_Mo_back r o a1 h Q) : Mi Y r l yX8_back cX8_back 2 .int 1 [.ref o, .int a1] h Q := by
  unfold D_Mo_back at hD
  refine Mi.of RX8 rfl (by decide) (by simp [lg_sl, Value.category]) [(0, .ref o), (1, .int a1)] rfl (fun X hXl C R => ?_)
  subst hXl
  refine g_wt (fun hw => ?_)
  refine g_iload_n (pc := 0) rfl 1 rfl C dX8_back_0 ?_
  refine g_if_lt (pc := 1) 12 C dX8_back_1 (by decide) (fun c1 => ?_) (fun c1 => ?_)
  · have hD := hD.1 c1
    refine g_iconst (pc := 12) (v := (-1)) (by decide) C dX8_back_12 ?_
    exact g_iret (pc := 13) C R dX8_back_13 hD
  · have hD := hD.2 c1
    refine g_iload_n (pc := 4) rfl 1 rfl C dX8_back_4 ?_
    refine g_aload_n (pc := 5) rfl 0 rfl C dX8_back_5 ?_
    refine g_getI (pc := 6) C fl_RX8_163 t0 rfl dX8_back_6 ?_
    refine g_icmp_le (pc := 9) 14 C dX8_back_9 (by decide) (fun c2 => ?_) (fun c2 => ?_)
    · have hD := hD.1 c2
      refine g_aload_n (pc := 14) rfl 0 rfl C dX8_back_14 ?_
      refine g_dup (pc := 15) rfl C dX8_back_15 ?_
      refine g_getI (pc := 16) C fl_RX8_163 t0 rfl dX8_back_16 ?_
      refine g_iload_n (pc := 19) rfl 1 rfl C dX8_back_19 ?_
      refine g_isub (pc := 20) C dX8_back_20 ?_
      refine g_putI (pc := 21) C fl_RX8_163 t0 rfl rfl rfl dX8_back_21 (fun h3 eh3 => ?_)
      have hD := hD h3 eh3
      refine g_aload_n (pc := 24) rfl 0 rfl C dX8_back_24 ?_
      refine g_getI (pc := 25) C fl_RX8_163 t0 rfl dX8_back_25 ?_
      exact g_iret (pc := 28) C R dX8_back_28 hD
    · have hD := hD.2 c2
      refine g_iconst (pc := 12) (v := (-1)) (by decide) C dX8_back_12 ?_
      exact g_iret (pc := 13) C R dX8_back_13 hD
def DB_Mo_copies_2 (r : TR) (l0 : Nat) (l1 : Int32) (h : TH) (K2 : Int32 → TH → Prop) (K27 : TH → Prop) (Q : TH → Prop) : Prop :=
  ((512 ≤ l1 → K27 h) ∧ (¬ 512 ≤ l1 → vp_in l1 512 ∧ vp_in l1 512 ∧ ∀ h5, h5 = pI h (r l0 49) l1.toNatClampNeg (h.1 (r l0 48) l1.toNatClampNeg) → ∀ x6 : Int32, x6 = l1 + 1 → K2 x6 h5))
set_option maxRecDepth 100000 in
set_option maxHeartbeats 4000000 in
theorem WB_Mo_copies_2 {Y : CG} {X : CX} {r : TR} {l0 : Nat} {l1 : Int32} {h : TH} {K2 : Int32 → TH → Prop} {K27 : TH → Prop} {Q : TH → Prop} (C : Gd Y X cX8_copies 2 RX8 2) (R : Rv Y r X Q) (t0 : TO Y l0 8) (hK2 : ∀ (k1 : Int32) (hh : TH), K2 k1 hh → G Y X 2 2 [(0, .ref l0), (1, .int k1)] [] r hh) (hK27 : ∀ (hh : TH), K27 hh → G Y X 2 27 [(0, .ref l0)] [] r hh) (hD : DB_Mo_copies_2 r l0 l1 h K2 K27 Q) : G Y X 2 2 [(0, .ref l0), (1, .int l1)] [] r h := by
  unfold DB_Mo_copies_2 at hD
  refine g_wt (fun hw => ?_)
  refine g_iload_n (pc := 2) rfl 1 rfl C dX8_copies_2 ?_
  refine g_sipush (pc := 3) (v := 512) (by decide) C dX8_copies_3 ?_
  refine g_icmp_ge (pc := 6) 27 C dX8_copies_6 (by decide) (fun c2 => ?_) (fun c2 => ?_)
  · have hD := hD.1 c2
    refine g_sub [0] rfl ?_
    exact hK27 h hD
  · have hD := hD.2 c2
    refine g_aload_n (pc := 9) rfl 0 rfl C dX8_copies_9 ?_
    have u3 : TA Y (r l0 49) 10 512 := wt_a hw t0 (by decide) (by decide) rfl
    refine g_getR (pc := 10) C fl_RX8_113 t0 rfl dX8_copies_10 ?_
    refine g_iload_n (pc := 13) rfl 1 rfl C dX8_copies_13 ?_
    refine g_aload_n (pc := 14) rfl 0 rfl C dX8_copies_14 ?_
    have u4 : TA Y (r l0 48) 10 512 := wt_a hw t0 (by decide) (by decide) rfl
    refine g_getR (pc := 15) C fl_RX8_110 t0 rfl dX8_copies_15 ?_
    refine g_iload_n (pc := 18) rfl 1 rfl C dX8_copies_18 ?_
    obtain ⟨hb, hD⟩ := hD
    refine g_iald (pc := 19) C u4 hb dX8_copies_19 ?_
    obtain ⟨hb, hD⟩ := hD
    refine g_iast (pc := 20) C u3 hb dX8_copies_20 (fun h5 eh5 => ?_)
    have hD := hD h5 eh5
    refine g_iinc (pc := 21) (q := 1) (c := 1) (fun x6 => [(1, .int x6), (0, .ref l0)]) C dX8_copies_21 rfl (by decide) (by decide) rfl (fun x6 ex6 => ?_)
    have hD := hD x6 ex6
    refine g_goto (pc := 24) 2 C dX8_copies_24 (by decide) ?_
    refine g_sub [1, 0] rfl ?_
    exact hK2 x6 h5 hD
def D_Mo_copies (r : TR) (o : Nat) (h : TH) (Q : TH → Prop) : Prop :=
  ∃ n, lp (fun (K : Int32 × TH → Prop) (s : Int32 × TH) => DB_Mo_copies_2 r o s.1 s.2 (fun y7 h8 => K (y7, h8)) (fun h9 => D_Mo_plainly r o h9 (fun h10 => Q h10)) Q) n (0, h)
set_option maxRecDepth 100000 in
set_option maxHeartbeats 4000000 in
theorem M_Mo_copies {Y : CG} {r : TR} {l : Launch} {o : Nat} {h : TH} {Q : TH → Prop} (t0 : TO Y o 8) (hD : D_Mo_copies r o h Q) : Mv Y r l yX8_copies cX8_copies 2 2 [.ref o] h Q := by
  unfold D_Mo_copies at hD
  refine Mv.of RX8 rfl (by decide) (by simp [lg_sl, Value.category]) [(0, .ref o)] rfl (fun X hXl C R => ?_)
  subst hXl
  refine g_wt (fun hw => ?_)
  refine g_iconst (pc := 0) (v := 0) (by decide) C dX8_copies_0 ?_
  refine g_istore_n (pc := 1) (fun _ => [(1, .int 0), (0, .ref o)]) C dX8_copies_1 rfl (by decide) rfl (fun _ _ => ?_)
  obtain ⟨n, hD⟩ := hD
  refine g_sub [1, 0] rfl ?_
  refine lp_run (fun s : Int32 × TH => G Y X 2 2 [(0, .ref o), (1, .int s.1)] [] r s.2) (fun K s hB hK => ?_) n (0, h) hD
  refine WB_Mo_copies_2 C R t0 (fun y7 h8 hk => hK _ hk) (fun h9 hD => ?_) hB
  · refine g_aload_n (pc := 27) rfl 0 rfl C dX8_copies_27 ?_
    refine g_callVv (pc := 28) (As := []) C mv_RX8_316 (M_Mo_plainly t0 hD) t0 (by decide) rfl rfl (Nat.le_of_ble_eq_true rfl) dX8_copies_28 (fun h10 hD => ?_)
    exact g_vret (pc := 31) C R dX8_copies_31 hD
def DJ_Mo_goesBy_98 (r : TR) (l5 : Int32) (h : TH) (Q : Int32 → TH → Prop) : Prop :=
  ((¬ l5 = 0 → ((¬ l5 = 2 → Q 2 h) ∧ (l5 = 2 → Q 1 h))) ∧ (l5 = 0 → Q 0 h))
set_option maxRecDepth 100000 in
set_option maxHeartbeats 4000000 in
theorem WJ_Mo_goesBy_98 {Y : CG} {X : CX} {r : TR} {l5 : Int32} {h : TH} {Q : Int32 → TH → Prop} (C : Gd Y X cX8_goesBy 6 RX8 3) (R : Ri Y r X .int Q) (hD : DJ_Mo_goesBy_98 r l5 h  Q) : G Y X 6 98 [(5, .int l5)] [] r h := by
  unfold DJ_Mo_goesBy_98 at hD
  refine g_wt (fun hw => ?_)
  refine g_iload (pc := 98) 0 rfl C dX8_goesBy_98 ?_
  refine g_if_ne (pc := 100) 107 C dX8_goesBy_100 (by decide) (fun c23 => ?_) (fun c23 => ?_)
  · have hD := hD.1 c23
    refine g_iload (pc := 107) 0 rfl C dX8_goesBy_107 ?_
    refine g_iconst (pc := 109) (v := 2) (by decide) C dX8_goesBy_109 ?_
    refine g_icmp_ne (pc := 110) 117 C dX8_goesBy_110 (by decide) (fun c24 => ?_) (fun c24 => ?_)
    · have hD := hD.1 c24
      refine g_iconst (pc := 117) (v := 2) (by decide) C dX8_goesBy_117 ?_
      exact g_iret (pc := 118) C R dX8_goesBy_118 hD
    · have hD := hD.2 c24
      refine g_iconst (pc := 113) (v := 1) (by decide) C dX8_goesBy_113 ?_
      refine g_goto (pc := 114) 118 C dX8_goesBy_114 (by decide) ?_
      exact g_iret (pc := 118) C R dX8_goesBy_118 hD
  · have hD := hD.2 c23
    refine g_iconst (pc := 103) (v := 0) (by decide) C dX8_goesBy_103 ?_
    refine g_goto (pc := 104) 118 C dX8_goesBy_104 (by decide) ?_
    exact g_iret (pc := 118) C R dX8_goesBy_118 hD
def DJ_Mo_goesBy_87 (r : TR) (l0 : Nat) (l1 : Int32) (l5 : Int32) (h : TH) (Q : Int32 → TH → Prop) : Prop :=
  ((¬ l5 = 2 → DJ_Mo_goesBy_98 r l5 h Q) ∧ (l5 = 2 → D_Mo_homeIs r l0 l1 h (fun h25 => DJ_Mo_goesBy_98 r l5 h25 Q)))
set_option maxRecDepth 100000 in
set_option maxHeartbeats 4000000 in
theorem WJ_Mo_goesBy_87 {Y : CG} {X : CX} {r : TR} {l0 : Nat} {l1 : Int32} {l5 : Int32} {h : TH} {Q : Int32 → TH → Prop} (C : Gd Y X cX8_goesBy 6 RX8 3) (R : Ri Y r X .int Q) (t0 : TO Y l0 8) (hD : DJ_Mo_goesBy_87 r l0 l1 l5 h  Q) : G Y X 6 87 [(0, .ref l0), (1, .int l1), (5, .int l5)] [] r h := by
  unfold DJ_Mo_goesBy_87 at hD
  refine g_wt (fun hw => ?_)
  refine g_iload (pc := 87) 2 rfl C dX8_goesBy_87 ?_
  refine g_iconst (pc := 89) (v := 2) (by decide) C dX8_goesBy_89 ?_
  refine g_icmp_ne (pc := 90) 98 C dX8_goesBy_90 (by decide) (fun c22 => ?_) (fun c22 => ?_)
  · have hD := hD.1 c22
    refine g_sub [2] rfl ?_
    exact WJ_Mo_goesBy_98 C R  hD
  · have hD := hD.2 c22
    refine g_aload_n (pc := 93) rfl 0 rfl C dX8_goesBy_93 ?_
    refine g_iload_n (pc := 94) rfl 1 rfl C dX8_goesBy_94 ?_
    refine g_callVv (pc := 95) (As := [.int l1]) C mv_RX8_322 (M_Mo_homeIs t0 hD) t0 (by decide) rfl rfl (Nat.le_of_ble_eq_true rfl) dX8_goesBy_95 (fun h25 hD => ?_)
    refine g_sub [2] rfl ?_
    exact WJ_Mo_goesBy_98 C R  hD
def D_Mo_goesBy (r : TR) (o : Nat) (a1 : Int32) (a2 : Int32) (h : TH) (Q : Int32 → TH → Prop) : Prop :=
  vp_in a1 512 ∧ D_Mo_eastBy r a2 h (fun x3 h2 => ∀ x4 : Int32, x4 = (h.1 (r o 49) a1.toNatClampNeg) + x3 → ∀ i6 : Int32, i6 = 6 + a1 → vp_in i6 512 ∧ D_Mo_southBy r a2 h2 (fun x8 h7 => ∀ x9 : Int32, x9 = (h2.1 (r o 49) i6.toNatClampNeg) + x8 → ((a2 = 0 → Q 3 h7) ∧ (¬ a2 = 0 → D_Mo_isCell r o x4 x9 h7 (fun x12 h11 => ((¬ x12 = 0 → D_Mo_sortAt r o x4 x9 h11 (fun x15 h14 => vp_in a1 512 ∧ ∀ h18, h18 = pI h14 (r o 49) a1.toNatClampNeg x4 → vp_in (6 + a1) 512 ∧ ∀ h20, h20 = pI h18 (r o 49) ((6 + a1).toNatClampNeg) x9 → ((¬ x15 = 1 → DJ_Mo_goesBy_87 r o a1 x15 h20 Q) ∧ (x15 = 1 → vp_in (18 + a1) 512 ∧ ∀ h28, h28 = pI h20 (r o 49) ((18 + a1).toNatClampNeg) 1 → DJ_Mo_goesBy_87 r o a1 x15 h28 Q)))) ∧ (x12 = 0 → Q 3 h11)))))))
set_option maxRecDepth 100000 in
set_option maxHeartbeats 4000000 in
theorem M_Mo_goesBy {Y : CG} {r : TR} {l : Launch} {o : Nat} {a1 : Int32} {a2 : Int32} {h : TH} {Q : Int32 → TH → Prop} (t0 : TO Y o 8) (hD : D_Mo_goesBy r o a1 a2 h Q) : Mi Y r l yX8_goesBy cX8_goesBy 6 .int 3 [.ref o, .int a1, .int a2] h Q := by
  unfold D_Mo_goesBy at hD
  refine Mi.of RX8 rfl (by decide) (by simp [lg_sl, Value.category]) [(0, .ref o), (1, .int a1), (2, .int a2)] rfl (fun X hXl C R => ?_)
  subst hXl
  refine g_wt (fun hw => ?_)
  refine g_aload_n (pc := 0) rfl 0 rfl C dX8_goesBy_0 ?_
  have u1 : TA Y (r o 49) 10 512 := wt_a hw t0 (by decide) (by decide) rfl
  refine g_getR (pc := 1) C fl_RX8_113 t0 rfl dX8_goesBy_1 ?_
  refine g_iload_n (pc := 4) rfl 1 rfl C dX8_goesBy_4 ?_
  obtain ⟨hb, hD⟩ := hD
  refine g_iald (pc := 5) C u1 hb dX8_goesBy_5 ?_
  refine g_iload_n (pc := 6) rfl 2 rfl C dX8_goesBy_6 ?_
  refine g_callSi (pc := 7) (As := [.int a2]) C ms_RX8_354 (M_Mo_eastBy  hD) (by decide) rfl rfl (Nat.le_of_ble_eq_true rfl) dX8_goesBy_7 (fun x3 h2 hD => ?_)
  refine g_iadd (pc := 10) C dX8_goesBy_10 ?_
  refine g_istore_n (pc := 11) (fun x4 => [(3, .int x4), (0, .ref o), (1, .int a1), (2, .int a2)]) C dX8_goesBy_11 rfl (by decide) rfl (fun x4 ex4 => ?_)
  have hD := hD x4 ex4
  refine g_aload_n (pc := 12) rfl 1 rfl C dX8_goesBy_12 ?_
  have u5 : TA Y (r o 49) 10 512 := wt_a hw t0 (by decide) (by decide) rfl
  refine g_getR (pc := 13) C fl_RX8_113 t0 rfl dX8_goesBy_13 ?_
  refine g_bipush (pc := 16) (v := 6) (by decide) C dX8_goesBy_16 ?_
  refine g_iload_n (pc := 18) rfl 2 rfl C dX8_goesBy_18 ?_
  refine g_iadd (pc := 19) C dX8_goesBy_19 ?_
  refine g_topi (fun i6 ei6 => ?_)
  have hD := hD i6 ei6
  obtain ⟨hb, hD⟩ := hD
  refine g_iald (pc := 20) C u5 hb dX8_goesBy_20 ?_
  refine g_iload_n (pc := 21) rfl 3 rfl C dX8_goesBy_21 ?_
  refine g_callSi (pc := 22) (As := [.int a2]) C ms_RX8_357 (M_Mo_southBy  hD) (by decide) rfl rfl (Nat.le_of_ble_eq_true rfl) dX8_goesBy_22 (fun x8 h7 hD => ?_)
  refine g_iadd (pc := 25) C dX8_goesBy_25 ?_
  refine g_istore (pc := 26) (fun x9 => [(4, .int x9), (3, .int x4), (0, .ref o), (1, .int a1), (2, .int a2)]) C dX8_goesBy_26 (by decide) rfl (fun x9 ex9 => ?_)
  have hD := hD x9 ex9
  refine g_iload_n (pc := 28) rfl 4 rfl C dX8_goesBy_28 ?_
  refine g_if_eq (pc := 29) 42 C dX8_goesBy_29 (by decide) (fun c10 => ?_) (fun c10 => ?_)
  · have hD := hD.1 c10
    refine g_iconst (pc := 42) (v := 3) (by decide) C dX8_goesBy_42 ?_
    exact g_iret (pc := 43) C R dX8_goesBy_43 hD
  · have hD := hD.2 c10
    refine g_aload_n (pc := 32) rfl 2 rfl C dX8_goesBy_32 ?_
    refine g_iload_n (pc := 33) rfl 1 rfl C dX8_goesBy_33 ?_
    refine g_iload (pc := 34) 0 rfl C dX8_goesBy_34 ?_
    refine g_callVi (pc := 36) (As := [.int x4, .int x9]) C mv_RX8_360 (M_Mo_isCell t0 hD) t0 (by decide) rfl rfl (Nat.le_of_ble_eq_true rfl) dX8_goesBy_36 (fun x12 h11 hD => ?_)
    refine g_if_ne (pc := 39) 44 C dX8_goesBy_39 (by decide) (fun c13 => ?_) (fun c13 => ?_)
    · have hD := hD.1 c13
      refine g_aload_n (pc := 44) rfl 2 rfl C dX8_goesBy_44 ?_
      refine g_iload_n (pc := 45) rfl 1 rfl C dX8_goesBy_45 ?_
      refine g_iload (pc := 46) 0 rfl C dX8_goesBy_46 ?_
      refine g_callVi (pc := 48) (As := [.int x4, .int x9]) C mv_RX8_319 (M_Mo_sortAt t0 hD) t0 (by decide) rfl rfl (Nat.le_of_ble_eq_true rfl) dX8_goesBy_48 (fun x15 h14 hD => ?_)
      refine g_istore (pc := 51) (fun _ => [(5, .int x15), (4, .int x9), (3, .int x4), (0, .ref o), (1, .int a1), (2, .int a2)]) C dX8_goesBy_51 (by decide) rfl (fun _ _ => ?_)
      refine g_aload_n (pc := 53) rfl 3 rfl C dX8_goesBy_53 ?_
      have u17 : TA Y (r o 49) 10 512 := wt_a hw t0 (by decide) (by decide) rfl
      refine g_getR (pc := 54) C fl_RX8_113 t0 rfl dX8_goesBy_54 ?_
      refine g_iload_n (pc := 57) rfl 4 rfl C dX8_goesBy_57 ?_
      refine g_iload_n (pc := 58) rfl 2 rfl C dX8_goesBy_58 ?_
      obtain ⟨hb, hD⟩ := hD
      refine g_iast (pc := 59) C u17 hb dX8_goesBy_59 (fun h18 eh18 => ?_)
      have hD := hD h18 eh18
      refine g_aload_n (pc := 60) rfl 3 rfl C dX8_goesBy_60 ?_
      have u19 : TA Y (r o 49) 10 512 := wt_a hw t0 (by decide) (by decide) rfl
      refine g_getR (pc := 61) C fl_RX8_113 t0 rfl dX8_goesBy_61 ?_
      refine g_bipush (pc := 64) (v := 6) (by decide) C dX8_goesBy_64 ?_
      refine g_iload_n (pc := 66) rfl 4 rfl C dX8_goesBy_66 ?_
      refine g_iadd (pc := 67) C dX8_goesBy_67 ?_
      refine g_iload (pc := 68) 1 rfl C dX8_goesBy_68 ?_
      obtain ⟨hb, hD⟩ := hD
      refine g_iast (pc := 70) C u19 hb dX8_goesBy_70 (fun h20 eh20 => ?_)
      have hD := hD h20 eh20
      refine g_iload (pc := 71) 0 rfl C dX8_goesBy_71 ?_
      refine g_iconst (pc := 73) (v := 1) (by decide) C dX8_goesBy_73 ?_
      refine g_icmp_ne (pc := 74) 87 C dX8_goesBy_74 (by decide) (fun c21 => ?_) (fun c21 => ?_)
      · have hD := hD.1 c21
        refine g_sub [3, 4, 0] rfl ?_
        exact WJ_Mo_goesBy_87 C R t0 hD
      · have hD := hD.2 c21
        refine g_aload_n (pc := 77) rfl 3 rfl C dX8_goesBy_77 ?_
        have u27 : TA Y (r o 49) 10 512 := wt_a hw t0 (by decide) (by decide) rfl
        refine g_getR (pc := 78) C fl_RX8_113 t0 rfl dX8_goesBy_78 ?_
        refine g_bipush (pc := 81) (v := 18) (by decide) C dX8_goesBy_81 ?_
        refine g_iload_n (pc := 83) rfl 4 rfl C dX8_goesBy_83 ?_
        refine g_iadd (pc := 84) C dX8_goesBy_84 ?_
        refine g_iconst (pc := 85) (v := 1) (by decide) C dX8_goesBy_85 ?_
        obtain ⟨hb, hD⟩ := hD
        refine g_iast (pc := 86) C u27 hb dX8_goesBy_86 (fun h28 eh28 => ?_)
        have hD := hD h28 eh28
        refine g_sub [3, 4, 0] rfl ?_
        exact WJ_Mo_goesBy_87 C R t0 hD
    · have hD := hD.2 c13
      refine g_iconst (pc := 42) (v := 3) (by decide) C dX8_goesBy_42 ?_
      exact g_iret (pc := 43) C R dX8_goesBy_43 hD
def DB_Mo_bits_4 (r : TR) (l0 : Int32) (l1 : Int32) (l2 : Int32) (h : TH) (K4 : Int32 → Int32 → TH → Prop) (K24 : Int32 → TH → Prop) (Q : Int32 → TH → Prop) : Prop :=
  ((6 ≤ l2 → K24 l1 h) ∧ (¬ 6 ≤ l2 → ∀ x4 : Int32, x4 = l1 + ((l0 >>> (l2 &&& 31)) &&& 1) → ∀ x5 : Int32, x5 = l2 + 1 → K4 x4 x5 h))
set_option maxRecDepth 100000 in
set_option maxHeartbeats 4000000 in
theorem WB_Mo_bits_4 {Y : CG} {X : CX} {r : TR} {l0 : Int32} {l1 : Int32} {l2 : Int32} {h : TH} {K4 : Int32 → Int32 → TH → Prop} {K24 : Int32 → TH → Prop} {Q : Int32 → TH → Prop} (C : Gd Y X cX8_bits 3 RX8 1) (R : Ri Y r X .int Q) (hK4 : ∀ (k1 : Int32) (k2 : Int32) (hh : TH), K4 k1 k2 hh → G Y X 3 4 [(0, .int l0), (1, .int k1), (2, .int k2)] [] r hh) (hK24 : ∀ (k1 : Int32) (hh : TH), K24 k1 hh → G Y X 3 24 [(1, .int k1)] [] r hh) (hD : DB_Mo_bits_4 r l0 l1 l2 h K4 K24 Q) : G Y X 3 4 [(0, .int l0), (1, .int l1), (2, .int l2)] [] r h := by
  unfold DB_Mo_bits_4 at hD
  refine g_wt (fun hw => ?_)
  refine g_iload_n (pc := 4) rfl 2 rfl C dX8_bits_4 ?_
  refine g_bipush (pc := 5) (v := 6) (by decide) C dX8_bits_5 ?_
  refine g_icmp_ge (pc := 7) 24 C dX8_bits_7 (by decide) (fun c3 => ?_) (fun c3 => ?_)
  · have hD := hD.1 c3
    refine g_sub [1] rfl ?_
    exact hK24 l1 h hD
  · have hD := hD.2 c3
    refine g_iload_n (pc := 10) rfl 1 rfl C dX8_bits_10 ?_
    refine g_iload_n (pc := 11) rfl 0 rfl C dX8_bits_11 ?_
    refine g_iload_n (pc := 12) rfl 2 rfl C dX8_bits_12 ?_
    refine g_ishr (pc := 13) C dX8_bits_13 ?_
    refine g_iconst (pc := 14) (v := 1) (by decide) C dX8_bits_14 ?_
    refine g_iand (pc := 15) C dX8_bits_15 ?_
    refine g_iadd (pc := 16) C dX8_bits_16 ?_
    refine g_istore_n (pc := 17) (fun x4 => [(1, .int x4), (0, .int l0), (2, .int l2)]) C dX8_bits_17 rfl (by decide) rfl (fun x4 ex4 => ?_)
    have hD := hD x4 ex4
    refine g_iinc (pc := 18) (q := 2) (c := 1) (fun x5 => [(2, .int x5), (1, .int x4), (0, .int l0)]) C dX8_bits_18 rfl (by decide) (by decide) rfl (fun x5 ex5 => ?_)
    have hD := hD x5 ex5
    refine g_goto (pc := 21) 4 C dX8_bits_21 (by decide) ?_
    refine g_sub [2, 1, 0] rfl ?_
    exact hK4 x4 x5 h hD
def D_Mo_bits (r : TR) (a0 : Int32) (h : TH) (Q : Int32 → TH → Prop) : Prop :=
  ∃ n, lp (fun (K : Int32 × Int32 × TH → Prop) (s : Int32 × Int32 × TH) => DB_Mo_bits_4 r a0 s.1 s.2.1 s.2.2 (fun y6 y7 h8 => K (y6, y7, h8)) (fun x9 h10 => Q x9 h10) Q) n (0, 0, h)
set_option maxRecDepth 100000 in
set_option maxHeartbeats 4000000 in
theorem M_Mo_bits {Y : CG} {r : TR} {l : Launch} {a0 : Int32} {h : TH} {Q : Int32 → TH → Prop} (hD : D_Mo_bits r a0 h Q) : Mi Y r l yX8_bits cX8_bits 3 .int 1 [.int a0] h Q := by
  unfold D_Mo_bits at hD
  refine Mi.of RX8 rfl (by decide) (by simp [lg_sl, Value.category]) [(0, .int a0)] rfl (fun X hXl C R => ?_)
  subst hXl
  refine g_wt (fun hw => ?_)
  refine g_iconst (pc := 0) (v := 0) (by decide) C dX8_bits_0 ?_
  refine g_istore_n (pc := 1) (fun _ => [(1, .int 0), (0, .int a0)]) C dX8_bits_1 rfl (by decide) rfl (fun _ _ => ?_)
  refine g_iconst (pc := 2) (v := 0) (by decide) C dX8_bits_2 ?_
  refine g_istore_n (pc := 3) (fun _ => [(2, .int 0), (1, .int 0), (0, .int a0)]) C dX8_bits_3 rfl (by decide) rfl (fun _ _ => ?_)
  obtain ⟨n, hD⟩ := hD
  refine g_sub [2, 1, 0] rfl ?_
  refine lp_run (fun s : Int32 × Int32 × TH => G Y X 3 4 [(0, .int a0), (1, .int s.1), (2, .int s.2.1)] [] r s.2.2) (fun K s hB hK => ?_) n (0, 0, h) hD
  refine WB_Mo_bits_4 C R (fun y6 y7 h8 hk => hK _ hk) (fun x9 h10 hD => ?_) hB
  · refine g_iload_n (pc := 24) rfl 0 rfl C dX8_bits_24 ?_
    exact g_iret (pc := 25) C R dX8_bits_25 hD
def D_Mo_mixed (r : TR) (a0 : Int32) (a1 : Int32) (h : TH) (Q : Int32 → TH → Prop) : Prop :=
  ∀ x1 : Int32, x1 = ((a0 ^^^ a1) * 1103515245) + 12345 → Q (x1 ^^^ (jushr x1 15)) h
set_option maxRecDepth 100000 in
set_option maxHeartbeats 4000000 in
theorem M_Mo_mixed {Y : CG} {r : TR} {l : Launch} {a0 : Int32} {a1 : Int32} {h : TH} {Q : Int32 → TH → Prop} (hD : D_Mo_mixed r a0 a1 h Q) : Mi Y r l yX8_mixed cX8_mixed 3 .int 1 [.int a0, .int a1] h Q := by
  unfold D_Mo_mixed at hD
  refine Mi.of RX8 rfl (by decide) (by simp [lg_sl, Value.category]) [(0, .int a0), (1, .int a1)] rfl (fun X hXl C R => ?_)
  subst hXl
  refine g_wt (fun hw => ?_)
  refine g_iload_n (pc := 0) rfl 0 rfl C dX8_mixed_0 ?_
  refine g_iload_n (pc := 1) rfl 1 rfl C dX8_mixed_1 ?_
  refine g_ixor (pc := 2) C dX8_mixed_2 ?_
  refine g_ldcw (pc := 3) cn_RX8_331 C dX8_mixed_3 ?_
  refine g_imul (pc := 6) C dX8_mixed_6 ?_
  refine g_sipush (pc := 7) (v := 12345) (by decide) C dX8_mixed_7 ?_
  refine g_iadd (pc := 10) C dX8_mixed_10 ?_
  refine g_istore_n (pc := 11) (fun x1 => [(2, .int x1), (0, .int a0), (1, .int a1)]) C dX8_mixed_11 rfl (by decide) rfl (fun x1 ex1 => ?_)
  have hD := hD x1 ex1
  refine g_iload_n (pc := 12) rfl 0 rfl C dX8_mixed_12 ?_
  refine g_iload_n (pc := 13) rfl 0 rfl C dX8_mixed_13 ?_
  refine g_bipush (pc := 14) (v := 15) (by decide) C dX8_mixed_14 ?_
  refine g_iushr (pc := 16) C dX8_mixed_16 ?_
  refine g_ixor (pc := 17) C dX8_mixed_17 ?_
  exact g_iret (pc := 18) C R dX8_mixed_18 hD
def D_Mo_hasCold (r : TR) (o : Nat) (a1 : Int32) (h : TH) (Q : Int32 → TH → Prop) : Prop :=
  D_Mo_mixed r (h.1 o 50) 69 h (fun x2 h1 => D_Mo_mixed r x2 ((16 * (h1.1 (r o 49) ((30 : Int32).toNatClampNeg))) + a1) h1 (fun x5 h4 => ∀ i7 : Int32, i7 = h4.1 o 18 → vp_in i7 2 ∧ (((h4.1 (r o 30) i7.toNatClampNeg) ≤ (jrem (jushr x5 1) 100) → Q 0 h4) ∧ (¬ (h4.1 (r o 30) i7.toNatClampNeg) ≤ (jrem (jushr x5 1) 100) → Q 1 h4))))
set_option maxRecDepth 100000 in
set_option maxHeartbeats 4000000 in
theorem M_Mo_hasCold {Y : CG} {r : TR} {l : Launch} {o : Nat} {a1 : Int32} {h : TH} {Q : Int32 → TH → Prop} (t0 : TO Y o 8) (hD : D_Mo_hasCold r o a1 h Q) : Mi Y r l yX8_hasCold cX8_hasCold 2 .boolean 2 [.ref o, .int a1] h Q := by
  unfold D_Mo_hasCold at hD
  refine Mi.of RX8 rfl (by decide) (by simp [lg_sl, Value.category]) [(0, .ref o), (1, .int a1)] rfl (fun X hXl C R => ?_)
  subst hXl
  refine g_wt (fun hw => ?_)
  refine g_aload_n (pc := 0) rfl 0 rfl C dX8_hasCold_0 ?_
  refine g_getI (pc := 1) C fl_RX8_313 t0 rfl dX8_hasCold_1 ?_
  refine g_bipush (pc := 4) (v := 69) (by decide) C dX8_hasCold_4 ?_
  refine g_callSi (pc := 6) (As := [.int (h.1 o 50), .int 69]) C ms_RX8_332 (M_Mo_mixed  hD) (by decide) rfl rfl (Nat.le_of_ble_eq_true rfl) dX8_hasCold_6 (fun x2 h1 hD => ?_)
  refine g_bipush (pc := 9) (v := 16) (by decide) C dX8_hasCold_9 ?_
  refine g_aload_n (pc := 11) rfl 0 rfl C dX8_hasCold_11 ?_
  have u3 : TA Y (r o 49) 10 512 := wt_a hw t0 (by decide) (by decide) rfl
  refine g_getR (pc := 12) C fl_RX8_113 t0 rfl dX8_hasCold_12 ?_
  refine g_bipush (pc := 15) (v := 30) (by decide) C dX8_hasCold_15 ?_
  refine g_iald (pc := 17) C u3 (by unfold vp_in; decide) dX8_hasCold_17 ?_
  refine g_imul (pc := 18) C dX8_hasCold_18 ?_
  refine g_iload_n (pc := 19) rfl 1 rfl C dX8_hasCold_19 ?_
  refine g_iadd (pc := 20) C dX8_hasCold_20 ?_
  refine g_callSi (pc := 21) (As := [.int x2, .int ((16 * (h1.1 (r o 49) ((30 : Int32).toNatClampNeg))) + a1)]) C ms_RX8_332 (M_Mo_mixed  hD) (by decide) rfl rfl (Nat.le_of_ble_eq_true rfl) dX8_hasCold_21 (fun x5 h4 hD => ?_)
  refine g_iconst (pc := 24) (v := 1) (by decide) C dX8_hasCold_24 ?_
  refine g_iushr (pc := 25) C dX8_hasCold_25 ?_
  refine g_bipush (pc := 26) (v := 100) (by decide) C dX8_hasCold_26 ?_
  refine g_irem (pc := 28) (by decide) C dX8_hasCold_28 ?_
  refine g_aload_n (pc := 29) rfl 0 rfl C dX8_hasCold_29 ?_
  have u6 : TA Y (r o 30) 10 2 := wt_a hw t0 (by decide) (by decide) rfl
  refine g_getR (pc := 30) C fl_RX8_67 t0 rfl dX8_hasCold_30 ?_
  refine g_aload_n (pc := 33) rfl 0 rfl C dX8_hasCold_33 ?_
  refine g_getI (pc := 34) C fl_RX8_230 t0 rfl dX8_hasCold_34 ?_
  refine g_topi (fun i7 ei7 => ?_)
  have hD := hD i7 ei7
  obtain ⟨hb, hD⟩ := hD
  refine g_iald (pc := 37) C u6 hb dX8_hasCold_37 ?_
  refine g_icmp_ge (pc := 38) 45 C dX8_hasCold_38 (by decide) (fun c8 => ?_) (fun c8 => ?_)
  · have hD := hD.1 c8
    refine g_iconst (pc := 45) (v := 0) (by decide) C dX8_hasCold_45 ?_
    exact g_zret (pc := 46) C R nz_0 dX8_hasCold_46 hD
  · have hD := hD.2 c8
    refine g_iconst (pc := 41) (v := 1) (by decide) C dX8_hasCold_41 ?_
    refine g_goto (pc := 42) 46 C dX8_hasCold_42 (by decide) ?_
    exact g_zret (pc := 46) C R nz_1 dX8_hasCold_46 hD
def D_Mo_isSmelt (r : TR) (o : Nat) (a1 : Int32) (a2 : Int32) (a3 : Int32) (h : TH) (Q : Int32 → TH → Prop) : Prop :=
  ∀ x1 : Int32, x1 = (6 * ((8 * a2) + a1)) + a3 → ∀ i3 : Int32, i3 = 32 + x1 → vp_in i3 512 ∧ (((h.1 (r o 49) i3.toNatClampNeg) < 0 → Q 0 h) ∧ (¬ (h.1 (r o 49) i3.toNatClampNeg) < 0 → ∀ i6 : Int32, i6 = 272 + x1 → vp_in i6 512 ∧ (((h.1 (r o 49) i6.toNatClampNeg) < (h.1 (r o 49) ((30 : Int32).toNatClampNeg)) → Q 0 h) ∧ (¬ (h.1 (r o 49) i6.toNatClampNeg) < (h.1 (r o 49) ((30 : Int32).toNatClampNeg)) → Q 1 h))))
set_option maxRecDepth 100000 in
set_option maxHeartbeats 4000000 in
theorem M_Mo_isSmelt {Y : CG} {r : TR} {l : Launch} {o : Nat} {a1 : Int32} {a2 : Int32} {a3 : Int32} {h : TH} {Q : Int32 → TH → Prop} (t0 : TO Y o 8) (hD : D_Mo_isSmelt r o a1 a2 a3 h Q) : Mi Y r l yX8_isSmelt cX8_isSmelt 5 .boolean 1 [.ref o, .int a1, .int a2, .int a3] h Q := by
  unfold D_Mo_isSmelt at hD
  refine Mi.of RX8 rfl (by decide) (by simp [lg_sl, Value.category]) [(0, .ref o), (1, .int a1), (2, .int a2), (3, .int a3)] rfl (fun X hXl C R => ?_)
  subst hXl
  refine g_wt (fun hw => ?_)
  refine g_bipush (pc := 0) (v := 6) (by decide) C dX8_isSmelt_0 ?_
  refine g_bipush (pc := 2) (v := 8) (by decide) C dX8_isSmelt_2 ?_
  refine g_iload_n (pc := 4) rfl 2 rfl C dX8_isSmelt_4 ?_
  refine g_imul (pc := 5) C dX8_isSmelt_5 ?_
  refine g_iload_n (pc := 6) rfl 1 rfl C dX8_isSmelt_6 ?_
  refine g_iadd (pc := 7) C dX8_isSmelt_7 ?_
  refine g_imul (pc := 8) C dX8_isSmelt_8 ?_
  refine g_iload_n (pc := 9) rfl 3 rfl C dX8_isSmelt_9 ?_
  refine g_iadd (pc := 10) C dX8_isSmelt_10 ?_
  refine g_istore (pc := 11) (fun x1 => [(4, .int x1), (0, .ref o), (1, .int a1), (2, .int a2), (3, .int a3)]) C dX8_isSmelt_11 (by decide) rfl (fun x1 ex1 => ?_)
  have hD := hD x1 ex1
  refine g_aload_n (pc := 13) rfl 1 rfl C dX8_isSmelt_13 ?_
  have u2 : TA Y (r o 49) 10 512 := wt_a hw t0 (by decide) (by decide) rfl
  refine g_getR (pc := 14) C fl_RX8_113 t0 rfl dX8_isSmelt_14 ?_
  refine g_bipush (pc := 17) (v := 32) (by decide) C dX8_isSmelt_17 ?_
  refine g_iload (pc := 19) 0 rfl C dX8_isSmelt_19 ?_
  refine g_iadd (pc := 21) C dX8_isSmelt_21 ?_
  refine g_topi (fun i3 ei3 => ?_)
  have hD := hD i3 ei3
  obtain ⟨hb, hD⟩ := hD
  refine g_iald (pc := 22) C u2 hb dX8_isSmelt_22 ?_
  refine g_if_lt (pc := 23) 51 C dX8_isSmelt_23 (by decide) (fun c4 => ?_) (fun c4 => ?_)
  · have hD := hD.1 c4
    refine g_iconst (pc := 51) (v := 0) (by decide) C dX8_isSmelt_51 ?_
    exact g_zret (pc := 52) C R nz_0 dX8_isSmelt_52 hD
  · have hD := hD.2 c4
    refine g_aload_n (pc := 26) rfl 1 rfl C dX8_isSmelt_26 ?_
    have u5 : TA Y (r o 49) 10 512 := wt_a hw t0 (by decide) (by decide) rfl
    refine g_getR (pc := 27) C fl_RX8_113 t0 rfl dX8_isSmelt_27 ?_
    refine g_sipush (pc := 30) (v := 272) (by decide) C dX8_isSmelt_30 ?_
    refine g_iload (pc := 33) 0 rfl C dX8_isSmelt_33 ?_
    refine g_iadd (pc := 35) C dX8_isSmelt_35 ?_
    refine g_topi (fun i6 ei6 => ?_)
    have hD := hD i6 ei6
    obtain ⟨hb, hD⟩ := hD
    refine g_iald (pc := 36) C u5 hb dX8_isSmelt_36 ?_
    refine g_aload_n (pc := 37) rfl 1 rfl C dX8_isSmelt_37 ?_
    have u7 : TA Y (r o 49) 10 512 := wt_a hw t0 (by decide) (by decide) rfl
    refine g_getR (pc := 38) C fl_RX8_113 t0 rfl dX8_isSmelt_38 ?_
    refine g_bipush (pc := 41) (v := 30) (by decide) C dX8_isSmelt_41 ?_
    refine g_iald (pc := 43) C u7 (by unfold vp_in; decide) dX8_isSmelt_43 ?_
    refine g_icmp_lt (pc := 44) 51 C dX8_isSmelt_44 (by decide) (fun c8 => ?_) (fun c8 => ?_)
    · have hD := hD.1 c8
      refine g_iconst (pc := 51) (v := 0) (by decide) C dX8_isSmelt_51 ?_
      exact g_zret (pc := 52) C R nz_0 dX8_isSmelt_52 hD
    · have hD := hD.2 c8
      refine g_iconst (pc := 47) (v := 1) (by decide) C dX8_isSmelt_47 ?_
      refine g_goto (pc := 48) 52 C dX8_isSmelt_48 (by decide) ?_
      exact g_zret (pc := 52) C R nz_1 dX8_isSmelt_52 hD
def DB_Mo_smellsOf_22 (r : TR) (l0 : Nat) (l1 : Int32) (l2 : Int32) (l3 : Int32) (h : TH) (K22 : Int32 → Int32 → TH → Prop) (K132 : Int32 → TH → Prop) (Q : Int32 → TH → Prop) : Prop :=
  ∀ i10 : Int32, i10 = h.1 l0 18 → vp_in i10 2 ∧ (((h.1 (r l0 25) i10.toNatClampNeg) ≤ l3 → K132 l2 h) ∧ (¬ (h.1 (r l0 25) i10.toNatClampNeg) ≤ l3 → ((l3 = l1 → ∀ x13 : Int32, x13 = l3 + 1 → K22 l2 x13 h) ∧ (¬ l3 = l1 → vp_in l1 512 ∧ ∀ i16 : Int32, i16 = 6 + l1 → vp_in i16 512 ∧ D_Mo_isSmelt r l0 (h.1 (r l0 49) l1.toNatClampNeg) (h.1 (r l0 49) i16.toNatClampNeg) l3 h (fun x18 h17 => ((x18 = 0 → ∀ x20 : Int32, x20 = l3 + 1 → K22 l2 x20 h17) ∧ (¬ x18 = 0 → ∀ i24 : Int32, i24 = 6 + l1 → vp_in i24 512 ∧ vp_in l1 512 ∧ ∀ i26 : Int32, i26 = (32 + (6 * ((8 * (h17.1 (r l0 49) i24.toNatClampNeg)) + (h17.1 (r l0 49) l1.toNatClampNeg)))) + l3 → vp_in i26 512 ∧ ∀ i28 : Int32, i28 = (6 * (h17.1 l0 18)) + l1 → vp_in i28 12 ∧ (((h17.1 (r l0 29) i28.toNatClampNeg) < ((h17.1 (r l0 49) ((30 : Int32).toNatClampNeg)) - (h17.1 (r l0 49) i26.toNatClampNeg)) → ∀ x30 : Int32, x30 = l3 + 1 → K22 l2 x30 h17) ∧ (¬ (h17.1 (r l0 29) i28.toNatClampNeg) < ((h17.1 (r l0 49) ((30 : Int32).toNatClampNeg)) - (h17.1 (r l0 49) i26.toNatClampNeg)) → ∀ x31 : Int32, x31 = l2 ||| ((1 : Int32) <<< (l3 &&& 31)) → ∀ x32 : Int32, x32 = l3 + 1 → K22 x31 x32 h17)))))))))
set_option maxRecDepth 100000 in
set_option maxHeartbeats 4000000 in
theorem WB_Mo_smellsOf_22 {Y : CG} {X : CX} {r : TR} {l0 : Nat} {l1 : Int32} {l2 : Int32} {l3 : Int32} {h : TH} {K22 : Int32 → Int32 → TH → Prop} {K132 : Int32 → TH → Prop} {Q : Int32 → TH → Prop} (C : Gd Y X cX8_smellsOf 4 RX8 3) (R : Ri Y r X .int Q) (t0 : TO Y l0 8) (hK22 : ∀ (k2 : Int32) (k3 : Int32) (hh : TH), K22 k2 k3 hh → G Y X 4 22 [(0, .ref l0), (1, .int l1), (2, .int k2), (3, .int k3)] [] r hh) (hK132 : ∀ (k2 : Int32) (hh : TH), K132 k2 hh → G Y X 4 132 [(2, .int k2)] [] r hh) (hD : DB_Mo_smellsOf_22 r l0 l1 l2 l3 h K22 K132 Q) : G Y X 4 22 [(0, .ref l0), (1, .int l1), (2, .int l2), (3, .int l3)] [] r h := by
  unfold DB_Mo_smellsOf_22 at hD
  refine g_wt (fun hw => ?_)
  refine g_iload_n (pc := 22) rfl 3 rfl C dX8_smellsOf_22 ?_
  refine g_aload_n (pc := 23) rfl 0 rfl C dX8_smellsOf_23 ?_
  have u9 : TA Y (r l0 25) 10 2 := wt_a hw t0 (by decide) (by decide) rfl
  refine g_getR (pc := 24) C fl_RX8_52 t0 rfl dX8_smellsOf_24 ?_
  refine g_aload_n (pc := 27) rfl 0 rfl C dX8_smellsOf_27 ?_
  refine g_getI (pc := 28) C fl_RX8_230 t0 rfl dX8_smellsOf_28 ?_
  refine g_topi (fun i10 ei10 => ?_)
  have hD := hD i10 ei10
  obtain ⟨hb, hD⟩ := hD
  refine g_iald (pc := 31) C u9 hb dX8_smellsOf_31 ?_
  refine g_icmp_ge (pc := 32) 132 C dX8_smellsOf_32 (by decide) (fun c11 => ?_) (fun c11 => ?_)
  · have hD := hD.1 c11
    refine g_sub [2] rfl ?_
    exact hK132 l2 h hD
  · have hD := hD.2 c11
    refine g_iload_n (pc := 35) rfl 3 rfl C dX8_smellsOf_35 ?_
    refine g_iload_n (pc := 36) rfl 1 rfl C dX8_smellsOf_36 ?_
    refine g_icmp_eq (pc := 37) 126 C dX8_smellsOf_37 (by decide) (fun c12 => ?_) (fun c12 => ?_)
    · have hD := hD.1 c12
      refine g_iinc (pc := 126) (q := 3) (c := 1) (fun x13 => [(3, .int x13), (0, .ref l0), (1, .int l1), (2, .int l2)]) C dX8_smellsOf_126 rfl (by decide) (by decide) rfl (fun x13 ex13 => ?_)
      have hD := hD x13 ex13
      refine g_goto (pc := 129) 22 C dX8_smellsOf_129 (by decide) ?_
      refine g_sub [1, 2, 3, 0] rfl ?_
      exact hK22 l2 x13 h hD
    · have hD := hD.2 c12
      refine g_aload_n (pc := 40) rfl 0 rfl C dX8_smellsOf_40 ?_
      refine g_aload_n (pc := 41) rfl 0 rfl C dX8_smellsOf_41 ?_
      have u14 : TA Y (r l0 49) 10 512 := wt_a hw t0 (by decide) (by decide) rfl
      refine g_getR (pc := 42) C fl_RX8_113 t0 rfl dX8_smellsOf_42 ?_
      refine g_iload_n (pc := 45) rfl 1 rfl C dX8_smellsOf_45 ?_
      obtain ⟨hb, hD⟩ := hD
      refine g_iald (pc := 46) C u14 hb dX8_smellsOf_46 ?_
      refine g_aload_n (pc := 47) rfl 0 rfl C dX8_smellsOf_47 ?_
      have u15 : TA Y (r l0 49) 10 512 := wt_a hw t0 (by decide) (by decide) rfl
      refine g_getR (pc := 48) C fl_RX8_113 t0 rfl dX8_smellsOf_48 ?_
      refine g_bipush (pc := 51) (v := 6) (by decide) C dX8_smellsOf_51 ?_
      refine g_iload_n (pc := 53) rfl 1 rfl C dX8_smellsOf_53 ?_
      refine g_iadd (pc := 54) C dX8_smellsOf_54 ?_
      refine g_topi (fun i16 ei16 => ?_)
      have hD := hD i16 ei16
      obtain ⟨hb, hD⟩ := hD
      refine g_iald (pc := 55) C u15 hb dX8_smellsOf_55 ?_
      refine g_iload_n (pc := 56) rfl 3 rfl C dX8_smellsOf_56 ?_
      refine g_callVi (pc := 57) (As := [.int (h.1 (r l0 49) l1.toNatClampNeg), .int (h.1 (r l0 49) i16.toNatClampNeg), .int l3]) C mv_RX8_367 (M_Mo_isSmelt t0 hD) t0 (by decide) rfl rfl (Nat.le_of_ble_eq_true rfl) dX8_smellsOf_57 (fun x18 h17 hD => ?_)
      refine g_if_eq (pc := 60) 126 C dX8_smellsOf_60 (by decide) (fun c19 => ?_) (fun c19 => ?_)
      · have hD := hD.1 c19
        refine g_iinc (pc := 126) (q := 3) (c := 1) (fun x20 => [(3, .int x20), (0, .ref l0), (1, .int l1), (2, .int l2)]) C dX8_smellsOf_126 rfl (by decide) (by decide) rfl (fun x20 ex20 => ?_)
        have hD := hD x20 ex20
        refine g_goto (pc := 129) 22 C dX8_smellsOf_129 (by decide) ?_
        refine g_sub [1, 2, 3, 0] rfl ?_
        exact hK22 l2 x20 h17 hD
      · have hD := hD.2 c19
        refine g_aload_n (pc := 63) rfl 0 rfl C dX8_smellsOf_63 ?_
        have u21 : TA Y (r l0 49) 10 512 := wt_a hw t0 (by decide) (by decide) rfl
        refine g_getR (pc := 64) C fl_RX8_113 t0 rfl dX8_smellsOf_64 ?_
        refine g_bipush (pc := 67) (v := 30) (by decide) C dX8_smellsOf_67 ?_
        refine g_iald (pc := 69) C u21 (by unfold vp_in; decide) dX8_smellsOf_69 ?_
        refine g_aload_n (pc := 70) rfl 0 rfl C dX8_smellsOf_70 ?_
        have u22 : TA Y (r l0 49) 10 512 := wt_a hw t0 (by decide) (by decide) rfl
        refine g_getR (pc := 71) C fl_RX8_113 t0 rfl dX8_smellsOf_71 ?_
        refine g_bipush (pc := 74) (v := 32) (by decide) C dX8_smellsOf_74 ?_
        refine g_bipush (pc := 76) (v := 6) (by decide) C dX8_smellsOf_76 ?_
        refine g_bipush (pc := 78) (v := 8) (by decide) C dX8_smellsOf_78 ?_
        refine g_aload_n (pc := 80) rfl 0 rfl C dX8_smellsOf_80 ?_
        have u23 : TA Y (r l0 49) 10 512 := wt_a hw t0 (by decide) (by decide) rfl
        refine g_getR (pc := 81) C fl_RX8_113 t0 rfl dX8_smellsOf_81 ?_
        refine g_bipush (pc := 84) (v := 6) (by decide) C dX8_smellsOf_84 ?_
        refine g_iload_n (pc := 86) rfl 1 rfl C dX8_smellsOf_86 ?_
        refine g_iadd (pc := 87) C dX8_smellsOf_87 ?_
        refine g_topi (fun i24 ei24 => ?_)
        have hD := hD i24 ei24
        obtain ⟨hb, hD⟩ := hD
        refine g_iald (pc := 88) C u23 hb dX8_smellsOf_88 ?_
        refine g_imul (pc := 89) C dX8_smellsOf_89 ?_
        refine g_aload_n (pc := 90) rfl 0 rfl C dX8_smellsOf_90 ?_
        have u25 : TA Y (r l0 49) 10 512 := wt_a hw t0 (by decide) (by decide) rfl
        refine g_getR (pc := 91) C fl_RX8_113 t0 rfl dX8_smellsOf_91 ?_
        refine g_iload_n (pc := 94) rfl 1 rfl C dX8_smellsOf_94 ?_
        obtain ⟨hb, hD⟩ := hD
        refine g_iald (pc := 95) C u25 hb dX8_smellsOf_95 ?_
        refine g_iadd (pc := 96) C dX8_smellsOf_96 ?_
        refine g_imul (pc := 97) C dX8_smellsOf_97 ?_
        refine g_iadd (pc := 98) C dX8_smellsOf_98 ?_
        refine g_iload_n (pc := 99) rfl 3 rfl C dX8_smellsOf_99 ?_
        refine g_iadd (pc := 100) C dX8_smellsOf_100 ?_
        refine g_topi (fun i26 ei26 => ?_)
        have hD := hD i26 ei26
        obtain ⟨hb, hD⟩ := hD
        refine g_iald (pc := 101) C u22 hb dX8_smellsOf_101 ?_
        refine g_isub (pc := 102) C dX8_smellsOf_102 ?_
        refine g_aload_n (pc := 103) rfl 0 rfl C dX8_smellsOf_103 ?_
        have u27 : TA Y (r l0 29) 10 12 := wt_a hw t0 (by decide) (by decide) rfl
        refine g_getR (pc := 104) C fl_RX8_64 t0 rfl dX8_smellsOf_104 ?_
        refine g_bipush (pc := 107) (v := 6) (by decide) C dX8_smellsOf_107 ?_
        refine g_aload_n (pc := 109) rfl 0 rfl C dX8_smellsOf_109 ?_
        refine g_getI (pc := 110) C fl_RX8_230 t0 rfl dX8_smellsOf_110 ?_
        refine g_imul (pc := 113) C dX8_smellsOf_113 ?_
        refine g_iload_n (pc := 114) rfl 1 rfl C dX8_smellsOf_114 ?_
        refine g_iadd (pc := 115) C dX8_smellsOf_115 ?_
        refine g_topi (fun i28 ei28 => ?_)
        have hD := hD i28 ei28
        obtain ⟨hb, hD⟩ := hD
        refine g_iald (pc := 116) C u27 hb dX8_smellsOf_116 ?_
        refine g_icmp_gt (pc := 117) 126 C dX8_smellsOf_117 (by decide) (fun c29 => ?_) (fun c29 => ?_)
        · have hD := hD.1 c29
          refine g_iinc (pc := 126) (q := 3) (c := 1) (fun x30 => [(3, .int x30), (0, .ref l0), (1, .int l1), (2, .int l2)]) C dX8_smellsOf_126 rfl (by decide) (by decide) rfl (fun x30 ex30 => ?_)
          have hD := hD x30 ex30
          refine g_goto (pc := 129) 22 C dX8_smellsOf_129 (by decide) ?_
          refine g_sub [1, 2, 3, 0] rfl ?_
          exact hK22 l2 x30 h17 hD
        · have hD := hD.2 c29
          refine g_iload_n (pc := 120) rfl 2 rfl C dX8_smellsOf_120 ?_
          refine g_iconst (pc := 121) (v := 1) (by decide) C dX8_smellsOf_121 ?_
          refine g_iload_n (pc := 122) rfl 3 rfl C dX8_smellsOf_122 ?_
          refine g_ishl (pc := 123) C dX8_smellsOf_123 ?_
          refine g_ior (pc := 124) C dX8_smellsOf_124 ?_
          refine g_istore_n (pc := 125) (fun x31 => [(2, .int x31), (0, .ref l0), (1, .int l1), (3, .int l3)]) C dX8_smellsOf_125 rfl (by decide) rfl (fun x31 ex31 => ?_)
          have hD := hD x31 ex31
          refine g_iinc (pc := 126) (q := 3) (c := 1) (fun x32 => [(3, .int x32), (2, .int x31), (0, .ref l0), (1, .int l1)]) C dX8_smellsOf_126 rfl (by decide) (by decide) rfl (fun x32 ex32 => ?_)
          have hD := hD x32 ex32
          refine g_goto (pc := 129) 22 C dX8_smellsOf_129 (by decide) ?_
          refine g_sub [2, 3, 1, 0] rfl ?_
          exact hK22 x31 x32 h17 hD
def D_Mo_smellsOf (r : TR) (o : Nat) (a1 : Int32) (h : TH) (Q : Int32 → TH → Prop) : Prop :=
  D_Mo_isSailing r o a1 h (fun x2 h1 => ((x2 = 0 → Q 0 h1) ∧ (¬ x2 = 0 → D_Mo_hasCold r o a1 h1 (fun x5 h4 => ((x5 = 0 → ∃ n, lp (fun (K : Int32 × Int32 × TH → Prop) (s : Int32 × Int32 × TH) => DB_Mo_smellsOf_22 r o a1 s.1 s.2.1 s.2.2 (fun y33 y34 h35 => K (y33, y34, h35)) (fun x36 h37 => Q x36 h37) Q) n (0, 0, h4)) ∧ (¬ x5 = 0 → Q 0 h4))))))
set_option maxRecDepth 100000 in
set_option maxHeartbeats 4000000 in
theorem M_Mo_smellsOf {Y : CG} {r : TR} {l : Launch} {o : Nat} {a1 : Int32} {h : TH} {Q : Int32 → TH → Prop} (t0 : TO Y o 8) (hD : D_Mo_smellsOf r o a1 h Q) : Mi Y r l yX8_smellsOf cX8_smellsOf 4 .int 3 [.ref o, .int a1] h Q := by
  unfold D_Mo_smellsOf at hD
  refine Mi.of RX8 rfl (by decide) (by simp [lg_sl, Value.category]) [(0, .ref o), (1, .int a1)] rfl (fun X hXl C R => ?_)
  subst hXl
  refine g_wt (fun hw => ?_)
  refine g_aload_n (pc := 0) rfl 0 rfl C dX8_smellsOf_0 ?_
  refine g_iload_n (pc := 1) rfl 1 rfl C dX8_smellsOf_1 ?_
  refine g_callVi (pc := 2) (As := [.int a1]) C mv_RX8_347 (M_Mo_isSailing t0 hD) t0 (by decide) rfl rfl (Nat.le_of_ble_eq_true rfl) dX8_smellsOf_2 (fun x2 h1 hD => ?_)
  refine g_if_eq (pc := 5) 16 C dX8_smellsOf_5 (by decide) (fun c3 => ?_) (fun c3 => ?_)
  · have hD := hD.1 c3
    refine g_iconst (pc := 16) (v := 0) (by decide) C dX8_smellsOf_16 ?_
    exact g_iret (pc := 17) C R dX8_smellsOf_17 hD
  · have hD := hD.2 c3
    refine g_aload_n (pc := 8) rfl 0 rfl C dX8_smellsOf_8 ?_
    refine g_iload_n (pc := 9) rfl 1 rfl C dX8_smellsOf_9 ?_
    refine g_callVi (pc := 10) (As := [.int a1]) C mv_RX8_364 (M_Mo_hasCold t0 hD) t0 (by decide) rfl rfl (Nat.le_of_ble_eq_true rfl) dX8_smellsOf_10 (fun x5 h4 hD => ?_)
    refine g_if_eq (pc := 13) 18 C dX8_smellsOf_13 (by decide) (fun c6 => ?_) (fun c6 => ?_)
    · have hD := hD.1 c6
      refine g_iconst (pc := 18) (v := 0) (by decide) C dX8_smellsOf_18 ?_
      refine g_istore_n (pc := 19) (fun _ => [(2, .int 0), (0, .ref o), (1, .int a1)]) C dX8_smellsOf_19 rfl (by decide) rfl (fun _ _ => ?_)
      refine g_iconst (pc := 20) (v := 0) (by decide) C dX8_smellsOf_20 ?_
      refine g_istore_n (pc := 21) (fun _ => [(3, .int 0), (2, .int 0), (0, .ref o), (1, .int a1)]) C dX8_smellsOf_21 rfl (by decide) rfl (fun _ _ => ?_)
      obtain ⟨n, hD⟩ := hD
      refine g_sub [2, 3, 1, 0] rfl ?_
      refine lp_run (fun s : Int32 × Int32 × TH => G Y X 4 22 [(0, .ref o), (1, .int a1), (2, .int s.1), (3, .int s.2.1)] [] r s.2.2) (fun K s hB hK => ?_) n (0, 0, h4) hD
      refine WB_Mo_smellsOf_22 C R t0 (fun y33 y34 h35 hk => hK _ hk) (fun x36 h37 hD => ?_) hB
      · refine g_iload_n (pc := 132) rfl 0 rfl C dX8_smellsOf_132 ?_
        exact g_iret (pc := 133) C R dX8_smellsOf_133 hD
    · have hD := hD.2 c6
      refine g_iconst (pc := 16) (v := 0) (by decide) C dX8_smellsOf_16 ?_
      exact g_iret (pc := 17) C R dX8_smellsOf_17 hD
def DB_Mo_wayOf_11 (r : TR) (l0 : Nat) (l1 : Int32) (l2 : Int32) (l3 : Int32) (l4 : Int32) (h : TH) (K11 : Int32 → Int32 → TH → Prop) (K35 : Int32 → TH → Prop) (Q : Int32 → TH → Prop) : Prop :=
  ((l4 < 0 → K35 l3 h) ∧ (¬ l4 < 0 → ((¬ ((l2 >>> (l4 &&& 31)) &&& 1) = 1 → ∀ x8 : Int32, x8 = l4 + (-1) → K11 l3 x8 h) ∧ (((l2 >>> (l4 &&& 31)) &&& 1) = 1 → ∀ x10 : Int32, x10 = l4 + (-1) → K11 l4 x10 h))))
set_option maxRecDepth 100000 in
set_option maxHeartbeats 4000000 in
theorem WB_Mo_wayOf_11 {Y : CG} {X : CX} {r : TR} {l0 : Nat} {l1 : Int32} {l2 : Int32} {l3 : Int32} {l4 : Int32} {h : TH} {K11 : Int32 → Int32 → TH → Prop} {K35 : Int32 → TH → Prop} {Q : Int32 → TH → Prop} (C : Gd Y X cX8_wayOf 6 RX8 4) (R : Ri Y r X .int Q) (t0 : TO Y l0 8) (hK11 : ∀ (k3 : Int32) (k4 : Int32) (hh : TH), K11 k3 k4 hh → G Y X 6 11 [(0, .ref l0), (1, .int l1), (2, .int l2), (3, .int k3), (4, .int k4)] [] r hh) (hK35 : ∀ (k3 : Int32) (hh : TH), K35 k3 hh → G Y X 6 35 [(0, .ref l0), (1, .int l1), (2, .int l2), (3, .int k3)] [] r hh) (hD : DB_Mo_wayOf_11 r l0 l1 l2 l3 l4 h K11 K35 Q) : G Y X 6 11 [(0, .ref l0), (1, .int l1), (2, .int l2), (3, .int l3), (4, .int l4)] [] r h := by
  unfold DB_Mo_wayOf_11 at hD
  refine g_wt (fun hw => ?_)
  refine g_iload (pc := 11) 4 rfl C dX8_wayOf_11 ?_
  refine g_if_lt (pc := 13) 35 C dX8_wayOf_13 (by decide) (fun c6 => ?_) (fun c6 => ?_)
  · have hD := hD.1 c6
    refine g_sub [0, 1, 2, 3] rfl ?_
    exact hK35 l3 h hD
  · have hD := hD.2 c6
    refine g_iload_n (pc := 16) rfl 2 rfl C dX8_wayOf_16 ?_
    refine g_iload (pc := 17) 4 rfl C dX8_wayOf_17 ?_
    refine g_ishr (pc := 19) C dX8_wayOf_19 ?_
    refine g_iconst (pc := 20) (v := 1) (by decide) C dX8_wayOf_20 ?_
    refine g_iand (pc := 21) C dX8_wayOf_21 ?_
    refine g_iconst (pc := 22) (v := 1) (by decide) C dX8_wayOf_22 ?_
    refine g_icmp_ne (pc := 23) 29 C dX8_wayOf_23 (by decide) (fun c7 => ?_) (fun c7 => ?_)
    · have hD := hD.1 c7
      refine g_iinc (pc := 29) (q := 4) (c := (-1)) (fun x8 => [(4, .int x8), (0, .ref l0), (1, .int l1), (2, .int l2), (3, .int l3)]) C dX8_wayOf_29 rfl (by decide) (by decide) rfl (fun x8 ex8 => ?_)
      have hD := hD x8 ex8
      refine g_goto (pc := 32) 11 C dX8_wayOf_32 (by decide) ?_
      refine g_sub [1, 2, 3, 4, 0] rfl ?_
      exact hK11 l3 x8 h hD
    · have hD := hD.2 c7
      refine g_iload (pc := 26) 4 rfl C dX8_wayOf_26 ?_
      refine g_istore_n (pc := 28) (fun _ => [(3, .int l4), (0, .ref l0), (1, .int l1), (2, .int l2), (4, .int l4)]) C dX8_wayOf_28 rfl (by decide) rfl (fun _ _ => ?_)
      refine g_iinc (pc := 29) (q := 4) (c := (-1)) (fun x10 => [(4, .int x10), (3, .int l4), (0, .ref l0), (1, .int l1), (2, .int l2)]) C dX8_wayOf_29 rfl (by decide) (by decide) rfl (fun x10 ex10 => ?_)
      have hD := hD x10 ex10
      refine g_goto (pc := 32) 11 C dX8_wayOf_32 (by decide) ?_
      refine g_sub [2, 3, 4, 1, 0] rfl ?_
      exact hK11 l4 x10 h hD
def D_Mo_wayOf (r : TR) (o : Nat) (a1 : Int32) (h : TH) (Q : Int32 → TH → Prop) : Prop :=
  D_Mo_smellsOf r o a1 h (fun x2 h1 => ∃ n, lp (fun (K : Int32 × Int32 × TH → Prop) (s : Int32 × Int32 × TH) => DB_Mo_wayOf_11 r o a1 x2 s.1 s.2.1 s.2.2 (fun y11 y12 h13 => K (y11, y12, h13)) (fun x14 h15 => D_Mo_windIn r o (h15.1 (r o 49) ((30 : Int32).toNatClampNeg)) h15 (fun x18 h17 => D_Mo_looks r o (h17.1 (r o 49) ((30 : Int32).toNatClampNeg)) h17 (fun h21 => vp_in a1 512 ∧ ∀ h25, h25 = pI h21 (r o 45) ((1 : Int32).toNatClampNeg) (h21.1 (r o 49) a1.toNatClampNeg) → ∀ i28 : Int32, i28 = 6 + a1 → vp_in i28 512 ∧ ∀ h29, h29 = pI h25 (r o 45) ((2 : Int32).toNatClampNeg) (h25.1 (r o 49) i28.toNatClampNeg) → ∀ h31, h31 = pI h29 (r o 45) ((3 : Int32).toNatClampNeg) x18 → D_Mo_bits r x2 h31 (fun x34 h33 => ∀ h35, h35 = pI h33 (r o 45) ((4 : Int32).toNatClampNeg) x34 → ∀ h37, h37 = pI h35 (r o 45) ((5 : Int32).toNatClampNeg) x14 → ∀ h39, h39 = pI h37 (r o 45) ((6 : Int32).toNatClampNeg) a1 → ∀ i42 : Int32, i42 = (6 * (h39.1 o 18)) + a1 → vp_in i42 12 ∧ ∀ h43, h43 = pI h39 (r o 45) ((7 : Int32).toNatClampNeg) (h39.1 (r o 28) i42.toNatClampNeg) → ∀ h46, h46 = pI h43 (r o 45) ((8 : Int32).toNatClampNeg) (h43.1 (r o 49) ((31 : Int32).toNatClampNeg)) → D_Mo_asks r o 1 1 h46 (fun x48 h47 => ((0 ≤ x48 → Q (jrem x48 5) h47) ∧ (¬ 0 ≤ x48 → Q 0 h47))))))) Q) n ((-1), 5, h1))
set_option maxRecDepth 100000 in
set_option maxHeartbeats 4000000 in
theorem M_Mo_wayOf {Y : CG} {r : TR} {l : Launch} {o : Nat} {a1 : Int32} {h : TH} {Q : Int32 → TH → Prop} (t0 : TO Y o 8) (hD : D_Mo_wayOf r o a1 h Q) : Mi Y r l yX8_wayOf cX8_wayOf 6 .int 4 [.ref o, .int a1] h Q := by
  unfold D_Mo_wayOf at hD
  refine Mi.of RX8 rfl (by decide) (by simp [lg_sl, Value.category]) [(0, .ref o), (1, .int a1)] rfl (fun X hXl C R => ?_)
  subst hXl
  refine g_wt (fun hw => ?_)
  refine g_aload_n (pc := 0) rfl 0 rfl C dX8_wayOf_0 ?_
  refine g_iload_n (pc := 1) rfl 1 rfl C dX8_wayOf_1 ?_
  refine g_callVi (pc := 2) (As := [.int a1]) C mv_RX8_370 (M_Mo_smellsOf t0 hD) t0 (by decide) rfl rfl (Nat.le_of_ble_eq_true rfl) dX8_wayOf_2 (fun x2 h1 hD => ?_)
  refine g_istore_n (pc := 5) (fun _ => [(2, .int x2), (0, .ref o), (1, .int a1)]) C dX8_wayOf_5 rfl (by decide) rfl (fun _ _ => ?_)
  refine g_iconst (pc := 6) (v := (-1)) (by decide) C dX8_wayOf_6 ?_
  refine g_istore_n (pc := 7) (fun _ => [(3, .int (-1)), (2, .int x2), (0, .ref o), (1, .int a1)]) C dX8_wayOf_7 rfl (by decide) rfl (fun _ _ => ?_)
  refine g_iconst (pc := 8) (v := 5) (by decide) C dX8_wayOf_8 ?_
  refine g_istore (pc := 9) (fun _ => [(4, .int 5), (3, .int (-1)), (2, .int x2), (0, .ref o), (1, .int a1)]) C dX8_wayOf_9 (by decide) rfl (fun _ _ => ?_)
  obtain ⟨n, hD⟩ := hD
  refine g_sub [3, 4, 2, 1, 0] rfl ?_
  refine lp_run (fun s : Int32 × Int32 × TH => G Y X 6 11 [(0, .ref o), (1, .int a1), (2, .int x2), (3, .int s.1), (4, .int s.2.1)] [] r s.2.2) (fun K s hB hK => ?_) n ((-1), 5, h1) hD
  refine WB_Mo_wayOf_11 C R t0 (fun y11 y12 h13 hk => hK _ hk) (fun x14 h15 hD => ?_) hB
  · refine g_aload_n (pc := 35) rfl 0 rfl C dX8_wayOf_35 ?_
    refine g_aload_n (pc := 36) rfl 0 rfl C dX8_wayOf_36 ?_
    have u16 : TA Y (r o 49) 10 512 := wt_a hw t0 (by decide) (by decide) rfl
    refine g_getR (pc := 37) C fl_RX8_113 t0 rfl dX8_wayOf_37 ?_
    refine g_bipush (pc := 40) (v := 30) (by decide) C dX8_wayOf_40 ?_
    refine g_iald (pc := 42) C u16 (by unfold vp_in; decide) dX8_wayOf_42 ?_
    refine g_callVi (pc := 43) (As := [.int (h15.1 (r o 49) ((30 : Int32).toNatClampNeg))]) C mv_RX8_344 (M_Mo_windIn t0 hD) t0 (by decide) rfl rfl (Nat.le_of_ble_eq_true rfl) dX8_wayOf_43 (fun x18 h17 hD => ?_)
    refine g_istore (pc := 46) (fun _ => [(4, .int x18), (0, .ref o), (1, .int a1), (2, .int x2), (3, .int x14)]) C dX8_wayOf_46 (by decide) rfl (fun _ _ => ?_)
    refine g_aload_n (pc := 48) rfl 1 rfl C dX8_wayOf_48 ?_
    refine g_aload_n (pc := 49) rfl 1 rfl C dX8_wayOf_49 ?_
    have u20 : TA Y (r o 49) 10 512 := wt_a hw t0 (by decide) (by decide) rfl
    refine g_getR (pc := 50) C fl_RX8_113 t0 rfl dX8_wayOf_50 ?_
    refine g_bipush (pc := 53) (v := 30) (by decide) C dX8_wayOf_53 ?_
    refine g_iald (pc := 55) C u20 (by unfold vp_in; decide) dX8_wayOf_55 ?_
    refine g_callVv (pc := 56) (As := [.int (h17.1 (r o 49) ((30 : Int32).toNatClampNeg))]) C mv_RX8_338 (M_Mo_looks t0 hD) t0 (by decide) rfl rfl (Nat.le_of_ble_eq_true rfl) dX8_wayOf_56 (fun h21 hD => ?_)
    refine g_aload_n (pc := 59) rfl 1 rfl C dX8_wayOf_59 ?_
    have u23 : TA Y (r o 45) 10 9 := wt_a hw t0 (by decide) (by decide) rfl
    refine g_getR (pc := 60) C fl_RX8_104 t0 rfl dX8_wayOf_60 ?_
    refine g_iconst (pc := 63) (v := 1) (by decide) C dX8_wayOf_63 ?_
    refine g_aload_n (pc := 64) rfl 1 rfl C dX8_wayOf_64 ?_
    have u24 : TA Y (r o 49) 10 512 := wt_a hw t0 (by decide) (by decide) rfl
    refine g_getR (pc := 65) C fl_RX8_113 t0 rfl dX8_wayOf_65 ?_
    refine g_iload_n (pc := 68) rfl 2 rfl C dX8_wayOf_68 ?_
    obtain ⟨hb, hD⟩ := hD
    refine g_iald (pc := 69) C u24 hb dX8_wayOf_69 ?_
    refine g_iast (pc := 70) C u23 (by unfold vp_in; decide) dX8_wayOf_70 (fun h25 eh25 => ?_)
    have hD := hD h25 eh25
    refine g_aload_n (pc := 71) rfl 1 rfl C dX8_wayOf_71 ?_
    have u26 : TA Y (r o 45) 10 9 := wt_a hw t0 (by decide) (by decide) rfl
    refine g_getR (pc := 72) C fl_RX8_104 t0 rfl dX8_wayOf_72 ?_
    refine g_iconst (pc := 75) (v := 2) (by decide) C dX8_wayOf_75 ?_
    refine g_aload_n (pc := 76) rfl 1 rfl C dX8_wayOf_76 ?_
    have u27 : TA Y (r o 49) 10 512 := wt_a hw t0 (by decide) (by decide) rfl
    refine g_getR (pc := 77) C fl_RX8_113 t0 rfl dX8_wayOf_77 ?_
    refine g_bipush (pc := 80) (v := 6) (by decide) C dX8_wayOf_80 ?_
    refine g_iload_n (pc := 82) rfl 2 rfl C dX8_wayOf_82 ?_
    refine g_iadd (pc := 83) C dX8_wayOf_83 ?_
    refine g_topi (fun i28 ei28 => ?_)
    have hD := hD i28 ei28
    obtain ⟨hb, hD⟩ := hD
    refine g_iald (pc := 84) C u27 hb dX8_wayOf_84 ?_
    refine g_iast (pc := 85) C u26 (by unfold vp_in; decide) dX8_wayOf_85 (fun h29 eh29 => ?_)
    have hD := hD h29 eh29
    refine g_aload_n (pc := 86) rfl 1 rfl C dX8_wayOf_86 ?_
    have u30 : TA Y (r o 45) 10 9 := wt_a hw t0 (by decide) (by decide) rfl
    refine g_getR (pc := 87) C fl_RX8_104 t0 rfl dX8_wayOf_87 ?_
    refine g_iconst (pc := 90) (v := 3) (by decide) C dX8_wayOf_90 ?_
    refine g_iload (pc := 91) 0 rfl C dX8_wayOf_91 ?_
    refine g_iast (pc := 93) C u30 (by unfold vp_in; decide) dX8_wayOf_93 (fun h31 eh31 => ?_)
    have hD := hD h31 eh31
    refine g_aload_n (pc := 94) rfl 1 rfl C dX8_wayOf_94 ?_
    have u32 : TA Y (r o 45) 10 9 := wt_a hw t0 (by decide) (by decide) rfl
    refine g_getR (pc := 95) C fl_RX8_104 t0 rfl dX8_wayOf_95 ?_
    refine g_iconst (pc := 98) (v := 4) (by decide) C dX8_wayOf_98 ?_
    refine g_iload_n (pc := 99) rfl 3 rfl C dX8_wayOf_99 ?_
    refine g_callSi (pc := 100) (As := [.int x2]) C ms_RX8_373 (M_Mo_bits  hD) (by decide) rfl rfl (Nat.le_of_ble_eq_true rfl) dX8_wayOf_100 (fun x34 h33 hD => ?_)
    refine g_iast (pc := 103) C u32 (by unfold vp_in; decide) dX8_wayOf_103 (fun h35 eh35 => ?_)
    have hD := hD h35 eh35
    refine g_aload_n (pc := 104) rfl 1 rfl C dX8_wayOf_104 ?_
    have u36 : TA Y (r o 45) 10 9 := wt_a hw t0 (by decide) (by decide) rfl
    refine g_getR (pc := 105) C fl_RX8_104 t0 rfl dX8_wayOf_105 ?_
    refine g_iconst (pc := 108) (v := 5) (by decide) C dX8_wayOf_108 ?_
    refine g_iload_n (pc := 109) rfl 4 rfl C dX8_wayOf_109 ?_
    refine g_iast (pc := 110) C u36 (by unfold vp_in; decide) dX8_wayOf_110 (fun h37 eh37 => ?_)
    have hD := hD h37 eh37
    refine g_aload_n (pc := 111) rfl 1 rfl C dX8_wayOf_111 ?_
    have u38 : TA Y (r o 45) 10 9 := wt_a hw t0 (by decide) (by decide) rfl
    refine g_getR (pc := 112) C fl_RX8_104 t0 rfl dX8_wayOf_112 ?_
    refine g_bipush (pc := 115) (v := 6) (by decide) C dX8_wayOf_115 ?_
    refine g_iload_n (pc := 117) rfl 2 rfl C dX8_wayOf_117 ?_
    refine g_iast (pc := 118) C u38 (by unfold vp_in; decide) dX8_wayOf_118 (fun h39 eh39 => ?_)
    have hD := hD h39 eh39
    refine g_aload_n (pc := 119) rfl 1 rfl C dX8_wayOf_119 ?_
    have u40 : TA Y (r o 45) 10 9 := wt_a hw t0 (by decide) (by decide) rfl
    refine g_getR (pc := 120) C fl_RX8_104 t0 rfl dX8_wayOf_120 ?_
    refine g_bipush (pc := 123) (v := 7) (by decide) C dX8_wayOf_123 ?_
    refine g_aload_n (pc := 125) rfl 1 rfl C dX8_wayOf_125 ?_
    have u41 : TA Y (r o 28) 10 12 := wt_a hw t0 (by decide) (by decide) rfl
    refine g_getR (pc := 126) C fl_RX8_61 t0 rfl dX8_wayOf_126 ?_
    refine g_bipush (pc := 129) (v := 6) (by decide) C dX8_wayOf_129 ?_
    refine g_aload_n (pc := 131) rfl 1 rfl C dX8_wayOf_131 ?_
    refine g_getI (pc := 132) C fl_RX8_230 t0 rfl dX8_wayOf_132 ?_
    refine g_imul (pc := 135) C dX8_wayOf_135 ?_
    refine g_iload_n (pc := 136) rfl 2 rfl C dX8_wayOf_136 ?_
    refine g_iadd (pc := 137) C dX8_wayOf_137 ?_
    refine g_topi (fun i42 ei42 => ?_)
    have hD := hD i42 ei42
    obtain ⟨hb, hD⟩ := hD
    refine g_iald (pc := 138) C u41 hb dX8_wayOf_138 ?_
    refine g_iast (pc := 139) C u40 (by unfold vp_in; decide) dX8_wayOf_139 (fun h43 eh43 => ?_)
    have hD := hD h43 eh43
    refine g_aload_n (pc := 140) rfl 1 rfl C dX8_wayOf_140 ?_
    have u44 : TA Y (r o 45) 10 9 := wt_a hw t0 (by decide) (by decide) rfl
    refine g_getR (pc := 141) C fl_RX8_104 t0 rfl dX8_wayOf_141 ?_
    refine g_bipush (pc := 144) (v := 8) (by decide) C dX8_wayOf_144 ?_
    refine g_aload_n (pc := 146) rfl 1 rfl C dX8_wayOf_146 ?_
    have u45 : TA Y (r o 49) 10 512 := wt_a hw t0 (by decide) (by decide) rfl
    refine g_getR (pc := 147) C fl_RX8_113 t0 rfl dX8_wayOf_147 ?_
    refine g_bipush (pc := 150) (v := 31) (by decide) C dX8_wayOf_150 ?_
    refine g_iald (pc := 152) C u45 (by unfold vp_in; decide) dX8_wayOf_152 ?_
    refine g_iast (pc := 153) C u44 (by unfold vp_in; decide) dX8_wayOf_153 (fun h46 eh46 => ?_)
    have hD := hD h46 eh46
    refine g_aload_n (pc := 154) rfl 1 rfl C dX8_wayOf_154 ?_
    refine g_iconst (pc := 155) (v := 1) (by decide) C dX8_wayOf_155 ?_
    refine g_iconst (pc := 156) (v := 1) (by decide) C dX8_wayOf_156 ?_
    refine g_callVi (pc := 157) (As := [.int 1, .int 1]) C mv_RX8_341 (M_Mo_asks t0 hD) t0 (by decide) rfl rfl (Nat.le_of_ble_eq_true rfl) dX8_wayOf_157 (fun x48 h47 hD => ?_)
    refine g_istore (pc := 160) (fun _ => [(5, .int x48), (4, .int x18), (0, .ref o), (1, .int a1), (2, .int x2), (3, .int x14)]) C dX8_wayOf_160 (by decide) rfl (fun _ _ => ?_)
    refine g_iload (pc := 162) 0 rfl C dX8_wayOf_162 ?_
    refine g_if_ge (pc := 164) 171 C dX8_wayOf_164 (by decide) (fun c50 => ?_) (fun c50 => ?_)
    · have hD := hD.1 c50
      refine g_iload (pc := 171) 0 rfl C dX8_wayOf_171 ?_
      refine g_iconst (pc := 173) (v := 5) (by decide) C dX8_wayOf_173 ?_
      refine g_irem (pc := 174) (by decide) C dX8_wayOf_174 ?_
      exact g_iret (pc := 175) C R dX8_wayOf_175 hD
    · have hD := hD.2 c50
      refine g_iconst (pc := 167) (v := 0) (by decide) C dX8_wayOf_167 ?_
      refine g_goto (pc := 168) 175 C dX8_wayOf_168 (by decide) ?_
      exact g_iret (pc := 175) C R dX8_wayOf_175 hD
def DB_Mo_hourGoes_2 (r : TR) (l0 : Nat) (l1 : Int32) (h : TH) (K2 : Int32 → TH → Prop) (K44 : TH → Prop) (Q : TH → Prop) : Prop :=
  ∀ i3 : Int32, i3 = h.1 l0 18 → vp_in i3 2 ∧ (((h.1 (r l0 25) i3.toNatClampNeg) ≤ l1 → K44 h) ∧ (¬ (h.1 (r l0 25) i3.toNatClampNeg) ≤ l1 → D_Mo_isSailing r l0 l1 h (fun x7 h6 => ((x7 = 0 → vp_in l1 6 ∧ ∀ h9, h9 = pI h6 (r l0 53) l1.toNatClampNeg 0 → ∀ x10 : Int32, x10 = l1 + 1 → K2 x10 h9) ∧ (¬ x7 = 0 → D_Mo_wayOf r l0 l1 h6 (fun x12 h11 => vp_in l1 6 ∧ ∀ h13, h13 = pI h11 (r l0 53) l1.toNatClampNeg x12 → ∀ x14 : Int32, x14 = l1 + 1 → K2 x14 h13))))))
set_option maxRecDepth 100000 in
set_option maxHeartbeats 4000000 in
theorem WB_Mo_hourGoes_2 {Y : CG} {X : CX} {r : TR} {l0 : Nat} {l1 : Int32} {h : TH} {K2 : Int32 → TH → Prop} {K44 : TH → Prop} {Q : TH → Prop} (C : Gd Y X cX8_hourGoes 2 RX8 5) (R : Rv Y r X Q) (t0 : TO Y l0 8) (hK2 : ∀ (k1 : Int32) (hh : TH), K2 k1 hh → G Y X 2 2 [(0, .ref l0), (1, .int k1)] [] r hh) (hK44 : ∀ (hh : TH), K44 hh → G Y X 2 44 [(0, .ref l0)] [] r hh) (hD : DB_Mo_hourGoes_2 r l0 l1 h K2 K44 Q) : G Y X 2 2 [(0, .ref l0), (1, .int l1)] [] r h := by
  unfold DB_Mo_hourGoes_2 at hD
  refine g_wt (fun hw => ?_)
  refine g_iload_n (pc := 2) rfl 1 rfl C dX8_hourGoes_2 ?_
  refine g_aload_n (pc := 3) rfl 0 rfl C dX8_hourGoes_3 ?_
  have u2 : TA Y (r l0 25) 10 2 := wt_a hw t0 (by decide) (by decide) rfl
  refine g_getR (pc := 4) C fl_RX8_52 t0 rfl dX8_hourGoes_4 ?_
  refine g_aload_n (pc := 7) rfl 0 rfl C dX8_hourGoes_7 ?_
  refine g_getI (pc := 8) C fl_RX8_230 t0 rfl dX8_hourGoes_8 ?_
  refine g_topi (fun i3 ei3 => ?_)
  have hD := hD i3 ei3
  obtain ⟨hb, hD⟩ := hD
  refine g_iald (pc := 11) C u2 hb dX8_hourGoes_11 ?_
  refine g_icmp_ge (pc := 12) 44 C dX8_hourGoes_12 (by decide) (fun c4 => ?_) (fun c4 => ?_)
  · have hD := hD.1 c4
    refine g_sub [0] rfl ?_
    exact hK44 h hD
  · have hD := hD.2 c4
    refine g_aload_n (pc := 15) rfl 0 rfl C dX8_hourGoes_15 ?_
    have u5 : TA Y (r l0 53) 10 6 := wt_a hw t0 (by decide) (by decide) rfl
    refine g_getR (pc := 16) C fl_RX8_116 t0 rfl dX8_hourGoes_16 ?_
    refine g_iload_n (pc := 19) rfl 1 rfl C dX8_hourGoes_19 ?_
    refine g_aload_n (pc := 20) rfl 0 rfl C dX8_hourGoes_20 ?_
    refine g_iload_n (pc := 21) rfl 1 rfl C dX8_hourGoes_21 ?_
    refine g_callVi (pc := 22) (As := [.int l1]) C mv_RX8_347 (M_Mo_isSailing t0 hD) t0 (by decide) rfl rfl (Nat.le_of_ble_eq_true rfl) dX8_hourGoes_22 (fun x7 h6 hD => ?_)
    refine g_if_eq (pc := 25) 36 C dX8_hourGoes_25 (by decide) (fun c8 => ?_) (fun c8 => ?_)
    · have hD := hD.1 c8
      refine g_iconst (pc := 36) (v := 0) (by decide) C dX8_hourGoes_36 ?_
      obtain ⟨hb, hD⟩ := hD
      refine g_iast (pc := 37) C u5 hb dX8_hourGoes_37 (fun h9 eh9 => ?_)
      have hD := hD h9 eh9
      refine g_iinc (pc := 38) (q := 1) (c := 1) (fun x10 => [(1, .int x10), (0, .ref l0)]) C dX8_hourGoes_38 rfl (by decide) (by decide) rfl (fun x10 ex10 => ?_)
      have hD := hD x10 ex10
      refine g_goto (pc := 41) 2 C dX8_hourGoes_41 (by decide) ?_
      refine g_sub [1, 0] rfl ?_
      exact hK2 x10 h9 hD
    · have hD := hD.2 c8
      refine g_aload_n (pc := 28) rfl 0 rfl C dX8_hourGoes_28 ?_
      refine g_iload_n (pc := 29) rfl 1 rfl C dX8_hourGoes_29 ?_
      refine g_callVi (pc := 30) (As := [.int l1]) C mv_RX8_376 (M_Mo_wayOf t0 hD) t0 (by decide) rfl rfl (Nat.le_of_ble_eq_true rfl) dX8_hourGoes_30 (fun x12 h11 hD => ?_)
      refine g_goto (pc := 33) 37 C dX8_hourGoes_33 (by decide) ?_
      obtain ⟨hb, hD⟩ := hD
      refine g_iast (pc := 37) C u5 hb dX8_hourGoes_37 (fun h13 eh13 => ?_)
      have hD := hD h13 eh13
      refine g_iinc (pc := 38) (q := 1) (c := 1) (fun x14 => [(1, .int x14), (0, .ref l0)]) C dX8_hourGoes_38 rfl (by decide) (by decide) rfl (fun x14 ex14 => ?_)
      have hD := hD x14 ex14
      refine g_goto (pc := 41) 2 C dX8_hourGoes_41 (by decide) ?_
      refine g_sub [1, 0] rfl ?_
      exact hK2 x14 h13 hD
def DB_Mo_hourGoes_46 (r : TR) (l0 : Nat) (l1 : Int32) (h : TH) (K46 : Int32 → TH → Prop) (K77 : TH → Prop) (Q : TH → Prop) : Prop :=
  ∀ i20 : Int32, i20 = h.1 l0 18 → vp_in i20 2 ∧ (((h.1 (r l0 25) i20.toNatClampNeg) ≤ l1 → K77 h) ∧ (¬ (h.1 (r l0 25) i20.toNatClampNeg) ≤ l1 → vp_in l1 6 ∧ D_Mo_goesBy r l0 l1 (h.1 (r l0 53) l1.toNatClampNeg) h (fun x24 h23 => ∀ x25 : Int32, x25 = l1 + 1 → K46 x25 h23)))
set_option maxRecDepth 100000 in
set_option maxHeartbeats 4000000 in
theorem WB_Mo_hourGoes_46 {Y : CG} {X : CX} {r : TR} {l0 : Nat} {l1 : Int32} {h : TH} {K46 : Int32 → TH → Prop} {K77 : TH → Prop} {Q : TH → Prop} (C : Gd Y X cX8_hourGoes 2 RX8 5) (R : Rv Y r X Q) (t0 : TO Y l0 8) (hK46 : ∀ (k1 : Int32) (hh : TH), K46 k1 hh → G Y X 2 46 [(0, .ref l0), (1, .int k1)] [] r hh) (hK77 : ∀ (hh : TH), K77 hh → G Y X 2 77 [(0, .ref l0)] [] r hh) (hD : DB_Mo_hourGoes_46 r l0 l1 h K46 K77 Q) : G Y X 2 46 [(0, .ref l0), (1, .int l1)] [] r h := by
  unfold DB_Mo_hourGoes_46 at hD
  refine g_wt (fun hw => ?_)
  refine g_iload_n (pc := 46) rfl 1 rfl C dX8_hourGoes_46 ?_
  refine g_aload_n (pc := 47) rfl 0 rfl C dX8_hourGoes_47 ?_
  have u19 : TA Y (r l0 25) 10 2 := wt_a hw t0 (by decide) (by decide) rfl
  refine g_getR (pc := 48) C fl_RX8_52 t0 rfl dX8_hourGoes_48 ?_
  refine g_aload_n (pc := 51) rfl 0 rfl C dX8_hourGoes_51 ?_
  refine g_getI (pc := 52) C fl_RX8_230 t0 rfl dX8_hourGoes_52 ?_
  refine g_topi (fun i20 ei20 => ?_)
  have hD := hD i20 ei20
  obtain ⟨hb, hD⟩ := hD
  refine g_iald (pc := 55) C u19 hb dX8_hourGoes_55 ?_
  refine g_icmp_ge (pc := 56) 77 C dX8_hourGoes_56 (by decide) (fun c21 => ?_) (fun c21 => ?_)
  · have hD := hD.1 c21
    refine g_sub [0] rfl ?_
    exact hK77 h hD
  · have hD := hD.2 c21
    refine g_aload_n (pc := 59) rfl 0 rfl C dX8_hourGoes_59 ?_
    refine g_iload_n (pc := 60) rfl 1 rfl C dX8_hourGoes_60 ?_
    refine g_aload_n (pc := 61) rfl 0 rfl C dX8_hourGoes_61 ?_
    have u22 : TA Y (r l0 53) 10 6 := wt_a hw t0 (by decide) (by decide) rfl
    refine g_getR (pc := 62) C fl_RX8_116 t0 rfl dX8_hourGoes_62 ?_
    refine g_iload_n (pc := 65) rfl 1 rfl C dX8_hourGoes_65 ?_
    obtain ⟨hb, hD⟩ := hD
    refine g_iald (pc := 66) C u22 hb dX8_hourGoes_66 ?_
    refine g_callVi (pc := 67) (As := [.int l1, .int (h.1 (r l0 53) l1.toNatClampNeg)]) C mv_RX8_379 (M_Mo_goesBy t0 hD) t0 (by decide) rfl rfl (Nat.le_of_ble_eq_true rfl) dX8_hourGoes_67 (fun x24 h23 hD => ?_)
    refine g_pop (pc := 70) rfl C dX8_hourGoes_70 ?_
    refine g_iinc (pc := 71) (q := 1) (c := 1) (fun x25 => [(1, .int x25), (0, .ref l0)]) C dX8_hourGoes_71 rfl (by decide) (by decide) rfl (fun x25 ex25 => ?_)
    have hD := hD x25 ex25
    refine g_goto (pc := 74) 46 C dX8_hourGoes_74 (by decide) ?_
    refine g_sub [1, 0] rfl ?_
    exact hK46 x25 h23 hD
def D_Mo_hourGoes (r : TR) (o : Nat) (h : TH) (Q : TH → Prop) : Prop :=
  ∃ n, lp (fun (K : Int32 × TH → Prop) (s : Int32 × TH) => DB_Mo_hourGoes_2 r o s.1 s.2 (fun y15 h16 => K (y15, h16)) (fun h17 => ∃ n, lp (fun (K : Int32 × TH → Prop) (s : Int32 × TH) => DB_Mo_hourGoes_46 r o s.1 s.2 (fun y26 h27 => K (y26, h27)) (fun h28 => ∀ h30, h30 = pI h28 (r o 49) ((30 : Int32).toNatClampNeg) ((h28.1 (r o 49) ((30 : Int32).toNatClampNeg)) + 1) → D_Mo_laysAll r o h30 (fun h31 => Q h31)) Q) n (0, h17)) Q) n (0, h)
set_option maxRecDepth 100000 in
set_option maxHeartbeats 4000000 in
theorem M_Mo_hourGoes {Y : CG} {r : TR} {l : Launch} {o : Nat} {h : TH} {Q : TH → Prop} (t0 : TO Y o 8) (hD : D_Mo_hourGoes r o h Q) : Mv Y r l yX8_hourGoes cX8_hourGoes 2 5 [.ref o] h Q := by
  unfold D_Mo_hourGoes at hD
  refine Mv.of RX8 rfl (by decide) (by simp [lg_sl, Value.category]) [(0, .ref o)] rfl (fun X hXl C R => ?_)
  subst hXl
  refine g_wt (fun hw => ?_)
  refine g_iconst (pc := 0) (v := 0) (by decide) C dX8_hourGoes_0 ?_
  refine g_istore_n (pc := 1) (fun _ => [(1, .int 0), (0, .ref o)]) C dX8_hourGoes_1 rfl (by decide) rfl (fun _ _ => ?_)
  obtain ⟨n, hD⟩ := hD
  refine g_sub [1, 0] rfl ?_
  refine lp_run (fun s : Int32 × TH => G Y X 2 2 [(0, .ref o), (1, .int s.1)] [] r s.2) (fun K s hB hK => ?_) n (0, h) hD
  refine WB_Mo_hourGoes_2 C R t0 (fun y15 h16 hk => hK _ hk) (fun h17 hD => ?_) hB
  · refine g_iconst (pc := 44) (v := 0) (by decide) C dX8_hourGoes_44 ?_
    refine g_istore_n (pc := 45) (fun _ => [(1, .int 0), (0, .ref o)]) C dX8_hourGoes_45 rfl (by decide) rfl (fun _ _ => ?_)
    obtain ⟨n, hD⟩ := hD
    refine g_sub [1, 0] rfl ?_
    refine lp_run (fun s : Int32 × TH => G Y X 2 46 [(0, .ref o), (1, .int s.1)] [] r s.2) (fun K s hB hK => ?_) n (0, h17) hD
    refine WB_Mo_hourGoes_46 C R t0 (fun y26 h27 hk => hK _ hk) (fun h28 hD => ?_) hB
    · refine g_aload_n (pc := 77) rfl 0 rfl C dX8_hourGoes_77 ?_
      have u29 : TA Y (r o 49) 10 512 := wt_a hw t0 (by decide) (by decide) rfl
      refine g_getR (pc := 78) C fl_RX8_113 t0 rfl dX8_hourGoes_78 ?_
      refine g_bipush (pc := 81) (v := 30) (by decide) C dX8_hourGoes_81 ?_
      refine g_dup2 (pc := 83) rfl rfl C dX8_hourGoes_83 ?_
      refine g_iald (pc := 84) C u29 (by unfold vp_in; decide) dX8_hourGoes_84 ?_
      refine g_iconst (pc := 85) (v := 1) (by decide) C dX8_hourGoes_85 ?_
      refine g_iadd (pc := 86) C dX8_hourGoes_86 ?_
      refine g_iast (pc := 87) C u29 (by unfold vp_in; decide) dX8_hourGoes_87 (fun h30 eh30 => ?_)
      have hD := hD h30 eh30
      refine g_aload_n (pc := 88) rfl 0 rfl C dX8_hourGoes_88 ?_
      refine g_callVv (pc := 89) (As := []) C mv_RX8_325 (M_Mo_laysAll t0 hD) t0 (by decide) rfl rfl (Nat.le_of_ble_eq_true rfl) dX8_hourGoes_89 (fun h31 hD => ?_)
      exact g_vret (pc := 92) C R dX8_hourGoes_92 hD
def DB_Mo_goes_2 (r : TR) (l0 : Nat) (l1 : Int32) (l2 : Int32) (h : TH) (K2 : Int32 → TH → Prop) (K17 : TH → Prop) (Q : TH → Prop) : Prop :=
  ((l1 ≤ l2 → K17 h) ∧ (¬ l1 ≤ l2 → D_Mo_hourGoes r l0 h (fun h3 => ∀ x5 : Int32, x5 = l2 + 1 → K2 x5 h3)))
set_option maxRecDepth 100000 in
set_option maxHeartbeats 4000000 in
theorem WB_Mo_goes_2 {Y : CG} {X : CX} {r : TR} {l0 : Nat} {l1 : Int32} {l2 : Int32} {h : TH} {K2 : Int32 → TH → Prop} {K17 : TH → Prop} {Q : TH → Prop} (C : Gd Y X cX8_goes 3 RX8 6) (R : Rv Y r X Q) (t0 : TO Y l0 8) (hK2 : ∀ (k2 : Int32) (hh : TH), K2 k2 hh → G Y X 3 2 [(0, .ref l0), (1, .int l1), (2, .int k2)] [] r hh) (hK17 : ∀ (hh : TH), K17 hh → G Y X 3 17 [] [] r hh) (hD : DB_Mo_goes_2 r l0 l1 l2 h K2 K17 Q) : G Y X 3 2 [(0, .ref l0), (1, .int l1), (2, .int l2)] [] r h := by
  unfold DB_Mo_goes_2 at hD
  refine g_wt (fun hw => ?_)
  refine g_iload_n (pc := 2) rfl 2 rfl C dX8_goes_2 ?_
  refine g_iload_n (pc := 3) rfl 1 rfl C dX8_goes_3 ?_
  refine g_icmp_ge (pc := 4) 17 C dX8_goes_4 (by decide) (fun c2 => ?_) (fun c2 => ?_)
  · have hD := hD.1 c2
    refine g_sub [] rfl ?_
    exact hK17 h hD
  · have hD := hD.2 c2
    refine g_aload_n (pc := 7) rfl 0 rfl C dX8_goes_7 ?_
    refine g_callVv (pc := 8) (As := []) C mv_RX8_382 (M_Mo_hourGoes t0 hD) t0 (by decide) rfl rfl (Nat.le_of_ble_eq_true rfl) dX8_goes_8 (fun h3 hD => ?_)
    refine g_iinc (pc := 11) (q := 2) (c := 1) (fun x5 => [(2, .int x5), (0, .ref l0), (1, .int l1)]) C dX8_goes_11 rfl (by decide) (by decide) rfl (fun x5 ex5 => ?_)
    have hD := hD x5 ex5
    refine g_goto (pc := 14) 2 C dX8_goes_14 (by decide) ?_
    refine g_sub [1, 2, 0] rfl ?_
    exact hK2 x5 h3 hD
def D_Mo_goes (r : TR) (o : Nat) (a1 : Int32) (h : TH) (Q : TH → Prop) : Prop :=
  ∃ n, lp (fun (K : Int32 × TH → Prop) (s : Int32 × TH) => DB_Mo_goes_2 r o a1 s.1 s.2 (fun y6 h7 => K (y6, h7)) (fun h8 => Q h8) Q) n (0, h)
set_option maxRecDepth 100000 in
set_option maxHeartbeats 4000000 in
theorem M_Mo_goes {Y : CG} {r : TR} {l : Launch} {o : Nat} {a1 : Int32} {h : TH} {Q : TH → Prop} (t0 : TO Y o 8) (hD : D_Mo_goes r o a1 h Q) : Mv Y r l yX8_goes cX8_goes 3 6 [.ref o, .int a1] h Q := by
  unfold D_Mo_goes at hD
  refine Mv.of RX8 rfl (by decide) (by simp [lg_sl, Value.category]) [(0, .ref o), (1, .int a1)] rfl (fun X hXl C R => ?_)
  subst hXl
  refine g_wt (fun hw => ?_)
  refine g_iconst (pc := 0) (v := 0) (by decide) C dX8_goes_0 ?_
  refine g_istore_n (pc := 1) (fun _ => [(2, .int 0), (0, .ref o), (1, .int a1)]) C dX8_goes_1 rfl (by decide) rfl (fun _ _ => ?_)
  obtain ⟨n, hD⟩ := hD
  refine g_sub [1, 2, 0] rfl ?_
  refine lp_run (fun s : Int32 × TH => G Y X 3 2 [(0, .ref o), (1, .int a1), (2, .int s.1)] [] r s.2) (fun K s hB hK => ?_) n (0, h) hD
  refine WB_Mo_goes_2 C R t0 (fun y6 h7 hk => hK _ hk) (fun h8 hD => ?_) hB
  · exact g_vret (pc := 17) C R dX8_goes_17 hD
def D_Mo_isLong (r : TR) (a0 : Int32) (h : TH) (Q : Int32 → TH → Prop) : Prop :=
  D_Mo_in r a0 0 100 h (fun x2 h1 => (narrow .boolean (.int x2) = .int x2 ∧ Q x2 h1))
set_option maxRecDepth 100000 in
set_option maxHeartbeats 4000000 in
theorem M_Mo_isLong {Y : CG} {r : TR} {l : Launch} {a0 : Int32} {h : TH} {Q : Int32 → TH → Prop} (hD : D_Mo_isLong r a0 h Q) : Mi Y r l yX8_isLong cX8_isLong 1 .boolean 2 [.int a0] h Q := by
  unfold D_Mo_isLong at hD
  refine Mi.of RX8 rfl (by decide) (by simp [lg_sl, Value.category]) [(0, .int a0)] rfl (fun X hXl C R => ?_)
  subst hXl
  refine g_wt (fun hw => ?_)
  refine g_iload_n (pc := 0) rfl 0 rfl C dX8_isLong_0 ?_
  refine g_iconst (pc := 1) (v := 0) (by decide) C dX8_isLong_1 ?_
  refine g_bipush (pc := 2) (v := 100) (by decide) C dX8_isLong_2 ?_
  refine g_callSi (pc := 4) (As := [.int a0, .int 0, .int 100]) C ms_RX8_303 (M_Mo_in  hD) (by decide) rfl rfl (Nat.le_of_ble_eq_true rfl) dX8_isLong_4 (fun x2 h1 hD => ?_)
  exact g_zret (pc := 7) C R hD.1 dX8_isLong_7 hD.2
def D_Mo_isWater (r : TR) (o : Nat) (a1 : Int32) (a2 : Int32) (h : TH) (Q : Int32 → TH → Prop) : Prop :=
  D_Mo_isCell r o a1 a2 h (fun x2 h1 => ((x2 = 0 → Q 0 h1) ∧ (¬ x2 = 0 → D_Mo_sortAt r o a1 a2 h1 (fun x5 h4 => ((¬ x5 = 0 → Q 0 h4) ∧ (x5 = 0 → Q 1 h4))))))
set_option maxRecDepth 100000 in
set_option maxHeartbeats 4000000 in
theorem M_Mo_isWater {Y : CG} {r : TR} {l : Launch} {o : Nat} {a1 : Int32} {a2 : Int32} {h : TH} {Q : Int32 → TH → Prop} (t0 : TO Y o 8) (hD : D_Mo_isWater r o a1 a2 h Q) : Mi Y r l yX8_isWater cX8_isWater 3 .boolean 3 [.ref o, .int a1, .int a2] h Q := by
  unfold D_Mo_isWater at hD
  refine Mi.of RX8 rfl (by decide) (by simp [lg_sl, Value.category]) [(0, .ref o), (1, .int a1), (2, .int a2)] rfl (fun X hXl C R => ?_)
  subst hXl
  refine g_wt (fun hw => ?_)
  refine g_aload_n (pc := 0) rfl 0 rfl C dX8_isWater_0 ?_
  refine g_iload_n (pc := 1) rfl 1 rfl C dX8_isWater_1 ?_
  refine g_iload_n (pc := 2) rfl 2 rfl C dX8_isWater_2 ?_
  refine g_callVi (pc := 3) (As := [.int a1, .int a2]) C mv_RX8_360 (M_Mo_isCell t0 hD) t0 (by decide) rfl rfl (Nat.le_of_ble_eq_true rfl) dX8_isWater_3 (fun x2 h1 hD => ?_)
  refine g_if_eq (pc := 6) 22 C dX8_isWater_6 (by decide) (fun c3 => ?_) (fun c3 => ?_)
  · have hD := hD.1 c3
    refine g_iconst (pc := 22) (v := 0) (by decide) C dX8_isWater_22 ?_
    exact g_zret (pc := 23) C R nz_0 dX8_isWater_23 hD
  · have hD := hD.2 c3
    refine g_aload_n (pc := 9) rfl 0 rfl C dX8_isWater_9 ?_
    refine g_iload_n (pc := 10) rfl 1 rfl C dX8_isWater_10 ?_
    refine g_iload_n (pc := 11) rfl 2 rfl C dX8_isWater_11 ?_
    refine g_callVi (pc := 12) (As := [.int a1, .int a2]) C mv_RX8_319 (M_Mo_sortAt t0 hD) t0 (by decide) rfl rfl (Nat.le_of_ble_eq_true rfl) dX8_isWater_12 (fun x5 h4 hD => ?_)
    refine g_if_ne (pc := 15) 22 C dX8_isWater_15 (by decide) (fun c6 => ?_) (fun c6 => ?_)
    · have hD := hD.1 c6
      refine g_iconst (pc := 22) (v := 0) (by decide) C dX8_isWater_22 ?_
      exact g_zret (pc := 23) C R nz_0 dX8_isWater_23 hD
    · have hD := hD.2 c6
      refine g_iconst (pc := 18) (v := 1) (by decide) C dX8_isWater_18 ?_
      refine g_goto (pc := 19) 23 C dX8_isWater_19 (by decide) ?_
      exact g_zret (pc := 23) C R nz_1 dX8_isWater_23 hD
def DB_Mo_smeltAt_5 (r : TR) (l0 : Nat) (l1 : Int32) (l2 : Int32) (l3 : Int32) (l4 : Int32) (h : TH) (K5 : Int32 → Int32 → TH → Prop) (K43 : Int32 → TH → Prop) (Q : Int32 → TH → Prop) : Prop :=
  ∀ i4 : Int32, i4 = h.1 l0 18 → vp_in i4 2 ∧ (((h.1 (r l0 25) i4.toNatClampNeg) ≤ l4 → K43 l3 h) ∧ (¬ (h.1 (r l0 25) i4.toNatClampNeg) ≤ l4 → D_Mo_isSmelt r l0 l1 l2 l4 h (fun x7 h6 => ((x7 = 0 → ∀ x9 : Int32, x9 = l4 + 1 → K5 l3 x9 h6) ∧ (¬ x7 = 0 → ∀ x10 : Int32, x10 = l3 ||| ((1 : Int32) <<< (l4 &&& 31)) → ∀ x11 : Int32, x11 = l4 + 1 → K5 x10 x11 h6)))))
set_option maxRecDepth 100000 in
set_option maxHeartbeats 4000000 in
theorem WB_Mo_smeltAt_5 {Y : CG} {X : CX} {r : TR} {l0 : Nat} {l1 : Int32} {l2 : Int32} {l3 : Int32} {l4 : Int32} {h : TH} {K5 : Int32 → Int32 → TH → Prop} {K43 : Int32 → TH → Prop} {Q : Int32 → TH → Prop} (C : Gd Y X cX8_smeltAt 5 RX8 2) (R : Ri Y r X .int Q) (t0 : TO Y l0 8) (hK5 : ∀ (k3 : Int32) (k4 : Int32) (hh : TH), K5 k3 k4 hh → G Y X 5 5 [(0, .ref l0), (1, .int l1), (2, .int l2), (3, .int k3), (4, .int k4)] [] r hh) (hK43 : ∀ (k3 : Int32) (hh : TH), K43 k3 hh → G Y X 5 43 [(3, .int k3)] [] r hh) (hD : DB_Mo_smeltAt_5 r l0 l1 l2 l3 l4 h K5 K43 Q) : G Y X 5 5 [(0, .ref l0), (1, .int l1), (2, .int l2), (3, .int l3), (4, .int l4)] [] r h := by
  unfold DB_Mo_smeltAt_5 at hD
  refine g_wt (fun hw => ?_)
  refine g_iload (pc := 5) 4 rfl C dX8_smeltAt_5 ?_
  refine g_aload_n (pc := 7) rfl 0 rfl C dX8_smeltAt_7 ?_
  have u3 : TA Y (r l0 25) 10 2 := wt_a hw t0 (by decide) (by decide) rfl
  refine g_getR (pc := 8) C fl_RX8_52 t0 rfl dX8_smeltAt_8 ?_
  refine g_aload_n (pc := 11) rfl 0 rfl C dX8_smeltAt_11 ?_
  refine g_getI (pc := 12) C fl_RX8_230 t0 rfl dX8_smeltAt_12 ?_
  refine g_topi (fun i4 ei4 => ?_)
  have hD := hD i4 ei4
  obtain ⟨hb, hD⟩ := hD
  refine g_iald (pc := 15) C u3 hb dX8_smeltAt_15 ?_
  refine g_icmp_ge (pc := 16) 43 C dX8_smeltAt_16 (by decide) (fun c5 => ?_) (fun c5 => ?_)
  · have hD := hD.1 c5
    refine g_sub [3] rfl ?_
    exact hK43 l3 h hD
  · have hD := hD.2 c5
    refine g_aload_n (pc := 19) rfl 0 rfl C dX8_smeltAt_19 ?_
    refine g_iload_n (pc := 20) rfl 1 rfl C dX8_smeltAt_20 ?_
    refine g_iload_n (pc := 21) rfl 2 rfl C dX8_smeltAt_21 ?_
    refine g_iload (pc := 22) 4 rfl C dX8_smeltAt_22 ?_
    refine g_callVi (pc := 24) (As := [.int l1, .int l2, .int l4]) C mv_RX8_367 (M_Mo_isSmelt t0 hD) t0 (by decide) rfl rfl (Nat.le_of_ble_eq_true rfl) dX8_smeltAt_24 (fun x7 h6 hD => ?_)
    refine g_if_eq (pc := 27) 37 C dX8_smeltAt_27 (by decide) (fun c8 => ?_) (fun c8 => ?_)
    · have hD := hD.1 c8
      refine g_iinc (pc := 37) (q := 4) (c := 1) (fun x9 => [(4, .int x9), (0, .ref l0), (1, .int l1), (2, .int l2), (3, .int l3)]) C dX8_smeltAt_37 rfl (by decide) (by decide) rfl (fun x9 ex9 => ?_)
      have hD := hD x9 ex9
      refine g_goto (pc := 40) 5 C dX8_smeltAt_40 (by decide) ?_
      refine g_sub [1, 2, 3, 4, 0] rfl ?_
      exact hK5 l3 x9 h6 hD
    · have hD := hD.2 c8
      refine g_iload_n (pc := 30) rfl 3 rfl C dX8_smeltAt_30 ?_
      refine g_iconst (pc := 31) (v := 1) (by decide) C dX8_smeltAt_31 ?_
      refine g_iload (pc := 32) 4 rfl C dX8_smeltAt_32 ?_
      refine g_ishl (pc := 34) C dX8_smeltAt_34 ?_
      refine g_ior (pc := 35) C dX8_smeltAt_35 ?_
      refine g_istore_n (pc := 36) (fun x10 => [(3, .int x10), (0, .ref l0), (1, .int l1), (2, .int l2), (4, .int l4)]) C dX8_smeltAt_36 rfl (by decide) rfl (fun x10 ex10 => ?_)
      have hD := hD x10 ex10
      refine g_iinc (pc := 37) (q := 4) (c := 1) (fun x11 => [(4, .int x11), (3, .int x10), (0, .ref l0), (1, .int l1), (2, .int l2)]) C dX8_smeltAt_37 rfl (by decide) (by decide) rfl (fun x11 ex11 => ?_)
      have hD := hD x11 ex11
      refine g_goto (pc := 40) 5 C dX8_smeltAt_40 (by decide) ?_
      refine g_sub [2, 3, 4, 1, 0] rfl ?_
      exact hK5 x10 x11 h6 hD
def D_Mo_smeltAt (r : TR) (o : Nat) (a1 : Int32) (a2 : Int32) (h : TH) (Q : Int32 → TH → Prop) : Prop :=
  ∃ n, lp (fun (K : Int32 × Int32 × TH → Prop) (s : Int32 × Int32 × TH) => DB_Mo_smeltAt_5 r o a1 a2 s.1 s.2.1 s.2.2 (fun y12 y13 h14 => K (y12, y13, h14)) (fun x15 h16 => Q x15 h16) Q) n (0, 0, h)
set_option maxRecDepth 100000 in
set_option maxHeartbeats 4000000 in
theorem M_Mo_smeltAt {Y : CG} {r : TR} {l : Launch} {o : Nat} {a1 : Int32} {a2 : Int32} {h : TH} {Q : Int32 → TH → Prop} (t0 : TO Y o 8) (hD : D_Mo_smeltAt r o a1 a2 h Q) : Mi Y r l yX8_smeltAt cX8_smeltAt 5 .int 2 [.ref o, .int a1, .int a2] h Q := by
  unfold D_Mo_smeltAt at hD
  refine Mi.of RX8 rfl (by decide) (by simp [lg_sl, Value.category]) [(0, .ref o), (1, .int a1), (2, .int a2)] rfl (fun X hXl C R => ?_)
  subst hXl
  refine g_wt (fun hw => ?_)
  refine g_iconst (pc := 0) (v := 0) (by decide) C dX8_smeltAt_0 ?_
  refine g_istore_n (pc := 1) (fun _ => [(3, .int 0), (0, .ref o), (1, .int a1), (2, .int a2)]) C dX8_smeltAt_1 rfl (by decide) rfl (fun _ _ => ?_)
  refine g_iconst (pc := 2) (v := 0) (by decide) C dX8_smeltAt_2 ?_
  refine g_istore (pc := 3) (fun _ => [(4, .int 0), (3, .int 0), (0, .ref o), (1, .int a1), (2, .int a2)]) C dX8_smeltAt_3 (by decide) rfl (fun _ _ => ?_)
  obtain ⟨n, hD⟩ := hD
  refine g_sub [2, 3, 4, 1, 0] rfl ?_
  refine lp_run (fun s : Int32 × Int32 × TH => G Y X 5 5 [(0, .ref o), (1, .int a1), (2, .int a2), (3, .int s.1), (4, .int s.2.1)] [] r s.2.2) (fun K s hB hK => ?_) n (0, 0, h) hD
  refine WB_Mo_smeltAt_5 C R t0 (fun y12 y13 h14 hk => hK _ hk) (fun x15 h16 hD => ?_) hB
  · refine g_iload_n (pc := 43) rfl 0 rfl C dX8_smeltAt_43 ?_
    exact g_iret (pc := 44) C R dX8_smeltAt_44 hD
def DB_Mo_bare_22 (r : TR) (l0 : Nat) (l2 : Int32) (l3 : Int32) (h : TH) (K22 : Int32 → Int32 → TH → Prop) (K67 : Int32 → TH → Prop) (Q : Int32 → TH → Prop) : Prop :=
  ((40 ≤ l3 → K67 l2 h) ∧ (¬ 40 ≤ l3 → D_Mo_isWater r l0 (jrem l3 8) (l3 / 8) h (fun x12 h11 => ((x12 = 0 → ∀ x14 : Int32, x14 = l3 + 1 → K22 l2 x14 h11) ∧ (¬ x12 = 0 → D_Mo_smeltAt r l0 (jrem l3 8) (l3 / 8) h11 (fun x16 h15 => ((¬ x16 = 0 → ∀ x18 : Int32, x18 = l3 + 1 → K22 l2 x18 h15) ∧ (x16 = 0 → ∀ x19 : Int32, x19 = l2 + 1 → ∀ x20 : Int32, x20 = l3 + 1 → K22 x19 x20 h15))))))))
set_option maxRecDepth 100000 in
set_option maxHeartbeats 4000000 in
theorem WB_Mo_bare_22 {Y : CG} {X : CX} {r : TR} {l0 : Nat} {l2 : Int32} {l3 : Int32} {h : TH} {K22 : Int32 → Int32 → TH → Prop} {K67 : Int32 → TH → Prop} {Q : Int32 → TH → Prop} (C : Gd Y X cX8_bare 4 RX8 7) (R : Ri Y r X .int Q) (t0 : TO Y l0 8) (hK22 : ∀ (k2 : Int32) (k3 : Int32) (hh : TH), K22 k2 k3 hh → G Y X 4 22 [(0, .ref l0), (2, .int k2), (3, .int k3)] [] r hh) (hK67 : ∀ (k2 : Int32) (hh : TH), K67 k2 hh → G Y X 4 67 [(2, .int k2)] [] r hh) (hD : DB_Mo_bare_22 r l0 l2 l3 h K22 K67 Q) : G Y X 4 22 [(0, .ref l0), (2, .int l2), (3, .int l3)] [] r h := by
  unfold DB_Mo_bare_22 at hD
  refine g_wt (fun hw => ?_)
  refine g_iload_n (pc := 22) rfl 2 rfl C dX8_bare_22 ?_
  refine g_bipush (pc := 23) (v := 40) (by decide) C dX8_bare_23 ?_
  refine g_icmp_ge (pc := 25) 67 C dX8_bare_25 (by decide) (fun c10 => ?_) (fun c10 => ?_)
  · have hD := hD.1 c10
    refine g_sub [1] rfl ?_
    exact hK67 l2 h hD
  · have hD := hD.2 c10
    refine g_aload_n (pc := 28) rfl 0 rfl C dX8_bare_28 ?_
    refine g_iload_n (pc := 29) rfl 2 rfl C dX8_bare_29 ?_
    refine g_bipush (pc := 30) (v := 8) (by decide) C dX8_bare_30 ?_
    refine g_irem (pc := 32) (by decide) C dX8_bare_32 ?_
    refine g_iload_n (pc := 33) rfl 2 rfl C dX8_bare_33 ?_
    refine g_bipush (pc := 34) (v := 8) (by decide) C dX8_bare_34 ?_
    refine g_idiv (pc := 36) (by decide) C dX8_bare_36 ?_
    refine g_callVi (pc := 37) (As := [.int (jrem l3 8), .int (l3 / 8)]) C mv_RX8_440 (M_Mo_isWater t0 hD) t0 (by decide) rfl rfl (Nat.le_of_ble_eq_true rfl) dX8_bare_37 (fun x12 h11 hD => ?_)
    refine g_if_eq (pc := 40) 61 C dX8_bare_40 (by decide) (fun c13 => ?_) (fun c13 => ?_)
    · have hD := hD.1 c13
      refine g_iinc (pc := 61) (q := 2) (c := 1) (fun x14 => [(3, .int x14), (0, .ref l0), (2, .int l2)]) C dX8_bare_61 rfl (by decide) (by decide) rfl (fun x14 ex14 => ?_)
      have hD := hD x14 ex14
      refine g_goto (pc := 64) 22 C dX8_bare_64 (by decide) ?_
      refine g_sub [1, 2, 0] rfl ?_
      exact hK22 l2 x14 h11 hD
    · have hD := hD.2 c13
      refine g_aload_n (pc := 43) rfl 0 rfl C dX8_bare_43 ?_
      refine g_iload_n (pc := 44) rfl 2 rfl C dX8_bare_44 ?_
      refine g_bipush (pc := 45) (v := 8) (by decide) C dX8_bare_45 ?_
      refine g_irem (pc := 47) (by decide) C dX8_bare_47 ?_
      refine g_iload_n (pc := 48) rfl 2 rfl C dX8_bare_48 ?_
      refine g_bipush (pc := 49) (v := 8) (by decide) C dX8_bare_49 ?_
      refine g_idiv (pc := 51) (by decide) C dX8_bare_51 ?_
      refine g_callVi (pc := 52) (As := [.int (jrem l3 8), .int (l3 / 8)]) C mv_RX8_400 (M_Mo_smeltAt t0 hD) t0 (by decide) rfl rfl (Nat.le_of_ble_eq_true rfl) dX8_bare_52 (fun x16 h15 hD => ?_)
      refine g_if_ne (pc := 55) 61 C dX8_bare_55 (by decide) (fun c17 => ?_) (fun c17 => ?_)
      · have hD := hD.1 c17
        refine g_iinc (pc := 61) (q := 2) (c := 1) (fun x18 => [(3, .int x18), (0, .ref l0), (2, .int l2)]) C dX8_bare_61 rfl (by decide) (by decide) rfl (fun x18 ex18 => ?_)
        have hD := hD x18 ex18
        refine g_goto (pc := 64) 22 C dX8_bare_64 (by decide) ?_
        refine g_sub [1, 2, 0] rfl ?_
        exact hK22 l2 x18 h15 hD
      · have hD := hD.2 c17
        refine g_iinc (pc := 58) (q := 1) (c := 1) (fun x19 => [(2, .int x19), (0, .ref l0), (3, .int l3)]) C dX8_bare_58 rfl (by decide) (by decide) rfl (fun x19 ex19 => ?_)
        have hD := hD x19 ex19
        refine g_iinc (pc := 61) (q := 2) (c := 1) (fun x20 => [(3, .int x20), (2, .int x19), (0, .ref l0)]) C dX8_bare_61 rfl (by decide) (by decide) rfl (fun x20 ex20 => ?_)
        have hD := hD x20 ex20
        refine g_goto (pc := 64) 22 C dX8_bare_64 (by decide) ?_
        refine g_sub [2, 1, 0] rfl ?_
        exact hK22 x19 x20 h15 hD
def D_Mo_bare (r : TR) (o : Nat) (a1 : Int32) (h : TH) (Q : Int32 → TH → Prop) : Prop :=
  D_Mo_isLong r a1 h (fun x2 h1 => ((¬ x2 = 0 → D_Mo_copies r o h1 (fun h4 => D_Mo_goes r o a1 h4 (fun h6 => ∃ n, lp (fun (K : Int32 × Int32 × TH → Prop) (s : Int32 × Int32 × TH) => DB_Mo_bare_22 r o s.1 s.2.1 s.2.2 (fun y21 y22 h23 => K (y21, y22, h23)) (fun x24 h25 => Q x24 h25) Q) n (0, 0, h6)))) ∧ (x2 = 0 → Q (-1) h1)))
set_option maxRecDepth 100000 in
set_option maxHeartbeats 4000000 in
theorem M_Mo_bare {Y : CG} {r : TR} {l : Launch} {o : Nat} {a1 : Int32} {h : TH} {Q : Int32 → TH → Prop} (t0 : TO Y o 8) (hD : D_Mo_bare r o a1 h Q) : Mi Y r l yX8_bare cX8_bare 4 .int 7 [.ref o, .int a1] h Q := by
  unfold D_Mo_bare at hD
  refine Mi.of RX8 rfl (by decide) (by simp [lg_sl, Value.category]) [(0, .ref o), (1, .int a1)] rfl (fun X hXl C R => ?_)
  subst hXl
  refine g_wt (fun hw => ?_)
  refine g_iload_n (pc := 0) rfl 1 rfl C dX8_bare_0 ?_
  refine g_callSi (pc := 1) (As := [.int a1]) C ms_RX8_409 (M_Mo_isLong  hD) (by decide) rfl rfl (Nat.le_of_ble_eq_true rfl) dX8_bare_1 (fun x2 h1 hD => ?_)
  refine g_if_ne (pc := 4) 9 C dX8_bare_4 (by decide) (fun c3 => ?_) (fun c3 => ?_)
  · have hD := hD.1 c3
    refine g_aload_n (pc := 9) rfl 0 rfl C dX8_bare_9 ?_
    refine g_callVv (pc := 10) (As := []) C mv_RX8_397 (M_Mo_copies t0 hD) t0 (by decide) rfl rfl (Nat.le_of_ble_eq_true rfl) dX8_bare_10 (fun h4 hD => ?_)
    refine g_aload_n (pc := 13) rfl 0 rfl C dX8_bare_13 ?_
    refine g_iload_n (pc := 14) rfl 1 rfl C dX8_bare_14 ?_
    refine g_callVv (pc := 15) (As := [.int a1]) C mv_RX8_403 (M_Mo_goes t0 hD) t0 (by decide) rfl rfl (Nat.le_of_ble_eq_true rfl) dX8_bare_15 (fun h6 hD => ?_)
    refine g_iconst (pc := 18) (v := 0) (by decide) C dX8_bare_18 ?_
    refine g_istore_n (pc := 19) (fun _ => [(2, .int 0), (0, .ref o), (1, .int a1)]) C dX8_bare_19 rfl (by decide) rfl (fun _ _ => ?_)
    refine g_iconst (pc := 20) (v := 0) (by decide) C dX8_bare_20 ?_
    refine g_istore_n (pc := 21) (fun _ => [(3, .int 0), (2, .int 0), (0, .ref o), (1, .int a1)]) C dX8_bare_21 rfl (by decide) rfl (fun _ _ => ?_)
    obtain ⟨n, hD⟩ := hD
    refine g_sub [2, 1, 0] rfl ?_
    refine lp_run (fun s : Int32 × Int32 × TH => G Y X 4 22 [(0, .ref o), (2, .int s.1), (3, .int s.2.1)] [] r s.2.2) (fun K s hB hK => ?_) n (0, 0, h6) hD
    refine WB_Mo_bare_22 C R t0 (fun y21 y22 h23 hk => hK _ hk) (fun x24 h25 hD => ?_) hB
    · refine g_iload_n (pc := 67) rfl 0 rfl C dX8_bare_67 ?_
      exact g_iret (pc := 68) C R dX8_bare_68 hD
  · have hD := hD.2 c3
    refine g_iconst (pc := 7) (v := (-1)) (by decide) C dX8_bare_7 ?_
    exact g_iret (pc := 8) C R dX8_bare_8 hD
def D_Mo_isBoat (r : TR) (o : Nat) (a1 : Int32) (h : TH) (Q : Int32 → TH → Prop) : Prop :=
  ∀ i2 : Int32, i2 = h.1 o 18 → vp_in i2 2 ∧ D_Mo_in r a1 0 ((h.1 (r o 25) i2.toNatClampNeg) - 1) h (fun x4 h3 => (narrow .boolean (.int x4) = .int x4 ∧ Q x4 h3))
set_option maxRecDepth 100000 in
set_option maxHeartbeats 4000000 in
theorem M_Mo_isBoat {Y : CG} {r : TR} {l : Launch} {o : Nat} {a1 : Int32} {h : TH} {Q : Int32 → TH → Prop} (t0 : TO Y o 8) (hD : D_Mo_isBoat r o a1 h Q) : Mi Y r l yX8_isBoat cX8_isBoat 2 .boolean 2 [.ref o, .int a1] h Q := by
  unfold D_Mo_isBoat at hD
  refine Mi.of RX8 rfl (by decide) (by simp [lg_sl, Value.category]) [(0, .ref o), (1, .int a1)] rfl (fun X hXl C R => ?_)
  subst hXl
  refine g_wt (fun hw => ?_)
  refine g_iload_n (pc := 0) rfl 1 rfl C dX8_isBoat_0 ?_
  refine g_iconst (pc := 1) (v := 0) (by decide) C dX8_isBoat_1 ?_
  refine g_aload_n (pc := 2) rfl 0 rfl C dX8_isBoat_2 ?_
  have u1 : TA Y (r o 25) 10 2 := wt_a hw t0 (by decide) (by decide) rfl
  refine g_getR (pc := 3) C fl_RX8_52 t0 rfl dX8_isBoat_3 ?_
  refine g_aload_n (pc := 6) rfl 0 rfl C dX8_isBoat_6 ?_
  refine g_getI (pc := 7) C fl_RX8_230 t0 rfl dX8_isBoat_7 ?_
  refine g_topi (fun i2 ei2 => ?_)
  have hD := hD i2 ei2
  obtain ⟨hb, hD⟩ := hD
  refine g_iald (pc := 10) C u1 hb dX8_isBoat_10 ?_
  refine g_iconst (pc := 11) (v := 1) (by decide) C dX8_isBoat_11 ?_
  refine g_isub (pc := 12) C dX8_isBoat_12 ?_
  refine g_callSi (pc := 13) (As := [.int a1, .int 0, .int ((h.1 (r o 25) i2.toNatClampNeg) - 1)]) C ms_RX8_303 (M_Mo_in  hD) (by decide) rfl rfl (Nat.le_of_ble_eq_true rfl) dX8_isBoat_13 (fun x4 h3 hD => ?_)
  exact g_zret (pc := 16) C R hD.1 dX8_isBoat_16 hD.2
def D_Mo_isLost (r : TR) (o : Nat) (a1 : Int32) (h : TH) (Q : Int32 → TH → Prop) : Prop :=
  ∀ i2 : Int32, i2 = 18 + a1 → vp_in i2 512 ∧ ((¬ (h.1 (r o 49) i2.toNatClampNeg) = 1 → Q 0 h) ∧ ((h.1 (r o 49) i2.toNatClampNeg) = 1 → Q 1 h))
set_option maxRecDepth 100000 in
set_option maxHeartbeats 4000000 in
theorem M_Mo_isLost {Y : CG} {r : TR} {l : Launch} {o : Nat} {a1 : Int32} {h : TH} {Q : Int32 → TH → Prop} (t0 : TO Y o 8) (hD : D_Mo_isLost r o a1 h Q) : Mi Y r l yX8_isLost cX8_isLost 2 .boolean 1 [.ref o, .int a1] h Q := by
  unfold D_Mo_isLost at hD
  refine Mi.of RX8 rfl (by decide) (by simp [lg_sl, Value.category]) [(0, .ref o), (1, .int a1)] rfl (fun X hXl C R => ?_)
  subst hXl
  refine g_wt (fun hw => ?_)
  refine g_aload_n (pc := 0) rfl 0 rfl C dX8_isLost_0 ?_
  have u1 : TA Y (r o 49) 10 512 := wt_a hw t0 (by decide) (by decide) rfl
  refine g_getR (pc := 1) C fl_RX8_113 t0 rfl dX8_isLost_1 ?_
  refine g_bipush (pc := 4) (v := 18) (by decide) C dX8_isLost_4 ?_
  refine g_iload_n (pc := 6) rfl 1 rfl C dX8_isLost_6 ?_
  refine g_iadd (pc := 7) C dX8_isLost_7 ?_
  refine g_topi (fun i2 ei2 => ?_)
  have hD := hD i2 ei2
  obtain ⟨hb, hD⟩ := hD
  refine g_iald (pc := 8) C u1 hb dX8_isLost_8 ?_
  refine g_iconst (pc := 9) (v := 1) (by decide) C dX8_isLost_9 ?_
  refine g_icmp_ne (pc := 10) 17 C dX8_isLost_10 (by decide) (fun c3 => ?_) (fun c3 => ?_)
  · have hD := hD.1 c3
    refine g_iconst (pc := 17) (v := 0) (by decide) C dX8_isLost_17 ?_
    exact g_zret (pc := 18) C R nz_0 dX8_isLost_18 hD
  · have hD := hD.2 c3
    refine g_iconst (pc := 13) (v := 1) (by decide) C dX8_isLost_13 ?_
    refine g_goto (pc := 14) 18 C dX8_isLost_14 (by decide) ?_
    exact g_zret (pc := 18) C R nz_1 dX8_isLost_18 hD
def DJ_Mo_isAhead_16 (r : TR) (l0 : Nat) (l1 : Int32) (l2 : Int32) (h : TH) (Q : Int32 → TH → Prop) : Prop :=
  D_Mo_isLost r l0 l1 h (fun x5 h4 => ((x5 = 0 → Q 1 h4) ∧ (¬ x5 = 0 → D_Mo_isLost r l0 l2 h4 (fun x8 h7 => ((x8 = 0 → Q 0 h7) ∧ (¬ x8 = 0 → ((l2 ≤ l1 → Q 0 h7) ∧ (¬ l2 ≤ l1 → Q 1 h7))))))))
set_option maxRecDepth 100000 in
set_option maxHeartbeats 4000000 in
theorem WJ_Mo_isAhead_16 {Y : CG} {X : CX} {r : TR} {l0 : Nat} {l1 : Int32} {l2 : Int32} {h : TH} {Q : Int32 → TH → Prop} (C : Gd Y X cX8_isAhead 5 RX8 2) (R : Ri Y r X .boolean Q) (t0 : TO Y l0 8) (hD : DJ_Mo_isAhead_16 r l0 l1 l2 h  Q) : G Y X 5 16 [(0, .ref l0), (1, .int l1), (2, .int l2)] [] r h := by
  unfold DJ_Mo_isAhead_16 at hD
  refine g_wt (fun hw => ?_)
  refine g_aload_n (pc := 16) rfl 0 rfl C dX8_isAhead_16 ?_
  refine g_iload_n (pc := 17) rfl 1 rfl C dX8_isAhead_17 ?_
  refine g_callVi (pc := 18) (As := [.int l1]) C mv_RX8_385 (M_Mo_isLost t0 hD) t0 (by decide) rfl rfl (Nat.le_of_ble_eq_true rfl) dX8_isAhead_18 (fun x5 h4 hD => ?_)
  refine g_if_eq (pc := 21) 45 C dX8_isAhead_21 (by decide) (fun c6 => ?_) (fun c6 => ?_)
  · have hD := hD.1 c6
    refine g_iconst (pc := 45) (v := 1) (by decide) C dX8_isAhead_45 ?_
    exact g_zret (pc := 46) C R nz_1 dX8_isAhead_46 hD
  · have hD := hD.2 c6
    refine g_aload_n (pc := 24) rfl 0 rfl C dX8_isAhead_24 ?_
    refine g_iload_n (pc := 25) rfl 2 rfl C dX8_isAhead_25 ?_
    refine g_callVi (pc := 26) (As := [.int l2]) C mv_RX8_385 (M_Mo_isLost t0 hD) t0 (by decide) rfl rfl (Nat.le_of_ble_eq_true rfl) dX8_isAhead_26 (fun x8 h7 hD => ?_)
    refine g_if_eq (pc := 29) 41 C dX8_isAhead_29 (by decide) (fun c9 => ?_) (fun c9 => ?_)
    · have hD := hD.1 c9
      refine g_iconst (pc := 41) (v := 0) (by decide) C dX8_isAhead_41 ?_
      refine g_goto (pc := 42) 46 C dX8_isAhead_42 (by decide) ?_
      exact g_zret (pc := 46) C R nz_0 dX8_isAhead_46 hD
    · have hD := hD.2 c9
      refine g_iload_n (pc := 32) rfl 1 rfl C dX8_isAhead_32 ?_
      refine g_iload_n (pc := 33) rfl 2 rfl C dX8_isAhead_33 ?_
      refine g_icmp_ge (pc := 34) 41 C dX8_isAhead_34 (by decide) (fun c10 => ?_) (fun c10 => ?_)
      · have hD := hD.1 c10
        refine g_iconst (pc := 41) (v := 0) (by decide) C dX8_isAhead_41 ?_
        refine g_goto (pc := 42) 46 C dX8_isAhead_42 (by decide) ?_
        exact g_zret (pc := 46) C R nz_0 dX8_isAhead_46 hD
      · have hD := hD.2 c10
        refine g_iconst (pc := 37) (v := 1) (by decide) C dX8_isAhead_37 ?_
        refine g_goto (pc := 38) 46 C dX8_isAhead_38 (by decide) ?_
        exact g_zret (pc := 46) C R nz_1 dX8_isAhead_46 hD
def DJ_Mo_isAhead_77 (r : TR) (l3 : Int32) (l4 : Int32) (h : TH) (Q : Int32 → TH → Prop) : Prop :=
  ((l3 ≤ 0 → Q 0 h) ∧ (¬ l3 ≤ 0 → ((l4 = 0 → Q 1 h) ∧ (¬ l4 = 0 → ((l4 ≤ l3 → Q 0 h) ∧ (¬ l4 ≤ l3 → Q 1 h))))))
set_option maxRecDepth 100000 in
set_option maxHeartbeats 4000000 in
theorem WJ_Mo_isAhead_77 {Y : CG} {X : CX} {r : TR} {l3 : Int32} {l4 : Int32} {h : TH} {Q : Int32 → TH → Prop} (C : Gd Y X cX8_isAhead 5 RX8 2) (R : Ri Y r X .boolean Q) (hD : DJ_Mo_isAhead_77 r l3 l4 h  Q) : G Y X 5 77 [(3, .int l3), (4, .int l4)] [] r h := by
  unfold DJ_Mo_isAhead_77 at hD
  refine g_wt (fun hw => ?_)
  refine g_iload_n (pc := 77) rfl 0 rfl C dX8_isAhead_77 ?_
  refine g_if_le (pc := 78) 96 C dX8_isAhead_78 (by decide) (fun c21 => ?_) (fun c21 => ?_)
  · have hD := hD.1 c21
    refine g_iconst (pc := 96) (v := 0) (by decide) C dX8_isAhead_96 ?_
    exact g_zret (pc := 97) C R nz_0 dX8_isAhead_97 hD
  · have hD := hD.2 c21
    refine g_iload (pc := 81) 1 rfl C dX8_isAhead_81 ?_
    refine g_if_eq (pc := 83) 92 C dX8_isAhead_83 (by decide) (fun c22 => ?_) (fun c22 => ?_)
    · have hD := hD.1 c22
      refine g_iconst (pc := 92) (v := 1) (by decide) C dX8_isAhead_92 ?_
      refine g_goto (pc := 93) 97 C dX8_isAhead_93 (by decide) ?_
      exact g_zret (pc := 97) C R nz_1 dX8_isAhead_97 hD
    · have hD := hD.2 c22
      refine g_iload_n (pc := 86) rfl 0 rfl C dX8_isAhead_86 ?_
      refine g_iload (pc := 87) 1 rfl C dX8_isAhead_87 ?_
      refine g_icmp_ge (pc := 89) 96 C dX8_isAhead_89 (by decide) (fun c23 => ?_) (fun c23 => ?_)
      · have hD := hD.1 c23
        refine g_iconst (pc := 96) (v := 0) (by decide) C dX8_isAhead_96 ?_
        exact g_zret (pc := 97) C R nz_0 dX8_isAhead_97 hD
      · have hD := hD.2 c23
        refine g_iconst (pc := 92) (v := 1) (by decide) C dX8_isAhead_92 ?_
        refine g_goto (pc := 93) 97 C dX8_isAhead_93 (by decide) ?_
        exact g_zret (pc := 97) C R nz_1 dX8_isAhead_97 hD
def D_Mo_isAhead (r : TR) (o : Nat) (a1 : Int32) (a2 : Int32) (h : TH) (Q : Int32 → TH → Prop) : Prop :=
  D_Mo_isLost r o a1 h (fun x2 h1 => ((¬ x2 = 0 → DJ_Mo_isAhead_16 r o a1 a2 h1 Q) ∧ (x2 = 0 → D_Mo_isLost r o a2 h1 (fun x12 h11 => ((x12 = 0 → ∀ i15 : Int32, i15 = 12 + a1 → vp_in i15 512 ∧ ∀ x16 : Int32, x16 = h11.1 (r o 49) i15.toNatClampNeg → ∀ i18 : Int32, i18 = 12 + a2 → vp_in i18 512 ∧ ∀ x19 : Int32, x19 = h11.1 (r o 49) i18.toNatClampNeg → ((0 < x16 → DJ_Mo_isAhead_77 r x16 x19 h11 Q) ∧ (¬ 0 < x16 → ((x19 ≤ 0 → vp_in a1 512 ∧ vp_in a2 512 ∧ (((h11.1 (r o 49) a2.toNatClampNeg) < (h11.1 (r o 49) a1.toNatClampNeg) → Q 1 h11) ∧ (¬ (h11.1 (r o 49) a2.toNatClampNeg) < (h11.1 (r o 49) a1.toNatClampNeg) → vp_in a1 512 ∧ vp_in a2 512 ∧ ((¬ (h11.1 (r o 49) a1.toNatClampNeg) = (h11.1 (r o 49) a2.toNatClampNeg) → Q 0 h11) ∧ ((h11.1 (r o 49) a1.toNatClampNeg) = (h11.1 (r o 49) a2.toNatClampNeg) → ((a2 ≤ a1 → Q 0 h11) ∧ (¬ a2 ≤ a1 → Q 1 h11))))))) ∧ (¬ x19 ≤ 0 → DJ_Mo_isAhead_77 r x16 x19 h11 Q))))) ∧ (¬ x12 = 0 → DJ_Mo_isAhead_16 r o a1 a2 h11 Q))))))
set_option maxRecDepth 100000 in
set_option maxHeartbeats 4000000 in
theorem M_Mo_isAhead {Y : CG} {r : TR} {l : Launch} {o : Nat} {a1 : Int32} {a2 : Int32} {h : TH} {Q : Int32 → TH → Prop} (t0 : TO Y o 8) (hD : D_Mo_isAhead r o a1 a2 h Q) : Mi Y r l yX8_isAhead cX8_isAhead 5 .boolean 2 [.ref o, .int a1, .int a2] h Q := by
  unfold D_Mo_isAhead at hD
  refine Mi.of RX8 rfl (by decide) (by simp [lg_sl, Value.category]) [(0, .ref o), (1, .int a1), (2, .int a2)] rfl (fun X hXl C R => ?_)
  subst hXl
  refine g_wt (fun hw => ?_)
  refine g_aload_n (pc := 0) rfl 0 rfl C dX8_isAhead_0 ?_
  refine g_iload_n (pc := 1) rfl 1 rfl C dX8_isAhead_1 ?_
  refine g_callVi (pc := 2) (As := [.int a1]) C mv_RX8_385 (M_Mo_isLost t0 hD) t0 (by decide) rfl rfl (Nat.le_of_ble_eq_true rfl) dX8_isAhead_2 (fun x2 h1 hD => ?_)
  refine g_if_ne (pc := 5) 16 C dX8_isAhead_5 (by decide) (fun c3 => ?_) (fun c3 => ?_)
  · have hD := hD.1 c3
    refine g_sub [0, 1, 2] rfl ?_
    exact WJ_Mo_isAhead_16 C R t0 hD
  · have hD := hD.2 c3
    refine g_aload_n (pc := 8) rfl 0 rfl C dX8_isAhead_8 ?_
    refine g_iload_n (pc := 9) rfl 2 rfl C dX8_isAhead_9 ?_
    refine g_callVi (pc := 10) (As := [.int a2]) C mv_RX8_385 (M_Mo_isLost t0 hD) t0 (by decide) rfl rfl (Nat.le_of_ble_eq_true rfl) dX8_isAhead_10 (fun x12 h11 hD => ?_)
    refine g_if_eq (pc := 13) 47 C dX8_isAhead_13 (by decide) (fun c13 => ?_) (fun c13 => ?_)
    · have hD := hD.1 c13
      refine g_aload_n (pc := 47) rfl 0 rfl C dX8_isAhead_47 ?_
      have u14 : TA Y (r o 49) 10 512 := wt_a hw t0 (by decide) (by decide) rfl
      refine g_getR (pc := 48) C fl_RX8_113 t0 rfl dX8_isAhead_48 ?_
      refine g_bipush (pc := 51) (v := 12) (by decide) C dX8_isAhead_51 ?_
      refine g_iload_n (pc := 53) rfl 1 rfl C dX8_isAhead_53 ?_
      refine g_iadd (pc := 54) C dX8_isAhead_54 ?_
      refine g_topi (fun i15 ei15 => ?_)
      have hD := hD i15 ei15
      obtain ⟨hb, hD⟩ := hD
      refine g_iald (pc := 55) C u14 hb dX8_isAhead_55 ?_
      refine g_istore_n (pc := 56) (fun x16 => [(3, .int x16), (0, .ref o), (1, .int a1), (2, .int a2)]) C dX8_isAhead_56 rfl (by decide) rfl (fun x16 ex16 => ?_)
      have hD := hD x16 ex16
      refine g_aload_n (pc := 57) rfl 1 rfl C dX8_isAhead_57 ?_
      have u17 : TA Y (r o 49) 10 512 := wt_a hw t0 (by decide) (by decide) rfl
      refine g_getR (pc := 58) C fl_RX8_113 t0 rfl dX8_isAhead_58 ?_
      refine g_bipush (pc := 61) (v := 12) (by decide) C dX8_isAhead_61 ?_
      refine g_iload_n (pc := 63) rfl 3 rfl C dX8_isAhead_63 ?_
      refine g_iadd (pc := 64) C dX8_isAhead_64 ?_
      refine g_topi (fun i18 ei18 => ?_)
      have hD := hD i18 ei18
      obtain ⟨hb, hD⟩ := hD
      refine g_iald (pc := 65) C u17 hb dX8_isAhead_65 ?_
      refine g_istore (pc := 66) (fun x19 => [(4, .int x19), (3, .int x16), (0, .ref o), (1, .int a1), (2, .int a2)]) C dX8_isAhead_66 (by decide) rfl (fun x19 ex19 => ?_)
      have hD := hD x19 ex19
      refine g_iload_n (pc := 68) rfl 1 rfl C dX8_isAhead_68 ?_
      refine g_if_gt (pc := 69) 77 C dX8_isAhead_69 (by decide) (fun c20 => ?_) (fun c20 => ?_)
      · have hD := hD.1 c20
        refine g_sub [1, 0] rfl ?_
        exact WJ_Mo_isAhead_77 C R  hD
      · have hD := hD.2 c20
        refine g_iload (pc := 72) 0 rfl C dX8_isAhead_72 ?_
        refine g_if_le (pc := 74) 98 C dX8_isAhead_74 (by decide) (fun c24 => ?_) (fun c24 => ?_)
        · have hD := hD.1 c24
          refine g_aload_n (pc := 98) rfl 2 rfl C dX8_isAhead_98 ?_
          have u25 : TA Y (r o 49) 10 512 := wt_a hw t0 (by decide) (by decide) rfl
          refine g_getR (pc := 99) C fl_RX8_113 t0 rfl dX8_isAhead_99 ?_
          refine g_iload_n (pc := 102) rfl 3 rfl C dX8_isAhead_102 ?_
          obtain ⟨hb, hD⟩ := hD
          refine g_iald (pc := 103) C u25 hb dX8_isAhead_103 ?_
          refine g_aload_n (pc := 104) rfl 2 rfl C dX8_isAhead_104 ?_
          have u26 : TA Y (r o 49) 10 512 := wt_a hw t0 (by decide) (by decide) rfl
          refine g_getR (pc := 105) C fl_RX8_113 t0 rfl dX8_isAhead_105 ?_
          refine g_iload_n (pc := 108) rfl 4 rfl C dX8_isAhead_108 ?_
          obtain ⟨hb, hD⟩ := hD
          refine g_iald (pc := 109) C u26 hb dX8_isAhead_109 ?_
          refine g_icmp_gt (pc := 110) 133 C dX8_isAhead_110 (by decide) (fun c27 => ?_) (fun c27 => ?_)
          · have hD := hD.1 c27
            refine g_iconst (pc := 133) (v := 1) (by decide) C dX8_isAhead_133 ?_
            refine g_goto (pc := 134) 138 C dX8_isAhead_134 (by decide) ?_
            exact g_zret (pc := 138) C R nz_1 dX8_isAhead_138 hD
          · have hD := hD.2 c27
            refine g_aload_n (pc := 113) rfl 2 rfl C dX8_isAhead_113 ?_
            have u28 : TA Y (r o 49) 10 512 := wt_a hw t0 (by decide) (by decide) rfl
            refine g_getR (pc := 114) C fl_RX8_113 t0 rfl dX8_isAhead_114 ?_
            refine g_iload_n (pc := 117) rfl 3 rfl C dX8_isAhead_117 ?_
            obtain ⟨hb, hD⟩ := hD
            refine g_iald (pc := 118) C u28 hb dX8_isAhead_118 ?_
            refine g_aload_n (pc := 119) rfl 2 rfl C dX8_isAhead_119 ?_
            have u29 : TA Y (r o 49) 10 512 := wt_a hw t0 (by decide) (by decide) rfl
            refine g_getR (pc := 120) C fl_RX8_113 t0 rfl dX8_isAhead_120 ?_
            refine g_iload_n (pc := 123) rfl 4 rfl C dX8_isAhead_123 ?_
            obtain ⟨hb, hD⟩ := hD
            refine g_iald (pc := 124) C u29 hb dX8_isAhead_124 ?_
            refine g_icmp_ne (pc := 125) 137 C dX8_isAhead_125 (by decide) (fun c30 => ?_) (fun c30 => ?_)
            · have hD := hD.1 c30
              refine g_iconst (pc := 137) (v := 0) (by decide) C dX8_isAhead_137 ?_
              exact g_zret (pc := 138) C R nz_0 dX8_isAhead_138 hD
            · have hD := hD.2 c30
              refine g_iload_n (pc := 128) rfl 3 rfl C dX8_isAhead_128 ?_
              refine g_iload_n (pc := 129) rfl 4 rfl C dX8_isAhead_129 ?_
              refine g_icmp_ge (pc := 130) 137 C dX8_isAhead_130 (by decide) (fun c31 => ?_) (fun c31 => ?_)
              · have hD := hD.1 c31
                refine g_iconst (pc := 137) (v := 0) (by decide) C dX8_isAhead_137 ?_
                exact g_zret (pc := 138) C R nz_0 dX8_isAhead_138 hD
              · have hD := hD.2 c31
                refine g_iconst (pc := 133) (v := 1) (by decide) C dX8_isAhead_133 ?_
                refine g_goto (pc := 134) 138 C dX8_isAhead_134 (by decide) ?_
                exact g_zret (pc := 138) C R nz_1 dX8_isAhead_138 hD
        · have hD := hD.2 c24
          refine g_sub [1, 0] rfl ?_
          exact WJ_Mo_isAhead_77 C R  hD
    · have hD := hD.2 c13
      refine g_sub [0, 1, 2] rfl ?_
      exact WJ_Mo_isAhead_16 C R t0 hD
def DB_Mo_rankOf_4 (r : TR) (l0 : Nat) (l1 : Int32) (l2 : Int32) (l3 : Int32) (h : TH) (K4 : Int32 → Int32 → TH → Prop) (K40 : Int32 → TH → Prop) (Q : Int32 → TH → Prop) : Prop :=
  ∀ i4 : Int32, i4 = h.1 l0 18 → vp_in i4 2 ∧ (((h.1 (r l0 25) i4.toNatClampNeg) ≤ l3 → K40 l2 h) ∧ (¬ (h.1 (r l0 25) i4.toNatClampNeg) ≤ l3 → ((l3 = l1 → ∀ x7 : Int32, x7 = l3 + 1 → K4 l2 x7 h) ∧ (¬ l3 = l1 → D_Mo_isAhead r l0 l3 l1 h (fun x9 h8 => ((x9 = 0 → ∀ x11 : Int32, x11 = l3 + 1 → K4 l2 x11 h8) ∧ (¬ x9 = 0 → ∀ x12 : Int32, x12 = l2 + 1 → ∀ x13 : Int32, x13 = l3 + 1 → K4 x12 x13 h8)))))))
set_option maxRecDepth 100000 in
set_option maxHeartbeats 4000000 in
theorem WB_Mo_rankOf_4 {Y : CG} {X : CX} {r : TR} {l0 : Nat} {l1 : Int32} {l2 : Int32} {l3 : Int32} {h : TH} {K4 : Int32 → Int32 → TH → Prop} {K40 : Int32 → TH → Prop} {Q : Int32 → TH → Prop} (C : Gd Y X cX8_rankOf 4 RX8 3) (R : Ri Y r X .int Q) (t0 : TO Y l0 8) (hK4 : ∀ (k2 : Int32) (k3 : Int32) (hh : TH), K4 k2 k3 hh → G Y X 4 4 [(0, .ref l0), (1, .int l1), (2, .int k2), (3, .int k3)] [] r hh) (hK40 : ∀ (k2 : Int32) (hh : TH), K40 k2 hh → G Y X 4 40 [(2, .int k2)] [] r hh) (hD : DB_Mo_rankOf_4 r l0 l1 l2 l3 h K4 K40 Q) : G Y X 4 4 [(0, .ref l0), (1, .int l1), (2, .int l2), (3, .int l3)] [] r h := by
  unfold DB_Mo_rankOf_4 at hD
  refine g_wt (fun hw => ?_)
  refine g_iload_n (pc := 4) rfl 3 rfl C dX8_rankOf_4 ?_
  refine g_aload_n (pc := 5) rfl 0 rfl C dX8_rankOf_5 ?_
  have u3 : TA Y (r l0 25) 10 2 := wt_a hw t0 (by decide) (by decide) rfl
  refine g_getR (pc := 6) C fl_RX8_52 t0 rfl dX8_rankOf_6 ?_
  refine g_aload_n (pc := 9) rfl 0 rfl C dX8_rankOf_9 ?_
  refine g_getI (pc := 10) C fl_RX8_230 t0 rfl dX8_rankOf_10 ?_
  refine g_topi (fun i4 ei4 => ?_)
  have hD := hD i4 ei4
  obtain ⟨hb, hD⟩ := hD
  refine g_iald (pc := 13) C u3 hb dX8_rankOf_13 ?_
  refine g_icmp_ge (pc := 14) 40 C dX8_rankOf_14 (by decide) (fun c5 => ?_) (fun c5 => ?_)
  · have hD := hD.1 c5
    refine g_sub [2] rfl ?_
    exact hK40 l2 h hD
  · have hD := hD.2 c5
    refine g_iload_n (pc := 17) rfl 3 rfl C dX8_rankOf_17 ?_
    refine g_iload_n (pc := 18) rfl 1 rfl C dX8_rankOf_18 ?_
    refine g_icmp_eq (pc := 19) 34 C dX8_rankOf_19 (by decide) (fun c6 => ?_) (fun c6 => ?_)
    · have hD := hD.1 c6
      refine g_iinc (pc := 34) (q := 3) (c := 1) (fun x7 => [(3, .int x7), (0, .ref l0), (1, .int l1), (2, .int l2)]) C dX8_rankOf_34 rfl (by decide) (by decide) rfl (fun x7 ex7 => ?_)
      have hD := hD x7 ex7
      refine g_goto (pc := 37) 4 C dX8_rankOf_37 (by decide) ?_
      refine g_sub [1, 2, 3, 0] rfl ?_
      exact hK4 l2 x7 h hD
    · have hD := hD.2 c6
      refine g_aload_n (pc := 22) rfl 0 rfl C dX8_rankOf_22 ?_
      refine g_iload_n (pc := 23) rfl 3 rfl C dX8_rankOf_23 ?_
      refine g_iload_n (pc := 24) rfl 1 rfl C dX8_rankOf_24 ?_
      refine g_callVi (pc := 25) (As := [.int l3, .int l1]) C mv_RX8_388 (M_Mo_isAhead t0 hD) t0 (by decide) rfl rfl (Nat.le_of_ble_eq_true rfl) dX8_rankOf_25 (fun x9 h8 hD => ?_)
      refine g_if_eq (pc := 28) 34 C dX8_rankOf_28 (by decide) (fun c10 => ?_) (fun c10 => ?_)
      · have hD := hD.1 c10
        refine g_iinc (pc := 34) (q := 3) (c := 1) (fun x11 => [(3, .int x11), (0, .ref l0), (1, .int l1), (2, .int l2)]) C dX8_rankOf_34 rfl (by decide) (by decide) rfl (fun x11 ex11 => ?_)
        have hD := hD x11 ex11
        refine g_goto (pc := 37) 4 C dX8_rankOf_37 (by decide) ?_
        refine g_sub [1, 2, 3, 0] rfl ?_
        exact hK4 l2 x11 h8 hD
      · have hD := hD.2 c10
        refine g_iinc (pc := 31) (q := 2) (c := 1) (fun x12 => [(2, .int x12), (0, .ref l0), (1, .int l1), (3, .int l3)]) C dX8_rankOf_31 rfl (by decide) (by decide) rfl (fun x12 ex12 => ?_)
        have hD := hD x12 ex12
        refine g_iinc (pc := 34) (q := 3) (c := 1) (fun x13 => [(3, .int x13), (2, .int x12), (0, .ref l0), (1, .int l1)]) C dX8_rankOf_34 rfl (by decide) (by decide) rfl (fun x13 ex13 => ?_)
        have hD := hD x13 ex13
        refine g_goto (pc := 37) 4 C dX8_rankOf_37 (by decide) ?_
        refine g_sub [2, 3, 1, 0] rfl ?_
        exact hK4 x12 x13 h8 hD
def D_Mo_rankOf (r : TR) (o : Nat) (a1 : Int32) (h : TH) (Q : Int32 → TH → Prop) : Prop :=
  ∃ n, lp (fun (K : Int32 × Int32 × TH → Prop) (s : Int32 × Int32 × TH) => DB_Mo_rankOf_4 r o a1 s.1 s.2.1 s.2.2 (fun y14 y15 h16 => K (y14, y15, h16)) (fun x17 h18 => Q x17 h18) Q) n (0, 0, h)
set_option maxRecDepth 100000 in
set_option maxHeartbeats 4000000 in
theorem M_Mo_rankOf {Y : CG} {r : TR} {l : Launch} {o : Nat} {a1 : Int32} {h : TH} {Q : Int32 → TH → Prop} (t0 : TO Y o 8) (hD : D_Mo_rankOf r o a1 h Q) : Mi Y r l yX8_rankOf cX8_rankOf 4 .int 3 [.ref o, .int a1] h Q := by
  unfold D_Mo_rankOf at hD
  refine Mi.of RX8 rfl (by decide) (by simp [lg_sl, Value.category]) [(0, .ref o), (1, .int a1)] rfl (fun X hXl C R => ?_)
  subst hXl
  refine g_wt (fun hw => ?_)
  refine g_iconst (pc := 0) (v := 0) (by decide) C dX8_rankOf_0 ?_
  refine g_istore_n (pc := 1) (fun _ => [(2, .int 0), (0, .ref o), (1, .int a1)]) C dX8_rankOf_1 rfl (by decide) rfl (fun _ _ => ?_)
  refine g_iconst (pc := 2) (v := 0) (by decide) C dX8_rankOf_2 ?_
  refine g_istore_n (pc := 3) (fun _ => [(3, .int 0), (2, .int 0), (0, .ref o), (1, .int a1)]) C dX8_rankOf_3 rfl (by decide) rfl (fun _ _ => ?_)
  obtain ⟨n, hD⟩ := hD
  refine g_sub [2, 3, 1, 0] rfl ?_
  refine lp_run (fun s : Int32 × Int32 × TH => G Y X 4 4 [(0, .ref o), (1, .int a1), (2, .int s.1), (3, .int s.2.1)] [] r s.2.2) (fun K s hB hK => ?_) n (0, 0, h) hD
  refine WB_Mo_rankOf_4 C R t0 (fun y14 y15 h16 hk => hK _ hk) (fun x17 h18 hD => ?_) hB
  · refine g_iload_n (pc := 40) rfl 0 rfl C dX8_rankOf_40 ?_
    exact g_iret (pc := 41) C R dX8_rankOf_41 hD
