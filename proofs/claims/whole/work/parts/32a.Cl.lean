def D_Law_addCode (r : TR) (o : Nat) (a1 : Int32) (h : TH) (Q : TH → Prop) : Prop :=
  ((400 ≤ (h.1 o 4) → Q h) ∧ (¬ 400 ≤ (h.1 o 4) → vp_in (h.1 o 4) 400 ∧ ∀ h3, h3 = pI h (r o 1) ((h.1 o 4).toNatClampNeg) a1 → ∀ h4, h4 = pI h3 o 4 ((h3.1 o 4) + 1) → Q h4))
set_option maxRecDepth 100000 in
set_option maxHeartbeats 4000000 in
theorem M_Law_addCode {Y : CG} {r : TR} {l : Launch} {o : Nat} {a1 : Int32} {h : TH} {Q : TH → Prop} (t0 : TO Y o 1) (hD : D_Law_addCode r o a1 h Q) : Mv Y r l yX1_addCode cX1_addCode 2 1 [.ref o, .int a1] h Q := by
  unfold D_Law_addCode at hD
  refine Mv.of RX1 rfl (by decide) (by simp [lg_sl, Value.category]) [(0, .ref o), (1, .int a1)] rfl (fun X hXl C R => ?_)
  subst hXl
  refine g_wt (fun hw => ?_)
  refine g_aload_n (pc := 0) rfl 0 rfl C dX1_addCode_0 ?_
  refine g_getI (pc := 1) C fl_RX1_24 t0 rfl dX1_addCode_1 ?_
  refine g_sipush (pc := 4) (v := 400) (by decide) C dX1_addCode_4 ?_
  refine g_icmp_ge (pc := 7) 30 C dX1_addCode_7 (by decide) (fun c1 => ?_) (fun c1 => ?_)
  · have hD := hD.1 c1
    exact g_vret (pc := 30) C R dX1_addCode_30 hD
  · have hD := hD.2 c1
    refine g_aload_n (pc := 10) rfl 0 rfl C dX1_addCode_10 ?_
    have u2 : TA Y (r o 1) 10 400 := wt_a hw t0 (by decide) (by decide) rfl
    refine g_getR (pc := 11) C fl_RX1_15 t0 rfl dX1_addCode_11 ?_
    refine g_aload_n (pc := 14) rfl 0 rfl C dX1_addCode_14 ?_
    refine g_getI (pc := 15) C fl_RX1_24 t0 rfl dX1_addCode_15 ?_
    refine g_iload_n (pc := 18) rfl 1 rfl C dX1_addCode_18 ?_
    obtain ⟨hb, hD⟩ := hD
    refine g_iast (pc := 19) C u2 hb dX1_addCode_19 (fun h3 eh3 => ?_)
    have hD := hD h3 eh3
    refine g_aload_n (pc := 20) rfl 0 rfl C dX1_addCode_20 ?_
    refine g_dup (pc := 21) rfl C dX1_addCode_21 ?_
    refine g_getI (pc := 22) C fl_RX1_24 t0 rfl dX1_addCode_22 ?_
    refine g_iconst (pc := 25) (v := 1) (by decide) C dX1_addCode_25 ?_
    refine g_iadd (pc := 26) C dX1_addCode_26 ?_
    refine g_putI (pc := 27) C fl_RX1_24 t0 rfl rfl rfl dX1_addCode_27 (fun h4 eh4 => ?_)
    have hD := hD h4 eh4
    exact g_vret (pc := 30) C R dX1_addCode_30 hD
def D_Rd_fail (r : TR) (o : Nat) (a1 : Int32) (h : TH) (Q : TH → Prop) : Prop :=
  ((¬ (h.1 o 4) = 0 → Q h) ∧ ((h.1 o 4) = 0 → ∀ h2, h2 = pI h o 4 a1 → ∀ i4 : Int32, i4 = h2.1 o 10 → vp_in i4 401 ∧ ∀ h5, h5 = pI h2 o 3 (h2.1 (r o 8) i4.toNatClampNeg) → Q h5))
set_option maxRecDepth 100000 in
set_option maxHeartbeats 4000000 in
theorem M_Rd_fail {Y : CG} {r : TR} {l : Launch} {o : Nat} {a1 : Int32} {h : TH} {Q : TH → Prop} (t0 : TO Y o 4) (hD : D_Rd_fail r o a1 h Q) : Mv Y r l yX4_fail cX4_fail 2 1 [.ref o, .int a1] h Q := by
  unfold D_Rd_fail at hD
  refine Mv.of RX4 rfl (by decide) (by simp [lg_sl, Value.category]) [(0, .ref o), (1, .int a1)] rfl (fun X hXl C R => ?_)
  subst hXl
  refine g_wt (fun hw => ?_)
  refine g_aload_n (pc := 0) rfl 0 rfl C dX4_fail_0 ?_
  refine g_getI (pc := 1) C fl_RX4_29 t0 rfl dX4_fail_1 ?_
  refine g_if_ne (pc := 4) 25 C dX4_fail_4 (by decide) (fun c1 => ?_) (fun c1 => ?_)
  · have hD := hD.1 c1
    exact g_vret (pc := 25) C R dX4_fail_25 hD
  · have hD := hD.2 c1
    refine g_aload_n (pc := 7) rfl 0 rfl C dX4_fail_7 ?_
    refine g_iload_n (pc := 8) rfl 1 rfl C dX4_fail_8 ?_
    refine g_putI (pc := 9) C fl_RX4_29 t0 rfl rfl rfl dX4_fail_9 (fun h2 eh2 => ?_)
    have hD := hD h2 eh2
    refine g_aload_n (pc := 12) rfl 0 rfl C dX4_fail_12 ?_
    refine g_aload_n (pc := 13) rfl 0 rfl C dX4_fail_13 ?_
    have u3 : TA Y (r o 8) 10 401 := wt_a hw t0 (by decide) (by decide) rfl
    refine g_getR (pc := 14) C fl_RX4_42 t0 rfl dX4_fail_14 ?_
    refine g_aload_n (pc := 17) rfl 0 rfl C dX4_fail_17 ?_
    refine g_getI (pc := 18) C fl_RX4_48 t0 rfl dX4_fail_18 ?_
    refine g_topi (fun i4 ei4 => ?_)
    have hD := hD i4 ei4
    obtain ⟨hb, hD⟩ := hD
    refine g_iald (pc := 21) C u3 hb dX4_fail_21 ?_
    refine g_putI (pc := 22) C fl_RX4_26 t0 rfl rfl rfl dX4_fail_22 (fun h5 eh5 => ?_)
    have hD := hD h5 eh5
    exact g_vret (pc := 25) C R dX4_fail_25 hD
def DJ_Rd_need_68 (r : TR) (l0 : Nat) (s0 : Int32) (s1 : Nat) (h : TH) (Q : Int32 → TH → Prop) : Prop :=
  ∀ h6, h6 = pI h s1 4 s0 → ∀ i8 : Int32, i8 = h6.1 l0 10 → vp_in i8 401 ∧ ∀ h9, h9 = pI h6 l0 3 (h6.1 (r l0 8) i8.toNatClampNeg) → Q 0 h9
set_option maxRecDepth 100000 in
set_option maxHeartbeats 4000000 in
theorem WJ_Rd_need_68 {Y : CG} {X : CX} {r : TR} {l0 : Nat} {s0 : Int32} {s1 : Nat} {h : TH} {Q : Int32 → TH → Prop} (C : Gd Y X cX4_need 2 RX4 1) (R : Ri Y r X .boolean Q) (t0 : TO Y l0 4) (ts1 : TO Y s1 4) (hD : DJ_Rd_need_68 r l0 s0 s1 h  Q) : G Y X 2 68 [(0, .ref l0)] [.int s0, .ref s1] r h := by
  unfold DJ_Rd_need_68 at hD
  refine g_wt (fun hw => ?_)
  refine g_putI (pc := 68) C fl_RX4_29 ts1 rfl rfl rfl dX4_need_68 (fun h6 eh6 => ?_)
  have hD := hD h6 eh6
  refine g_aload_n (pc := 71) rfl 0 rfl C dX4_need_71 ?_
  refine g_aload_n (pc := 72) rfl 0 rfl C dX4_need_72 ?_
  have u7 : TA Y (r l0 8) 10 401 := wt_a hw t0 (by decide) (by decide) rfl
  refine g_getR (pc := 73) C fl_RX4_42 t0 rfl dX4_need_73 ?_
  refine g_aload_n (pc := 76) rfl 0 rfl C dX4_need_76 ?_
  refine g_getI (pc := 77) C fl_RX4_48 t0 rfl dX4_need_77 ?_
  refine g_topi (fun i8 ei8 => ?_)
  have hD := hD i8 ei8
  obtain ⟨hb, hD⟩ := hD
  refine g_iald (pc := 80) C u7 hb dX4_need_80 ?_
  refine g_putI (pc := 81) C fl_RX4_26 t0 rfl rfl rfl dX4_need_81 (fun h9 eh9 => ?_)
  have hD := hD h9 eh9
  refine g_iconst (pc := 84) (v := 0) (by decide) C dX4_need_84 ?_
  exact g_zret (pc := 85) C R nz_0 dX4_need_85 hD
def DJ_Rd_need_42 (r : TR) (l0 : Nat) (l1 : Int32) (h : TH) (Q : Int32 → TH → Prop) : Prop :=
  ((¬ (h.1 l0 4) = 0 → Q 0 h) ∧ ((h.1 l0 4) = 0 → ∀ i4 : Int32, i4 = h.1 l0 10 → vp_in i4 401 ∧ ((¬ (h.1 (r l0 7) i4.toNatClampNeg) = l1 → DJ_Rd_need_68 r l0 1 l0 h Q) ∧ ((h.1 (r l0 7) i4.toNatClampNeg) = l1 → DJ_Rd_need_68 r l0 2 l0 h Q))))
set_option maxRecDepth 100000 in
set_option maxHeartbeats 4000000 in
theorem WJ_Rd_need_42 {Y : CG} {X : CX} {r : TR} {l0 : Nat} {l1 : Int32} {h : TH} {Q : Int32 → TH → Prop} (C : Gd Y X cX4_need 2 RX4 1) (R : Ri Y r X .boolean Q) (t0 : TO Y l0 4) (hD : DJ_Rd_need_42 r l0 l1 h  Q) : G Y X 2 42 [(0, .ref l0), (1, .int l1)] [] r h := by
  unfold DJ_Rd_need_42 at hD
  refine g_wt (fun hw => ?_)
  refine g_aload_n (pc := 42) rfl 0 rfl C dX4_need_42 ?_
  refine g_getI (pc := 43) C fl_RX4_29 t0 rfl dX4_need_43 ?_
  refine g_if_ne (pc := 46) 84 C dX4_need_46 (by decide) (fun c2 => ?_) (fun c2 => ?_)
  · have hD := hD.1 c2
    refine g_iconst (pc := 84) (v := 0) (by decide) C dX4_need_84 ?_
    exact g_zret (pc := 85) C R nz_0 dX4_need_85 hD
  · have hD := hD.2 c2
    refine g_aload_n (pc := 49) rfl 0 rfl C dX4_need_49 ?_
    refine g_aload_n (pc := 50) rfl 0 rfl C dX4_need_50 ?_
    have u3 : TA Y (r l0 7) 10 401 := wt_a hw t0 (by decide) (by decide) rfl
    refine g_getR (pc := 51) C fl_RX4_38 t0 rfl dX4_need_51 ?_
    refine g_aload_n (pc := 54) rfl 0 rfl C dX4_need_54 ?_
    refine g_getI (pc := 55) C fl_RX4_48 t0 rfl dX4_need_55 ?_
    refine g_topi (fun i4 ei4 => ?_)
    have hD := hD i4 ei4
    obtain ⟨hb, hD⟩ := hD
    refine g_iald (pc := 58) C u3 hb dX4_need_58 ?_
    refine g_iload_n (pc := 59) rfl 1 rfl C dX4_need_59 ?_
    refine g_icmp_ne (pc := 60) 67 C dX4_need_60 (by decide) (fun c5 => ?_) (fun c5 => ?_)
    · have hD := hD.1 c5
      refine g_iconst (pc := 67) (v := 1) (by decide) C dX4_need_67 ?_
      refine g_sub [0] rfl ?_
      exact WJ_Rd_need_68 C R t0 t0 hD
    · have hD := hD.2 c5
      refine g_iconst (pc := 63) (v := 2) (by decide) C dX4_need_63 ?_
      refine g_goto (pc := 64) 68 C dX4_need_64 (by decide) ?_
      refine g_sub [0] rfl ?_
      exact WJ_Rd_need_68 C R t0 t0 hD
def D_Rd_need (r : TR) (o : Nat) (a1 : Int32) (h : TH) (Q : Int32 → TH → Prop) : Prop :=
  ((¬ (h.1 o 4) = 0 → DJ_Rd_need_42 r o a1 h Q) ∧ ((h.1 o 4) = 0 → ∀ i11 : Int32, i11 = h.1 o 10 → vp_in i11 401 ∧ ((¬ (h.1 (r o 7) i11.toNatClampNeg) = a1 → DJ_Rd_need_42 r o a1 h Q) ∧ ((h.1 (r o 7) i11.toNatClampNeg) = a1 → ((400 ≤ (h.1 o 10) → DJ_Rd_need_42 r o a1 h Q) ∧ (¬ 400 ≤ (h.1 o 10) → ∀ h14, h14 = pI h o 10 ((h.1 o 10) + 1) → Q 1 h14))))))
set_option maxRecDepth 100000 in
set_option maxHeartbeats 4000000 in
theorem M_Rd_need {Y : CG} {r : TR} {l : Launch} {o : Nat} {a1 : Int32} {h : TH} {Q : Int32 → TH → Prop} (t0 : TO Y o 4) (hD : D_Rd_need r o a1 h Q) : Mi Y r l yX4_need cX4_need 2 .boolean 1 [.ref o, .int a1] h Q := by
  unfold D_Rd_need at hD
  refine Mi.of RX4 rfl (by decide) (by simp [lg_sl, Value.category]) [(0, .ref o), (1, .int a1)] rfl (fun X hXl C R => ?_)
  subst hXl
  refine g_wt (fun hw => ?_)
  refine g_aload_n (pc := 0) rfl 0 rfl C dX4_need_0 ?_
  refine g_getI (pc := 1) C fl_RX4_29 t0 rfl dX4_need_1 ?_
  refine g_if_ne (pc := 4) 42 C dX4_need_4 (by decide) (fun c1 => ?_) (fun c1 => ?_)
  · have hD := hD.1 c1
    refine g_sub [0, 1] rfl ?_
    exact WJ_Rd_need_42 C R t0 hD
  · have hD := hD.2 c1
    refine g_aload_n (pc := 7) rfl 0 rfl C dX4_need_7 ?_
    have u10 : TA Y (r o 7) 10 401 := wt_a hw t0 (by decide) (by decide) rfl
    refine g_getR (pc := 8) C fl_RX4_38 t0 rfl dX4_need_8 ?_
    refine g_aload_n (pc := 11) rfl 0 rfl C dX4_need_11 ?_
    refine g_getI (pc := 12) C fl_RX4_48 t0 rfl dX4_need_12 ?_
    refine g_topi (fun i11 ei11 => ?_)
    have hD := hD i11 ei11
    obtain ⟨hb, hD⟩ := hD
    refine g_iald (pc := 15) C u10 hb dX4_need_15 ?_
    refine g_iload_n (pc := 16) rfl 1 rfl C dX4_need_16 ?_
    refine g_icmp_ne (pc := 17) 42 C dX4_need_17 (by decide) (fun c12 => ?_) (fun c12 => ?_)
    · have hD := hD.1 c12
      refine g_sub [0, 1] rfl ?_
      exact WJ_Rd_need_42 C R t0 hD
    · have hD := hD.2 c12
      refine g_aload_n (pc := 20) rfl 0 rfl C dX4_need_20 ?_
      refine g_getI (pc := 21) C fl_RX4_48 t0 rfl dX4_need_21 ?_
      refine g_sipush (pc := 24) (v := 400) (by decide) C dX4_need_24 ?_
      refine g_icmp_ge (pc := 27) 42 C dX4_need_27 (by decide) (fun c13 => ?_) (fun c13 => ?_)
      · have hD := hD.1 c13
        refine g_sub [0, 1] rfl ?_
        exact WJ_Rd_need_42 C R t0 hD
      · have hD := hD.2 c13
        refine g_aload_n (pc := 30) rfl 0 rfl C dX4_need_30 ?_
        refine g_dup (pc := 31) rfl C dX4_need_31 ?_
        refine g_getI (pc := 32) C fl_RX4_48 t0 rfl dX4_need_32 ?_
        refine g_iconst (pc := 35) (v := 1) (by decide) C dX4_need_35 ?_
        refine g_iadd (pc := 36) C dX4_need_36 ?_
        refine g_putI (pc := 37) C fl_RX4_48 t0 rfl rfl rfl dX4_need_37 (fun h14 eh14 => ?_)
        have hD := hD h14 eh14
        refine g_iconst (pc := 40) (v := 1) (by decide) C dX4_need_40 ?_
        exact g_zret (pc := 41) C R nz_1 dX4_need_41 hD
def DJ_Rd_unit_111 (r : TR) (S : Nat → Nat → Int32 → TH → (TH → Prop) → Prop) (l0 : Nat) (l1 : Nat) (l3 : Int32) (h : TH) (Q : TH → Prop) : Prop :=
  D_Rd_need r l0 3 h (fun x9 h8 => ((x9 = 0 → Q h8) ∧ (¬ x9 = 0 → vp_in l3 401 ∧ D_Law_addCode r l1 (h8.1 (r l0 9) l3.toNatClampNeg) h8 (fun h12 => Q h12))))
set_option maxRecDepth 100000 in
set_option maxHeartbeats 4000000 in
theorem WJ_Rd_unit_111 {Y : CG} {X : CX} {r : TR} {S : Nat → Nat → Int32 → TH → (TH → Prop) → Prop} {l0 : Nat} {l1 : Nat} {l3 : Int32} {h : TH} {Q : TH → Prop} {dS : Nat} (C : Gd Y X cX4_unit 5 RX4 (dS + 2)) (R : Rv Y r X Q) (hS : ∀ (o a1 : Nat) (a2 : Int32) (h : TH) (Q : TH → Prop), TO Y o 4 → TO Y a1 1 → S o a1 a2 h Q → Mv Y r X.2.1 yX4_sum cX4_sum 5 dS [.ref o, .ref a1, .int a2] h Q) (t0 : TO Y l0 4) (t1 : TO Y l1 1) (hD : DJ_Rd_unit_111 r S l0 l1 l3 h  Q) : G Y X 5 111 [(0, .ref l0), (1, .ref l1), (3, .int l3)] [] r h := by
  unfold DJ_Rd_unit_111 at hD
  refine g_wt (fun hw => ?_)
  refine g_aload_n (pc := 111) rfl 0 rfl C dX4_unit_111 ?_
  refine g_iconst (pc := 112) (v := 3) (by decide) C dX4_unit_112 ?_
  refine g_callVi (pc := 113) (As := [.int 3]) C mv_RX4_132 (M_Rd_need t0 hD) t0 (by omega) rfl rfl (Nat.le_of_ble_eq_true rfl) dX4_unit_113 (fun x9 h8 hD => ?_)
  refine g_if_eq (pc := 116) 129 C dX4_unit_116 (by decide) (fun c10 => ?_) (fun c10 => ?_)
  · have hD := hD.1 c10
    exact g_vret (pc := 129) C R dX4_unit_129 hD
  · have hD := hD.2 c10
    refine g_aload_n (pc := 119) rfl 1 rfl C dX4_unit_119 ?_
    refine g_aload_n (pc := 120) rfl 0 rfl C dX4_unit_120 ?_
    have u11 : TA Y (r l0 9) 10 401 := wt_a hw t0 (by decide) (by decide) rfl
    refine g_getR (pc := 121) C fl_RX4_45 t0 rfl dX4_unit_121 ?_
    refine g_iload_n (pc := 124) rfl 2 rfl C dX4_unit_124 ?_
    obtain ⟨hb, hD⟩ := hD
    refine g_iald (pc := 125) C u11 hb dX4_unit_125 ?_
    refine g_callVv (pc := 126) (As := [.int (h8.1 (r l0 9) l3.toNatClampNeg)]) C mv_RX4_204 (M_Law_addCode t1 hD) t1 (by omega) rfl rfl (Nat.le_of_ble_eq_true rfl) dX4_unit_126 (fun h12 hD => ?_)
    exact g_vret (pc := 129) C R dX4_unit_129 hD
def DJ_Rd_unit_42 (r : TR) (S : Nat → Nat → Int32 → TH → (TH → Prop) → Prop) (l0 : Nat) (l1 : Nat) (l2 : Int32) (l3 : Int32) (l4 : Int32) (h : TH) (Q : TH → Prop) : Prop :=
  ((¬ l4 = 30 → ((l4 < 14 → DJ_Rd_unit_111 r S l0 l1 l3 h Q) ∧ (¬ l4 < 14 → ((23 ≤ l4 → DJ_Rd_unit_111 r S l0 l1 l3 h Q) ∧ (¬ 23 ≤ l4 → D_Rd_need r l0 l4 h (fun x16 h15 => D_Law_addCode r l1 ((10000 + l4) - 14) h15 (fun h17 => Q h17))))))) ∧ (l4 = 30 → D_Rd_need r l0 30 h (fun x20 h19 => S l0 l1 (l2 + 1) h19 (fun h21 => D_Rd_need r l0 31 h21 (fun x24 h23 => Q h23)))))
set_option maxRecDepth 100000 in
set_option maxHeartbeats 4000000 in
theorem WJ_Rd_unit_42 {Y : CG} {X : CX} {r : TR} {S : Nat → Nat → Int32 → TH → (TH → Prop) → Prop} {l0 : Nat} {l1 : Nat} {l2 : Int32} {l3 : Int32} {l4 : Int32} {h : TH} {Q : TH → Prop} {dS : Nat} (C : Gd Y X cX4_unit 5 RX4 (dS + 2)) (R : Rv Y r X Q) (hS : ∀ (o a1 : Nat) (a2 : Int32) (h : TH) (Q : TH → Prop), TO Y o 4 → TO Y a1 1 → S o a1 a2 h Q → Mv Y r X.2.1 yX4_sum cX4_sum 5 dS [.ref o, .ref a1, .int a2] h Q) (t0 : TO Y l0 4) (t1 : TO Y l1 1) (hD : DJ_Rd_unit_42 r S l0 l1 l2 l3 l4 h  Q) : G Y X 5 42 [(0, .ref l0), (1, .ref l1), (2, .int l2), (3, .int l3), (4, .int l4)] [] r h := by
  unfold DJ_Rd_unit_42 at hD
  refine g_wt (fun hw => ?_)
  refine g_iload (pc := 42) 4 rfl C dX4_unit_42 ?_
  refine g_bipush (pc := 44) (v := 30) (by decide) C dX4_unit_44 ?_
  refine g_icmp_ne (pc := 46) 74 C dX4_unit_46 (by decide) (fun c6 => ?_) (fun c6 => ?_)
  · have hD := hD.1 c6
    refine g_iload (pc := 74) 4 rfl C dX4_unit_74 ?_
    refine g_bipush (pc := 76) (v := 14) (by decide) C dX4_unit_76 ?_
    refine g_icmp_lt (pc := 78) 111 C dX4_unit_78 (by decide) (fun c7 => ?_) (fun c7 => ?_)
    · have hD := hD.1 c7
      refine g_sub [0, 1, 3] rfl ?_
      exact WJ_Rd_unit_111 C R hS t0 t1 hD
    · have hD := hD.2 c7
      refine g_iload (pc := 81) 4 rfl C dX4_unit_81 ?_
      refine g_bipush (pc := 83) (v := 23) (by decide) C dX4_unit_83 ?_
      refine g_icmp_ge (pc := 85) 111 C dX4_unit_85 (by decide) (fun c14 => ?_) (fun c14 => ?_)
      · have hD := hD.1 c14
        refine g_sub [0, 1, 3] rfl ?_
        exact WJ_Rd_unit_111 C R hS t0 t1 hD
      · have hD := hD.2 c14
        refine g_aload_n (pc := 88) rfl 0 rfl C dX4_unit_88 ?_
        refine g_iload (pc := 89) 4 rfl C dX4_unit_89 ?_
        refine g_callVi (pc := 91) (As := [.int l4]) C mv_RX4_132 (M_Rd_need t0 hD) t0 (by omega) rfl rfl (Nat.le_of_ble_eq_true rfl) dX4_unit_91 (fun x16 h15 hD => ?_)
        refine g_pop (pc := 94) rfl C dX4_unit_94 ?_
        refine g_aload_n (pc := 95) rfl 1 rfl C dX4_unit_95 ?_
        refine g_sipush (pc := 96) (v := 10000) (by decide) C dX4_unit_96 ?_
        refine g_iload (pc := 99) 4 rfl C dX4_unit_99 ?_
        refine g_iadd (pc := 101) C dX4_unit_101 ?_
        refine g_bipush (pc := 102) (v := 14) (by decide) C dX4_unit_102 ?_
        refine g_isub (pc := 104) C dX4_unit_104 ?_
        refine g_callVv (pc := 105) (As := [.int ((10000 + l4) - 14)]) C mv_RX4_204 (M_Law_addCode t1 hD) t1 (by omega) rfl rfl (Nat.le_of_ble_eq_true rfl) dX4_unit_105 (fun h17 hD => ?_)
        refine g_goto (pc := 108) 129 C dX4_unit_108 (by decide) ?_
        exact g_vret (pc := 129) C R dX4_unit_129 hD
  · have hD := hD.2 c6
    refine g_aload_n (pc := 49) rfl 0 rfl C dX4_unit_49 ?_
    refine g_bipush (pc := 50) (v := 30) (by decide) C dX4_unit_50 ?_
    refine g_callVi (pc := 52) (As := [.int 30]) C mv_RX4_132 (M_Rd_need t0 hD) t0 (by omega) rfl rfl (Nat.le_of_ble_eq_true rfl) dX4_unit_52 (fun x20 h19 hD => ?_)
    refine g_pop (pc := 55) rfl C dX4_unit_55 ?_
    refine g_aload_n (pc := 56) rfl 0 rfl C dX4_unit_56 ?_
    refine g_aload_n (pc := 57) rfl 1 rfl C dX4_unit_57 ?_
    refine g_iload_n (pc := 58) rfl 2 rfl C dX4_unit_58 ?_
    refine g_iconst (pc := 59) (v := 1) (by decide) C dX4_unit_59 ?_
    refine g_iadd (pc := 60) C dX4_unit_60 ?_
    refine g_callVv (pc := 61) (As := [.ref l1, .int (l2 + 1)]) C mv_RX4_194 (hS _ _ _ _ _ t0 t1 hD) t0 (by omega) rfl rfl (Nat.le_of_ble_eq_true rfl) dX4_unit_61 (fun h21 hD => ?_)
    refine g_aload_n (pc := 64) rfl 0 rfl C dX4_unit_64 ?_
    refine g_bipush (pc := 65) (v := 31) (by decide) C dX4_unit_65 ?_
    refine g_callVi (pc := 67) (As := [.int 31]) C mv_RX4_132 (M_Rd_need t0 hD) t0 (by omega) rfl rfl (Nat.le_of_ble_eq_true rfl) dX4_unit_67 (fun x24 h23 hD => ?_)
    refine g_pop (pc := 70) rfl C dX4_unit_70 ?_
    refine g_goto (pc := 71) 129 C dX4_unit_71 (by decide) ?_
    exact g_vret (pc := 129) C R dX4_unit_129 hD
def D_Rd_unit (r : TR) (S : Nat → Nat → Int32 → TH → (TH → Prop) → Prop) (o : Nat) (a1 : Nat) (a2 : Int32) (h : TH) (Q : TH → Prop) : Prop :=
  ∀ x1 : Int32, x1 = h.1 o 10 → vp_in x1 401 ∧ ∀ x3 : Int32, x3 = h.1 (r o 7) x1.toNatClampNeg → (((h.1 o 4) = 0 → ((¬ x3 = 30 → DJ_Rd_unit_42 r S o a1 a2 x1 x3 h Q) ∧ (x3 = 30 → ((a2 < 6 → DJ_Rd_unit_42 r S o a1 a2 x1 x3 h Q) ∧ (¬ a2 < 6 → D_Rd_fail r o 2 h (fun h26 => Q h26)))))) ∧ (¬ (h.1 o 4) = 0 → Q h))
set_option maxRecDepth 100000 in
set_option maxHeartbeats 4000000 in
theorem M_Rd_unit {Y : CG} {r : TR} {l : Launch} {o : Nat} {a1 : Nat} {a2 : Int32} {h : TH} {Q : TH → Prop} {S : Nat → Nat → Int32 → TH → (TH → Prop) → Prop} {dS : Nat} (hS : ∀ (o a1 : Nat) (a2 : Int32) (h : TH) (Q : TH → Prop), TO Y o 4 → TO Y a1 1 → S o a1 a2 h Q → Mv Y r l yX4_sum cX4_sum 5 dS [.ref o, .ref a1, .int a2] h Q) (t0 : TO Y o 4) (t1 : TO Y a1 1) (hD : D_Rd_unit r S o a1 a2 h Q) : Mv Y r l yX4_unit cX4_unit 5 (dS + 2) [.ref o, .ref a1, .int a2] h Q := by
  unfold D_Rd_unit at hD
  refine Mv.of RX4 rfl (by decide) (by simp [lg_sl, Value.category]) [(0, .ref o), (1, .ref a1), (2, .int a2)] rfl (fun X hXl C R => ?_)
  subst hXl
  refine g_wt (fun hw => ?_)
  refine g_aload_n (pc := 0) rfl 0 rfl C dX4_unit_0 ?_
  refine g_getI (pc := 1) C fl_RX4_48 t0 rfl dX4_unit_1 ?_
  refine g_istore_n (pc := 4) (fun x1 => [(3, .int x1), (0, .ref o), (1, .ref a1), (2, .int a2)]) C dX4_unit_4 rfl (by decide) rfl (fun x1 ex1 => ?_)
  have hD := hD x1 ex1
  refine g_aload_n (pc := 5) rfl 1 rfl C dX4_unit_5 ?_
  have u2 : TA Y (r o 7) 10 401 := wt_a hw t0 (by decide) (by decide) rfl
  refine g_getR (pc := 6) C fl_RX4_38 t0 rfl dX4_unit_6 ?_
  refine g_iload_n (pc := 9) rfl 0 rfl C dX4_unit_9 ?_
  obtain ⟨hb, hD⟩ := hD
  refine g_iald (pc := 10) C u2 hb dX4_unit_10 ?_
  refine g_istore (pc := 11) (fun x3 => [(4, .int x3), (3, .int x1), (0, .ref o), (1, .ref a1), (2, .int a2)]) C dX4_unit_11 (by decide) rfl (fun x3 ex3 => ?_)
  have hD := hD x3 ex3
  refine g_aload_n (pc := 13) rfl 2 rfl C dX4_unit_13 ?_
  refine g_getI (pc := 14) C fl_RX4_29 t0 rfl dX4_unit_14 ?_
  refine g_if_eq (pc := 17) 21 C dX4_unit_17 (by decide) (fun c4 => ?_) (fun c4 => ?_)
  · have hD := hD.1 c4
    refine g_iload (pc := 21) 0 rfl C dX4_unit_21 ?_
    refine g_bipush (pc := 23) (v := 30) (by decide) C dX4_unit_23 ?_
    refine g_icmp_ne (pc := 25) 42 C dX4_unit_25 (by decide) (fun c5 => ?_) (fun c5 => ?_)
    · have hD := hD.1 c5
      refine g_sub [2, 3, 4, 1, 0] rfl ?_
      exact WJ_Rd_unit_42 C R hS t0 t1 hD
    · have hD := hD.2 c5
      refine g_iload_n (pc := 28) rfl 4 rfl C dX4_unit_28 ?_
      refine g_bipush (pc := 29) (v := 6) (by decide) C dX4_unit_29 ?_
      refine g_icmp_lt (pc := 31) 42 C dX4_unit_31 (by decide) (fun c25 => ?_) (fun c25 => ?_)
      · have hD := hD.1 c25
        refine g_sub [2, 3, 4, 1, 0] rfl ?_
        exact WJ_Rd_unit_42 C R hS t0 t1 hD
      · have hD := hD.2 c25
        refine g_aload_n (pc := 34) rfl 2 rfl C dX4_unit_34 ?_
        refine g_iconst (pc := 35) (v := 2) (by decide) C dX4_unit_35 ?_
        refine g_callVv (pc := 36) (As := [.int 2]) C mv_RX4_144 (M_Rd_fail t0 hD) t0 (by omega) rfl rfl (Nat.le_of_ble_eq_true rfl) dX4_unit_36 (fun h26 hD => ?_)
        refine g_goto (pc := 39) 129 C dX4_unit_39 (by decide) ?_
        exact g_vret (pc := 129) C R dX4_unit_129 hD
  · have hD := hD.2 c4
    exact g_vret (pc := 20) C R dX4_unit_20 hD
def DJ_Rd_product_50 (r : TR) (S : Nat → Nat → Int32 → TH → (TH → Prop) → Prop) (l0 : Nat) (l1 : Nat) (l2 : Int32) (l3 : Int32) (h : TH) (K8 : Int32 → TH → Prop) (K93 : TH → Prop) (Q : TH → Prop) : Prop :=
  ∀ i10 : Int32, i10 = h.1 l0 10 → vp_in i10 401 ∧ ∀ x11 : Int32, x11 = h.1 (r l0 7) i10.toNatClampNeg → D_Rd_need r l0 x11 h (fun x13 h12 => D_Rd_unit r S l0 l1 l2 h12 (fun h14 => D_Law_addCode r l1 ((10100 + x11) - 25) h14 (fun h16 => ∀ x18 : Int32, x18 = l3 + 1 → K8 x18 h16)))
set_option maxRecDepth 100000 in
set_option maxHeartbeats 4000000 in
theorem WJ_Rd_product_50 {Y : CG} {X : CX} {r : TR} {S : Nat → Nat → Int32 → TH → (TH → Prop) → Prop} {l0 : Nat} {l1 : Nat} {l2 : Int32} {l3 : Int32} {h : TH} {K8 : Int32 → TH → Prop} {K93 : TH → Prop} {Q : TH → Prop} {dS : Nat} (C : Gd Y X cX4_product 5 RX4 (dS + 3)) (R : Rv Y r X Q) (hS : ∀ (o a1 : Nat) (a2 : Int32) (h : TH) (Q : TH → Prop), TO Y o 4 → TO Y a1 1 → S o a1 a2 h Q → Mv Y r X.2.1 yX4_sum cX4_sum 5 dS [.ref o, .ref a1, .int a2] h Q) (t0 : TO Y l0 4) (t1 : TO Y l1 1) (hK8 : ∀ (k3 : Int32) (hh : TH), K8 k3 hh → G Y X 5 8 [(0, .ref l0), (1, .ref l1), (2, .int l2), (3, .int k3)] [] r hh) (hK93 : ∀ (hh : TH), K93 hh → G Y X 5 93 [] [] r hh) (hD : DJ_Rd_product_50 r S l0 l1 l2 l3 h K8 K93 Q) : G Y X 5 50 [(0, .ref l0), (1, .ref l1), (2, .int l2), (3, .int l3)] [] r h := by
  unfold DJ_Rd_product_50 at hD
  refine g_wt (fun hw => ?_)
  refine g_aload_n (pc := 50) rfl 0 rfl C dX4_product_50 ?_
  have u9 : TA Y (r l0 7) 10 401 := wt_a hw t0 (by decide) (by decide) rfl
  refine g_getR (pc := 51) C fl_RX4_38 t0 rfl dX4_product_51 ?_
  refine g_aload_n (pc := 54) rfl 0 rfl C dX4_product_54 ?_
  refine g_getI (pc := 55) C fl_RX4_48 t0 rfl dX4_product_55 ?_
  refine g_topi (fun i10 ei10 => ?_)
  have hD := hD i10 ei10
  obtain ⟨hb, hD⟩ := hD
  refine g_iald (pc := 58) C u9 hb dX4_product_58 ?_
  refine g_istore (pc := 59) (fun x11 => [(4, .int x11), (0, .ref l0), (1, .ref l1), (2, .int l2), (3, .int l3)]) C dX4_product_59 (by decide) rfl (fun x11 ex11 => ?_)
  have hD := hD x11 ex11
  refine g_aload_n (pc := 61) rfl 1 rfl C dX4_product_61 ?_
  refine g_iload (pc := 62) 0 rfl C dX4_product_62 ?_
  refine g_callVi (pc := 64) (As := [.int x11]) C mv_RX4_132 (M_Rd_need t0 hD) t0 (by omega) rfl rfl (Nat.le_of_ble_eq_true rfl) dX4_product_64 (fun x13 h12 hD => ?_)
  refine g_pop (pc := 67) rfl C dX4_product_67 ?_
  refine g_aload_n (pc := 68) rfl 1 rfl C dX4_product_68 ?_
  refine g_aload_n (pc := 69) rfl 2 rfl C dX4_product_69 ?_
  refine g_iload_n (pc := 70) rfl 3 rfl C dX4_product_70 ?_
  refine g_callVv (pc := 71) (As := [.ref l1, .int l2]) C mv_RX4_207 (M_Rd_unit hS t0 t1 hD) t0 (by omega) rfl rfl (Nat.le_of_ble_eq_true rfl) dX4_product_71 (fun h14 hD => ?_)
  refine g_aload_n (pc := 74) rfl 2 rfl C dX4_product_74 ?_
  refine g_sipush (pc := 75) (v := 10100) (by decide) C dX4_product_75 ?_
  refine g_iload (pc := 78) 0 rfl C dX4_product_78 ?_
  refine g_iadd (pc := 80) C dX4_product_80 ?_
  refine g_bipush (pc := 81) (v := 25) (by decide) C dX4_product_81 ?_
  refine g_isub (pc := 83) C dX4_product_83 ?_
  refine g_callVv (pc := 84) (As := [.int ((10100 + x11) - 25)]) C mv_RX4_204 (M_Law_addCode t1 hD) t1 (by omega) rfl rfl (Nat.le_of_ble_eq_true rfl) dX4_product_84 (fun h16 hD => ?_)
  refine g_iinc (pc := 87) (q := 4) (c := 1) (fun x18 => [(3, .int x18), (4, .int x11), (0, .ref l0), (1, .ref l1), (2, .int l2)]) C dX4_product_87 rfl (by decide) (by decide) rfl (fun x18 ex18 => ?_)
  have hD := hD x18 ex18
  refine g_goto (pc := 90) 8 C dX4_product_90 (by decide) ?_
  refine g_sub [2, 3, 4, 0] rfl ?_
  exact hK8 x18 h16 hD
def DB_Rd_product_8 (r : TR) (S : Nat → Nat → Int32 → TH → (TH → Prop) → Prop) (l0 : Nat) (l1 : Nat) (l2 : Int32) (l3 : Int32) (h : TH) (K8 : Int32 → TH → Prop) (K93 : TH → Prop) (Q : TH → Prop) : Prop :=
  ((400 ≤ l3 → K93 h) ∧ (¬ 400 ≤ l3 → ((¬ (h.1 l0 4) = 0 → K93 h) ∧ ((h.1 l0 4) = 0 → ∀ i7 : Int32, i7 = h.1 l0 10 → vp_in i7 401 ∧ (((h.1 (r l0 7) i7.toNatClampNeg) = 27 → DJ_Rd_product_50 r S l0 l1 l2 l3 h (K8) (K93) Q) ∧ (¬ (h.1 (r l0 7) i7.toNatClampNeg) = 27 → ∀ i20 : Int32, i20 = h.1 l0 10 → vp_in i20 401 ∧ ((¬ (h.1 (r l0 7) i20.toNatClampNeg) = 28 → K93 h) ∧ ((h.1 (r l0 7) i20.toNatClampNeg) = 28 → DJ_Rd_product_50 r S l0 l1 l2 l3 h (K8) (K93) Q))))))))
set_option maxRecDepth 100000 in
set_option maxHeartbeats 4000000 in
theorem WB_Rd_product_8 {Y : CG} {X : CX} {r : TR} {S : Nat → Nat → Int32 → TH → (TH → Prop) → Prop} {l0 : Nat} {l1 : Nat} {l2 : Int32} {l3 : Int32} {h : TH} {K8 : Int32 → TH → Prop} {K93 : TH → Prop} {Q : TH → Prop} {dS : Nat} (C : Gd Y X cX4_product 5 RX4 (dS + 3)) (R : Rv Y r X Q) (hS : ∀ (o a1 : Nat) (a2 : Int32) (h : TH) (Q : TH → Prop), TO Y o 4 → TO Y a1 1 → S o a1 a2 h Q → Mv Y r X.2.1 yX4_sum cX4_sum 5 dS [.ref o, .ref a1, .int a2] h Q) (t0 : TO Y l0 4) (t1 : TO Y l1 1) (hK8 : ∀ (k3 : Int32) (hh : TH), K8 k3 hh → G Y X 5 8 [(0, .ref l0), (1, .ref l1), (2, .int l2), (3, .int k3)] [] r hh) (hK93 : ∀ (hh : TH), K93 hh → G Y X 5 93 [] [] r hh) (hD : DB_Rd_product_8 r S l0 l1 l2 l3 h K8 K93 Q) : G Y X 5 8 [(0, .ref l0), (1, .ref l1), (2, .int l2), (3, .int l3)] [] r h := by
  unfold DB_Rd_product_8 at hD
  refine g_wt (fun hw => ?_)
  refine g_iload_n (pc := 8) rfl 3 rfl C dX4_product_8 ?_
  refine g_sipush (pc := 9) (v := 400) (by decide) C dX4_product_9 ?_
  refine g_icmp_ge (pc := 12) 93 C dX4_product_12 (by decide) (fun c4 => ?_) (fun c4 => ?_)
  · have hD := hD.1 c4
    refine g_sub [] rfl ?_
    exact hK93 h hD
  · have hD := hD.2 c4
    refine g_aload_n (pc := 15) rfl 0 rfl C dX4_product_15 ?_
    refine g_getI (pc := 16) C fl_RX4_29 t0 rfl dX4_product_16 ?_
    refine g_if_ne (pc := 19) 93 C dX4_product_19 (by decide) (fun c5 => ?_) (fun c5 => ?_)
    · have hD := hD.1 c5
      refine g_sub [] rfl ?_
      exact hK93 h hD
    · have hD := hD.2 c5
      refine g_aload_n (pc := 22) rfl 0 rfl C dX4_product_22 ?_
      have u6 : TA Y (r l0 7) 10 401 := wt_a hw t0 (by decide) (by decide) rfl
      refine g_getR (pc := 23) C fl_RX4_38 t0 rfl dX4_product_23 ?_
      refine g_aload_n (pc := 26) rfl 0 rfl C dX4_product_26 ?_
      refine g_getI (pc := 27) C fl_RX4_48 t0 rfl dX4_product_27 ?_
      refine g_topi (fun i7 ei7 => ?_)
      have hD := hD i7 ei7
      obtain ⟨hb, hD⟩ := hD
      refine g_iald (pc := 30) C u6 hb dX4_product_30 ?_
      refine g_bipush (pc := 31) (v := 27) (by decide) C dX4_product_31 ?_
      refine g_icmp_eq (pc := 33) 50 C dX4_product_33 (by decide) (fun c8 => ?_) (fun c8 => ?_)
      · have hD := hD.1 c8
        refine g_sub [0, 1, 2, 3] rfl ?_
        exact WJ_Rd_product_50 C R hS t0 t1 (hK8) (hK93) hD
      · have hD := hD.2 c8
        refine g_aload_n (pc := 36) rfl 0 rfl C dX4_product_36 ?_
        have u19 : TA Y (r l0 7) 10 401 := wt_a hw t0 (by decide) (by decide) rfl
        refine g_getR (pc := 37) C fl_RX4_38 t0 rfl dX4_product_37 ?_
        refine g_aload_n (pc := 40) rfl 0 rfl C dX4_product_40 ?_
        refine g_getI (pc := 41) C fl_RX4_48 t0 rfl dX4_product_41 ?_
        refine g_topi (fun i20 ei20 => ?_)
        have hD := hD i20 ei20
        obtain ⟨hb, hD⟩ := hD
        refine g_iald (pc := 44) C u19 hb dX4_product_44 ?_
        refine g_bipush (pc := 45) (v := 28) (by decide) C dX4_product_45 ?_
        refine g_icmp_ne (pc := 47) 93 C dX4_product_47 (by decide) (fun c21 => ?_) (fun c21 => ?_)
        · have hD := hD.1 c21
          refine g_sub [] rfl ?_
          exact hK93 h hD
        · have hD := hD.2 c21
          refine g_sub [0, 1, 2, 3] rfl ?_
          exact WJ_Rd_product_50 C R hS t0 t1 (hK8) (hK93) hD
def D_Rd_product (r : TR) (S : Nat → Nat → Int32 → TH → (TH → Prop) → Prop) (o : Nat) (a1 : Nat) (a2 : Int32) (h : TH) (Q : TH → Prop) : Prop :=
  D_Rd_unit r S o a1 a2 h (fun h1 => ∃ n, lp (fun (K : Int32 × TH → Prop) (s : Int32 × TH) => DB_Rd_product_8 r S o a1 a2 s.1 s.2 (fun y22 h23 => K (y22, h23)) (fun h24 => Q h24) Q) n (0, h1))
set_option maxRecDepth 100000 in
set_option maxHeartbeats 4000000 in
theorem M_Rd_product {Y : CG} {r : TR} {l : Launch} {o : Nat} {a1 : Nat} {a2 : Int32} {h : TH} {Q : TH → Prop} {S : Nat → Nat → Int32 → TH → (TH → Prop) → Prop} {dS : Nat} (hS : ∀ (o a1 : Nat) (a2 : Int32) (h : TH) (Q : TH → Prop), TO Y o 4 → TO Y a1 1 → S o a1 a2 h Q → Mv Y r l yX4_sum cX4_sum 5 dS [.ref o, .ref a1, .int a2] h Q) (t0 : TO Y o 4) (t1 : TO Y a1 1) (hD : D_Rd_product r S o a1 a2 h Q) : Mv Y r l yX4_product cX4_product 5 (dS + 3) [.ref o, .ref a1, .int a2] h Q := by
  unfold D_Rd_product at hD
  refine Mv.of RX4 rfl (by decide) (by simp [lg_sl, Value.category]) [(0, .ref o), (1, .ref a1), (2, .int a2)] rfl (fun X hXl C R => ?_)
  subst hXl
  refine g_wt (fun hw => ?_)
  refine g_aload_n (pc := 0) rfl 0 rfl C dX4_product_0 ?_
  refine g_aload_n (pc := 1) rfl 1 rfl C dX4_product_1 ?_
  refine g_iload_n (pc := 2) rfl 2 rfl C dX4_product_2 ?_
  refine g_callVv (pc := 3) (As := [.ref a1, .int a2]) C mv_RX4_207 (M_Rd_unit hS t0 t1 hD) t0 (by omega) rfl rfl (Nat.le_of_ble_eq_true rfl) dX4_product_3 (fun h1 hD => ?_)
  refine g_iconst (pc := 6) (v := 0) (by decide) C dX4_product_6 ?_
  refine g_istore_n (pc := 7) (fun _ => [(3, .int 0), (0, .ref o), (1, .ref a1), (2, .int a2)]) C dX4_product_7 rfl (by decide) rfl (fun _ _ => ?_)
  obtain ⟨n, hD⟩ := hD
  refine g_sub [1, 2, 3, 0] rfl ?_
  refine lp_run (fun s : Int32 × TH => G Y X 5 8 [(0, .ref o), (1, .ref a1), (2, .int a2), (3, .int s.1)] [] r s.2) (fun K s hB hK => ?_) n (0, h1) hD
  refine WB_Rd_product_8 C R hS t0 t1 (fun y22 h23 hk => hK _ hk) (fun h24 hD => ?_) hB
  · exact g_vret (pc := 93) C R dX4_product_93 hD
def DJ_Rd_sum_50 (r : TR) (S : Nat → Nat → Int32 → TH → (TH → Prop) → Prop) (l0 : Nat) (l1 : Nat) (l2 : Int32) (l3 : Int32) (h : TH) (K8 : Int32 → TH → Prop) (K93 : TH → Prop) (Q : TH → Prop) : Prop :=
  ∀ i10 : Int32, i10 = h.1 l0 10 → vp_in i10 401 ∧ ∀ x11 : Int32, x11 = h.1 (r l0 7) i10.toNatClampNeg → D_Rd_need r l0 x11 h (fun x13 h12 => D_Rd_product r S l0 l1 l2 h12 (fun h14 => D_Law_addCode r l1 ((10100 + x11) - 25) h14 (fun h16 => ∀ x18 : Int32, x18 = l3 + 1 → K8 x18 h16)))
set_option maxRecDepth 100000 in
set_option maxHeartbeats 4000000 in
theorem WJ_Rd_sum_50 {Y : CG} {X : CX} {r : TR} {S : Nat → Nat → Int32 → TH → (TH → Prop) → Prop} {l0 : Nat} {l1 : Nat} {l2 : Int32} {l3 : Int32} {h : TH} {K8 : Int32 → TH → Prop} {K93 : TH → Prop} {Q : TH → Prop} {dS : Nat} (C : Gd Y X cX4_sum 5 RX4 (dS + 4)) (R : Rv Y r X Q) (hS : ∀ (o a1 : Nat) (a2 : Int32) (h : TH) (Q : TH → Prop), TO Y o 4 → TO Y a1 1 → S o a1 a2 h Q → Mv Y r X.2.1 yX4_sum cX4_sum 5 dS [.ref o, .ref a1, .int a2] h Q) (t0 : TO Y l0 4) (t1 : TO Y l1 1) (hK8 : ∀ (k3 : Int32) (hh : TH), K8 k3 hh → G Y X 5 8 [(0, .ref l0), (1, .ref l1), (2, .int l2), (3, .int k3)] [] r hh) (hK93 : ∀ (hh : TH), K93 hh → G Y X 5 93 [] [] r hh) (hD : DJ_Rd_sum_50 r S l0 l1 l2 l3 h K8 K93 Q) : G Y X 5 50 [(0, .ref l0), (1, .ref l1), (2, .int l2), (3, .int l3)] [] r h := by
  unfold DJ_Rd_sum_50 at hD
  refine g_wt (fun hw => ?_)
  refine g_aload_n (pc := 50) rfl 0 rfl C dX4_sum_50 ?_
  have u9 : TA Y (r l0 7) 10 401 := wt_a hw t0 (by decide) (by decide) rfl
  refine g_getR (pc := 51) C fl_RX4_38 t0 rfl dX4_sum_51 ?_
  refine g_aload_n (pc := 54) rfl 0 rfl C dX4_sum_54 ?_
  refine g_getI (pc := 55) C fl_RX4_48 t0 rfl dX4_sum_55 ?_
  refine g_topi (fun i10 ei10 => ?_)
  have hD := hD i10 ei10
  obtain ⟨hb, hD⟩ := hD
  refine g_iald (pc := 58) C u9 hb dX4_sum_58 ?_
  refine g_istore (pc := 59) (fun x11 => [(4, .int x11), (0, .ref l0), (1, .ref l1), (2, .int l2), (3, .int l3)]) C dX4_sum_59 (by decide) rfl (fun x11 ex11 => ?_)
  have hD := hD x11 ex11
  refine g_aload_n (pc := 61) rfl 1 rfl C dX4_sum_61 ?_
  refine g_iload (pc := 62) 0 rfl C dX4_sum_62 ?_
  refine g_callVi (pc := 64) (As := [.int x11]) C mv_RX4_132 (M_Rd_need t0 hD) t0 (by omega) rfl rfl (Nat.le_of_ble_eq_true rfl) dX4_sum_64 (fun x13 h12 hD => ?_)
  refine g_pop (pc := 67) rfl C dX4_sum_67 ?_
  refine g_aload_n (pc := 68) rfl 1 rfl C dX4_sum_68 ?_
  refine g_aload_n (pc := 69) rfl 2 rfl C dX4_sum_69 ?_
  refine g_iload_n (pc := 70) rfl 3 rfl C dX4_sum_70 ?_
  refine g_callVv (pc := 71) (As := [.ref l1, .int l2]) C mv_RX4_201 (M_Rd_product hS t0 t1 hD) t0 (by omega) rfl rfl (Nat.le_of_ble_eq_true rfl) dX4_sum_71 (fun h14 hD => ?_)
  refine g_aload_n (pc := 74) rfl 2 rfl C dX4_sum_74 ?_
  refine g_sipush (pc := 75) (v := 10100) (by decide) C dX4_sum_75 ?_
  refine g_iload (pc := 78) 0 rfl C dX4_sum_78 ?_
  refine g_iadd (pc := 80) C dX4_sum_80 ?_
  refine g_bipush (pc := 81) (v := 25) (by decide) C dX4_sum_81 ?_
  refine g_isub (pc := 83) C dX4_sum_83 ?_
  refine g_callVv (pc := 84) (As := [.int ((10100 + x11) - 25)]) C mv_RX4_204 (M_Law_addCode t1 hD) t1 (by omega) rfl rfl (Nat.le_of_ble_eq_true rfl) dX4_sum_84 (fun h16 hD => ?_)
  refine g_iinc (pc := 87) (q := 4) (c := 1) (fun x18 => [(3, .int x18), (4, .int x11), (0, .ref l0), (1, .ref l1), (2, .int l2)]) C dX4_sum_87 rfl (by decide) (by decide) rfl (fun x18 ex18 => ?_)
  have hD := hD x18 ex18
  refine g_goto (pc := 90) 8 C dX4_sum_90 (by decide) ?_
  refine g_sub [2, 3, 4, 0] rfl ?_
  exact hK8 x18 h16 hD
def DB_Rd_sum_8 (r : TR) (S : Nat → Nat → Int32 → TH → (TH → Prop) → Prop) (l0 : Nat) (l1 : Nat) (l2 : Int32) (l3 : Int32) (h : TH) (K8 : Int32 → TH → Prop) (K93 : TH → Prop) (Q : TH → Prop) : Prop :=
  ((400 ≤ l3 → K93 h) ∧ (¬ 400 ≤ l3 → ((¬ (h.1 l0 4) = 0 → K93 h) ∧ ((h.1 l0 4) = 0 → ∀ i7 : Int32, i7 = h.1 l0 10 → vp_in i7 401 ∧ (((h.1 (r l0 7) i7.toNatClampNeg) = 25 → DJ_Rd_sum_50 r S l0 l1 l2 l3 h (K8) (K93) Q) ∧ (¬ (h.1 (r l0 7) i7.toNatClampNeg) = 25 → ∀ i20 : Int32, i20 = h.1 l0 10 → vp_in i20 401 ∧ ((¬ (h.1 (r l0 7) i20.toNatClampNeg) = 26 → K93 h) ∧ ((h.1 (r l0 7) i20.toNatClampNeg) = 26 → DJ_Rd_sum_50 r S l0 l1 l2 l3 h (K8) (K93) Q))))))))
set_option maxRecDepth 100000 in
set_option maxHeartbeats 4000000 in
theorem WB_Rd_sum_8 {Y : CG} {X : CX} {r : TR} {S : Nat → Nat → Int32 → TH → (TH → Prop) → Prop} {l0 : Nat} {l1 : Nat} {l2 : Int32} {l3 : Int32} {h : TH} {K8 : Int32 → TH → Prop} {K93 : TH → Prop} {Q : TH → Prop} {dS : Nat} (C : Gd Y X cX4_sum 5 RX4 (dS + 4)) (R : Rv Y r X Q) (hS : ∀ (o a1 : Nat) (a2 : Int32) (h : TH) (Q : TH → Prop), TO Y o 4 → TO Y a1 1 → S o a1 a2 h Q → Mv Y r X.2.1 yX4_sum cX4_sum 5 dS [.ref o, .ref a1, .int a2] h Q) (t0 : TO Y l0 4) (t1 : TO Y l1 1) (hK8 : ∀ (k3 : Int32) (hh : TH), K8 k3 hh → G Y X 5 8 [(0, .ref l0), (1, .ref l1), (2, .int l2), (3, .int k3)] [] r hh) (hK93 : ∀ (hh : TH), K93 hh → G Y X 5 93 [] [] r hh) (hD : DB_Rd_sum_8 r S l0 l1 l2 l3 h K8 K93 Q) : G Y X 5 8 [(0, .ref l0), (1, .ref l1), (2, .int l2), (3, .int l3)] [] r h := by
  unfold DB_Rd_sum_8 at hD
  refine g_wt (fun hw => ?_)
  refine g_iload_n (pc := 8) rfl 3 rfl C dX4_sum_8 ?_
  refine g_sipush (pc := 9) (v := 400) (by decide) C dX4_sum_9 ?_
  refine g_icmp_ge (pc := 12) 93 C dX4_sum_12 (by decide) (fun c4 => ?_) (fun c4 => ?_)
  · have hD := hD.1 c4
    refine g_sub [] rfl ?_
    exact hK93 h hD
  · have hD := hD.2 c4
    refine g_aload_n (pc := 15) rfl 0 rfl C dX4_sum_15 ?_
    refine g_getI (pc := 16) C fl_RX4_29 t0 rfl dX4_sum_16 ?_
    refine g_if_ne (pc := 19) 93 C dX4_sum_19 (by decide) (fun c5 => ?_) (fun c5 => ?_)
    · have hD := hD.1 c5
      refine g_sub [] rfl ?_
      exact hK93 h hD
    · have hD := hD.2 c5
      refine g_aload_n (pc := 22) rfl 0 rfl C dX4_sum_22 ?_
      have u6 : TA Y (r l0 7) 10 401 := wt_a hw t0 (by decide) (by decide) rfl
      refine g_getR (pc := 23) C fl_RX4_38 t0 rfl dX4_sum_23 ?_
      refine g_aload_n (pc := 26) rfl 0 rfl C dX4_sum_26 ?_
      refine g_getI (pc := 27) C fl_RX4_48 t0 rfl dX4_sum_27 ?_
      refine g_topi (fun i7 ei7 => ?_)
      have hD := hD i7 ei7
      obtain ⟨hb, hD⟩ := hD
      refine g_iald (pc := 30) C u6 hb dX4_sum_30 ?_
      refine g_bipush (pc := 31) (v := 25) (by decide) C dX4_sum_31 ?_
      refine g_icmp_eq (pc := 33) 50 C dX4_sum_33 (by decide) (fun c8 => ?_) (fun c8 => ?_)
      · have hD := hD.1 c8
        refine g_sub [0, 1, 2, 3] rfl ?_
        exact WJ_Rd_sum_50 C R hS t0 t1 (hK8) (hK93) hD
      · have hD := hD.2 c8
        refine g_aload_n (pc := 36) rfl 0 rfl C dX4_sum_36 ?_
        have u19 : TA Y (r l0 7) 10 401 := wt_a hw t0 (by decide) (by decide) rfl
        refine g_getR (pc := 37) C fl_RX4_38 t0 rfl dX4_sum_37 ?_
        refine g_aload_n (pc := 40) rfl 0 rfl C dX4_sum_40 ?_
        refine g_getI (pc := 41) C fl_RX4_48 t0 rfl dX4_sum_41 ?_
        refine g_topi (fun i20 ei20 => ?_)
        have hD := hD i20 ei20
        obtain ⟨hb, hD⟩ := hD
        refine g_iald (pc := 44) C u19 hb dX4_sum_44 ?_
        refine g_bipush (pc := 45) (v := 26) (by decide) C dX4_sum_45 ?_
        refine g_icmp_ne (pc := 47) 93 C dX4_sum_47 (by decide) (fun c21 => ?_) (fun c21 => ?_)
        · have hD := hD.1 c21
          refine g_sub [] rfl ?_
          exact hK93 h hD
        · have hD := hD.2 c21
          refine g_sub [0, 1, 2, 3] rfl ?_
          exact WJ_Rd_sum_50 C R hS t0 t1 (hK8) (hK93) hD
def D_Rd_sum (r : TR) (S : Nat → Nat → Int32 → TH → (TH → Prop) → Prop) (o : Nat) (a1 : Nat) (a2 : Int32) (h : TH) (Q : TH → Prop) : Prop :=
  D_Rd_product r S o a1 a2 h (fun h1 => ∃ n, lp (fun (K : Int32 × TH → Prop) (s : Int32 × TH) => DB_Rd_sum_8 r S o a1 a2 s.1 s.2 (fun y22 h23 => K (y22, h23)) (fun h24 => Q h24) Q) n (0, h1))
set_option maxRecDepth 100000 in
set_option maxHeartbeats 4000000 in
theorem M_Rd_sum {Y : CG} {r : TR} {l : Launch} {o : Nat} {a1 : Nat} {a2 : Int32} {h : TH} {Q : TH → Prop} {S : Nat → Nat → Int32 → TH → (TH → Prop) → Prop} {dS : Nat} (hS : ∀ (o a1 : Nat) (a2 : Int32) (h : TH) (Q : TH → Prop), TO Y o 4 → TO Y a1 1 → S o a1 a2 h Q → Mv Y r l yX4_sum cX4_sum 5 dS [.ref o, .ref a1, .int a2] h Q) (t0 : TO Y o 4) (t1 : TO Y a1 1) (hD : D_Rd_sum r S o a1 a2 h Q) : Mv Y r l yX4_sum cX4_sum 5 (dS + 4) [.ref o, .ref a1, .int a2] h Q := by
  unfold D_Rd_sum at hD
  refine Mv.of RX4 rfl (by decide) (by simp [lg_sl, Value.category]) [(0, .ref o), (1, .ref a1), (2, .int a2)] rfl (fun X hXl C R => ?_)
  subst hXl
  refine g_wt (fun hw => ?_)
  refine g_aload_n (pc := 0) rfl 0 rfl C dX4_sum_0 ?_
  refine g_aload_n (pc := 1) rfl 1 rfl C dX4_sum_1 ?_
  refine g_iload_n (pc := 2) rfl 2 rfl C dX4_sum_2 ?_
  refine g_callVv (pc := 3) (As := [.ref a1, .int a2]) C mv_RX4_201 (M_Rd_product hS t0 t1 hD) t0 (by omega) rfl rfl (Nat.le_of_ble_eq_true rfl) dX4_sum_3 (fun h1 hD => ?_)
  refine g_iconst (pc := 6) (v := 0) (by decide) C dX4_sum_6 ?_
  refine g_istore_n (pc := 7) (fun _ => [(3, .int 0), (0, .ref o), (1, .ref a1), (2, .int a2)]) C dX4_sum_7 rfl (by decide) rfl (fun _ _ => ?_)
  obtain ⟨n, hD⟩ := hD
  refine g_sub [1, 2, 3, 0] rfl ?_
  refine lp_run (fun s : Int32 × TH => G Y X 5 8 [(0, .ref o), (1, .ref a1), (2, .int a2), (3, .int s.1)] [] r s.2) (fun K s hB hK => ?_) n (0, h1) hD
  refine WB_Rd_sum_8 C R hS t0 t1 (fun y22 h23 hk => hK _ hk) (fun h24 hD => ?_) hB
  · exact g_vret (pc := 93) C R dX4_sum_93 hD
def SumN (r : TR) : Nat → Nat → Nat → Int32 → TH → (TH → Prop) → Prop
  | 0 => fun _ _ _ _ _ => False
  | n + 1 => fun o a1 a2 h Q => D_Rd_sum r (SumN r n) o a1 a2 h Q
theorem M_SumN {Y : CG} {r : TR} {l : Launch} : ∀ (n : Nat) {o a1 : Nat} {a2 : Int32} {h : TH} {Q : TH → Prop} (t0 : TO Y o 4) (t1 : TO Y a1 1) (hD : SumN r n o a1 a2 h Q), Mv Y r l yX4_sum cX4_sum 5 (4 * n + 1) [.ref o, .ref a1, .int a2] h Q := by
  intro n
  induction n with
  | zero => intro o a1 a2 h Q t0 t1 hD; exact absurd hD id
  | succ n ih => intro o a1 a2 h Q t0 t1 hD; exact M_Rd_sum (dS := 4 * n + 1) (fun o a1 a2 h Q t0 t1 hs => ih t0 t1 hs) t0 t1 hD
def D_Law_clear (r : TR) (o : Nat) (h : TH) (Q : TH → Prop) : Prop :=
  ∀ h1, h1 = pI h o 4 0 → ∀ h2, h2 = pI h1 o 5 0 → Q h2
set_option maxRecDepth 100000 in
set_option maxHeartbeats 4000000 in
theorem M_Law_clear {Y : CG} {r : TR} {l : Launch} {o : Nat} {h : TH} {Q : TH → Prop} (t0 : TO Y o 1) (hD : D_Law_clear r o h Q) : Mv Y r l yX1_clear cX1_clear 1 1 [.ref o] h Q := by
  unfold D_Law_clear at hD
  refine Mv.of RX1 rfl (by decide) (by simp [lg_sl, Value.category]) [(0, .ref o)] rfl (fun X hXl C R => ?_)
  subst hXl
  refine g_wt (fun hw => ?_)
  refine g_aload_n (pc := 0) rfl 0 rfl C dX1_clear_0 ?_
  refine g_iconst (pc := 1) (v := 0) (by decide) C dX1_clear_1 ?_
  refine g_putI (pc := 2) C fl_RX1_24 t0 rfl rfl rfl dX1_clear_2 (fun h1 eh1 => ?_)
  have hD := hD h1 eh1
  refine g_aload_n (pc := 5) rfl 0 rfl C dX1_clear_5 ?_
  refine g_iconst (pc := 6) (v := 0) (by decide) C dX1_clear_6 ?_
  refine g_putI (pc := 7) C fl_RX1_28 t0 rfl rfl rfl dX1_clear_7 (fun h2 eh2 => ?_)
  have hD := hD h2 eh2
  exact g_vret (pc := 10) C R dX1_clear_10 hD
def D_Law_endPiece (r : TR) (o : Nat) (h : TH) (Q : TH → Prop) : Prop :=
  ((13 ≤ (h.1 o 5) → Q h) ∧ (¬ 13 ≤ (h.1 o 5) → vp_in (h.1 o 5) 13 ∧ ∀ h3, h3 = pI h (r o 2) ((h.1 o 5).toNatClampNeg) (h.1 o 4) → ∀ h4, h4 = pI h3 o 5 ((h3.1 o 5) + 1) → Q h4))
set_option maxRecDepth 100000 in
set_option maxHeartbeats 4000000 in
theorem M_Law_endPiece {Y : CG} {r : TR} {l : Launch} {o : Nat} {h : TH} {Q : TH → Prop} (t0 : TO Y o 1) (hD : D_Law_endPiece r o h Q) : Mv Y r l yX1_endPiece cX1_endPiece 1 1 [.ref o] h Q := by
  unfold D_Law_endPiece at hD
  refine Mv.of RX1 rfl (by decide) (by simp [lg_sl, Value.category]) [(0, .ref o)] rfl (fun X hXl C R => ?_)
  subst hXl
  refine g_wt (fun hw => ?_)
  refine g_aload_n (pc := 0) rfl 0 rfl C dX1_endPiece_0 ?_
  refine g_getI (pc := 1) C fl_RX1_28 t0 rfl dX1_endPiece_1 ?_
  refine g_bipush (pc := 4) (v := 13) (by decide) C dX1_endPiece_4 ?_
  refine g_icmp_ge (pc := 6) 32 C dX1_endPiece_6 (by decide) (fun c1 => ?_) (fun c1 => ?_)
  · have hD := hD.1 c1
    exact g_vret (pc := 32) C R dX1_endPiece_32 hD
  · have hD := hD.2 c1
    refine g_aload_n (pc := 9) rfl 0 rfl C dX1_endPiece_9 ?_
    have u2 : TA Y (r o 2) 10 13 := wt_a hw t0 (by decide) (by decide) rfl
    refine g_getR (pc := 10) C fl_RX1_18 t0 rfl dX1_endPiece_10 ?_
    refine g_aload_n (pc := 13) rfl 0 rfl C dX1_endPiece_13 ?_
    refine g_getI (pc := 14) C fl_RX1_28 t0 rfl dX1_endPiece_14 ?_
    refine g_aload_n (pc := 17) rfl 0 rfl C dX1_endPiece_17 ?_
    refine g_getI (pc := 18) C fl_RX1_24 t0 rfl dX1_endPiece_18 ?_
    obtain ⟨hb, hD⟩ := hD
    refine g_iast (pc := 21) C u2 hb dX1_endPiece_21 (fun h3 eh3 => ?_)
    have hD := hD h3 eh3
    refine g_aload_n (pc := 22) rfl 0 rfl C dX1_endPiece_22 ?_
    refine g_dup (pc := 23) rfl C dX1_endPiece_23 ?_
    refine g_getI (pc := 24) C fl_RX1_28 t0 rfl dX1_endPiece_24 ?_
    refine g_iconst (pc := 27) (v := 1) (by decide) C dX1_endPiece_27 ?_
    refine g_iadd (pc := 28) C dX1_endPiece_28 ?_
    refine g_putI (pc := 29) C fl_RX1_28 t0 rfl rfl rfl dX1_endPiece_29 (fun h4 eh4 => ?_)
    have hD := hD h4 eh4
    exact g_vret (pc := 32) C R dX1_endPiece_32 hD
def D_Law_becomeNumber (r : TR) (o : Nat) (a1 : Int32) (h : TH) (Q : TH → Prop) : Prop :=
  D_Law_clear r o h (fun h1 => D_Law_addCode r o a1 h1 (fun h3 => D_Law_endPiece r o h3 (fun h5 => Q h5)))
set_option maxRecDepth 100000 in
set_option maxHeartbeats 4000000 in
theorem M_Law_becomeNumber {Y : CG} {r : TR} {l : Launch} {o : Nat} {a1 : Int32} {h : TH} {Q : TH → Prop} (t0 : TO Y o 1) (hD : D_Law_becomeNumber r o a1 h Q) : Mv Y r l yX1_becomeNumber cX1_becomeNumber 2 2 [.ref o, .int a1] h Q := by
  unfold D_Law_becomeNumber at hD
  refine Mv.of RX1 rfl (by decide) (by simp [lg_sl, Value.category]) [(0, .ref o), (1, .int a1)] rfl (fun X hXl C R => ?_)
  subst hXl
  refine g_wt (fun hw => ?_)
  refine g_aload_n (pc := 0) rfl 0 rfl C dX1_becomeNumber_0 ?_
  refine g_callVv (pc := 1) (As := []) C mv_RX1_35 (M_Law_clear t0 hD) t0 (by decide) rfl rfl (Nat.le_of_ble_eq_true rfl) dX1_becomeNumber_1 (fun h1 hD => ?_)
  refine g_aload_n (pc := 4) rfl 0 rfl C dX1_becomeNumber_4 ?_
  refine g_iload_n (pc := 5) rfl 1 rfl C dX1_becomeNumber_5 ?_
  refine g_callVv (pc := 6) (As := [.int a1]) C mv_RX1_38 (M_Law_addCode t0 hD) t0 (by decide) rfl rfl (Nat.le_of_ble_eq_true rfl) dX1_becomeNumber_6 (fun h3 hD => ?_)
  refine g_aload_n (pc := 9) rfl 0 rfl C dX1_becomeNumber_9 ?_
  refine g_callVv (pc := 10) (As := []) C mv_RX1_42 (M_Law_endPiece t0 hD) t0 (by decide) rfl rfl (Nat.le_of_ble_eq_true rfl) dX1_becomeNumber_10 (fun h5 hD => ?_)
  exact g_vret (pc := 13) C R dX1_becomeNumber_13 hD
def DB_JA_fill_5 (r : TR) (l0 : Nat) (n0 : Nat) (l1 : Int32) (l2 : Int32) (l3 : Int32) (h : TH) (K5 : Int32 → TH → Prop) (K20 : TH → Prop) (Q : TH → Prop) : Prop :=
  ((l3 ≤ l2 → K20 h) ∧ (¬ l3 ≤ l2 → vp_in l2 n0 ∧ ∀ h4, h4 = pI h l0 l2.toNatClampNeg l1 → ∀ x5 : Int32, x5 = l2 + 1 → K5 x5 h4))
set_option maxRecDepth 100000 in
set_option maxHeartbeats 4000000 in
theorem WB_JA_fill_5 {Y : CG} {X : CX} {r : TR} {l0 : Nat} {n0 : Nat} {l1 : Int32} {l2 : Int32} {l3 : Int32} {h : TH} {K5 : Int32 → TH → Prop} {K20 : TH → Prop} {Q : TH → Prop} (C : Gd Y X cJ7_fill_53178 4 RJ7 1) (R : Rv Y r X Q) (t0 : TA Y l0 10 n0) (hK5 : ∀ (k2 : Int32) (hh : TH), K5 k2 hh → G Y X 4 5 [(0, .ref l0), (1, .int l1), (2, .int k2), (3, .int l3)] [] r hh) (hK20 : ∀ (hh : TH), K20 hh → G Y X 4 20 [] [] r hh) (hD : DB_JA_fill_5 r l0 n0 l1 l2 l3 h K5 K20 Q) : G Y X 4 5 [(0, .ref l0), (1, .int l1), (2, .int l2), (3, .int l3)] [] r h := by
  unfold DB_JA_fill_5 at hD
  refine g_wt (fun hw => ?_)
  refine g_iload_n (pc := 5) rfl 2 rfl C dJ7_fill_53178_5 ?_
  refine g_iload_n (pc := 6) rfl 3 rfl C dJ7_fill_53178_6 ?_
  refine g_icmp_ge (pc := 7) 20 C dJ7_fill_53178_7 (by decide) (fun c3 => ?_) (fun c3 => ?_)
  · have hD := hD.1 c3
    refine g_sub [] rfl ?_
    exact hK20 h hD
  · have hD := hD.2 c3
    refine g_aload_n (pc := 10) rfl 0 rfl C dJ7_fill_53178_10 ?_
    refine g_iload_n (pc := 11) rfl 2 rfl C dJ7_fill_53178_11 ?_
    refine g_iload_n (pc := 12) rfl 1 rfl C dJ7_fill_53178_12 ?_
    obtain ⟨hb, hD⟩ := hD
    refine g_iast (pc := 13) C t0 hb dJ7_fill_53178_13 (fun h4 eh4 => ?_)
    have hD := hD h4 eh4
    refine g_iinc (pc := 14) (q := 2) (c := 1) (fun x5 => [(2, .int x5), (0, .ref l0), (1, .int l1), (3, .int l3)]) C dJ7_fill_53178_14 rfl (by decide) (by decide) rfl (fun x5 ex5 => ?_)
    have hD := hD x5 ex5
    refine g_goto (pc := 17) 5 C dJ7_fill_53178_17 (by decide) ?_
    refine g_sub [1, 2, 0, 3] rfl ?_
    exact hK5 x5 h4 hD
def D_JA_fill (r : TR) (a0 : Nat) (n0 : Nat) (a1 : Int32) (h : TH) (Q : TH → Prop) : Prop :=
  ∀ x2 : Int32, x2 = Int32.ofNat n0 → ∃ n, lp (fun (K : Int32 × TH → Prop) (s : Int32 × TH) => DB_JA_fill_5 r a0 n0 a1 s.1 x2 s.2 (fun y6 h7 => K (y6, h7)) (fun h8 => Q h8) Q) n (0, h)
set_option maxRecDepth 100000 in
set_option maxHeartbeats 4000000 in
theorem M_JA_fill {Y : CG} {r : TR} {l : Launch} {a0 : Nat} {n0 : Nat} {a1 : Int32} {h : TH} {Q : TH → Prop} (t0 : TA Y a0 10 n0) (hD : D_JA_fill r a0 n0 a1 h Q) : Mv Y r l yJ7_fill_53178 cJ7_fill_53178 4 1 [.ref a0, .int a1] h Q := by
  unfold D_JA_fill at hD
  refine Mv.of RJ7 rfl (by decide) (by simp [lg_sl, Value.category]) [(0, .ref a0), (1, .int a1)] rfl (fun X hXl C R => ?_)
  subst hXl
  refine g_wt (fun hw => ?_)
  refine g_iconst (pc := 0) (v := 0) (by decide) C dJ7_fill_53178_0 ?_
  refine g_istore_n (pc := 1) (fun _ => [(2, .int 0), (0, .ref a0), (1, .int a1)]) C dJ7_fill_53178_1 rfl (by decide) rfl (fun _ _ => ?_)
  refine g_aload_n (pc := 2) rfl 1 rfl C dJ7_fill_53178_2 ?_
  refine g_alen (pc := 3) C t0 rfl dJ7_fill_53178_3 ?_
  refine g_istore_n (pc := 4) (fun x2 => [(3, .int x2), (2, .int 0), (0, .ref a0), (1, .int a1)]) C dJ7_fill_53178_4 rfl (by decide) rfl (fun x2 ex2 => ?_)
  have hD := hD x2 ex2
  obtain ⟨n, hD⟩ := hD
  refine g_sub [2, 3, 1, 0] rfl ?_
  refine lp_run (fun s : Int32 × TH => G Y X 4 5 [(0, .ref a0), (1, .int a1), (2, .int s.1), (3, .int x2)] [] r s.2) (fun K s hB hK => ?_) n (0, h) hD
  refine WB_JA_fill_5 C R t0 (fun y6 h7 hk => hK _ hk) (fun h8 hD => ?_) hB
  · exact g_vret (pc := 20) C R dJ7_fill_53178_20 hD
def D_Bay_clear (r : TR) (o : Nat) (h : TH) (Q : TH → Prop) : Prop :=
  ∀ h1, h1 = pI h o 0 0 → ∀ h2, h2 = pI h1 o 1 0 → ∀ h3, h3 = pI h2 o 2 0 → ∀ h4, h4 = pI h3 o 3 0 → ∀ h5, h5 = pI h4 o 4 0 → D_JA_fill r (r o 5) 40 3 h5 (fun h7 => D_Law_becomeNumber r (r o 12) 0 h7 (fun h10 => D_Law_becomeNumber r (r o 13) 1 h10 (fun h13 => D_Law_becomeNumber r (r o 14) 1 h13 (fun h16 => Q h16))))
set_option maxRecDepth 100000 in
set_option maxHeartbeats 4000000 in
theorem M_Bay_clear {Y : CG} {r : TR} {l : Launch} {o : Nat} {h : TH} {Q : TH → Prop} (t0 : TO Y o 0) (hD : D_Bay_clear r o h Q) : Mv Y r l yX0_clear cX0_clear 1 3 [.ref o] h Q := by
  unfold D_Bay_clear at hD
  refine Mv.of RX0 rfl (by decide) (by simp [lg_sl, Value.category]) [(0, .ref o)] rfl (fun X hXl C R => ?_)
  subst hXl
  refine g_wt (fun hw => ?_)
  refine g_aload_n (pc := 0) rfl 0 rfl C dX0_clear_0 ?_
  refine g_iconst (pc := 1) (v := 0) (by decide) C dX0_clear_1 ?_
  refine g_putI (pc := 2) C fl_RX0_9 t0 rfl rfl rfl dX0_clear_2 (fun h1 eh1 => ?_)
  have hD := hD h1 eh1
  refine g_aload_n (pc := 5) rfl 0 rfl C dX0_clear_5 ?_
  refine g_iconst (pc := 6) (v := 0) (by decide) C dX0_clear_6 ?_
  refine g_putI (pc := 7) C fl_RX0_15 t0 rfl rfl rfl dX0_clear_7 (fun h2 eh2 => ?_)
  have hD := hD h2 eh2
  refine g_aload_n (pc := 10) rfl 0 rfl C dX0_clear_10 ?_
  refine g_iconst (pc := 11) (v := 0) (by decide) C dX0_clear_11 ?_
  refine g_putI (pc := 12) C fl_RX0_18 t0 rfl rfl rfl dX0_clear_12 (fun h3 eh3 => ?_)
  have hD := hD h3 eh3
  refine g_aload_n (pc := 15) rfl 0 rfl C dX0_clear_15 ?_
  refine g_iconst (pc := 16) (v := 0) (by decide) C dX0_clear_16 ?_
  refine g_putI (pc := 17) C fl_RX0_21 t0 rfl rfl rfl dX0_clear_17 (fun h4 eh4 => ?_)
  have hD := hD h4 eh4
  refine g_aload_n (pc := 20) rfl 0 rfl C dX0_clear_20 ?_
  refine g_iconst (pc := 21) (v := 0) (by decide) C dX0_clear_21 ?_
  refine g_putI (pc := 22) C fl_RX0_24 t0 rfl rfl rfl dX0_clear_22 (fun h5 eh5 => ?_)
  have hD := hD h5 eh5
  refine g_aload_n (pc := 25) rfl 0 rfl C dX0_clear_25 ?_
  have u6 : TA Y (r o 5) 10 40 := wt_a hw t0 (by decide) (by decide) rfl
  refine g_getR (pc := 26) C fl_RX0_27 t0 rfl dX0_clear_26 ?_
  refine g_iconst (pc := 29) (v := 3) (by decide) C dX0_clear_29 ?_
  refine g_callSv (pc := 30) (As := [.ref (r o 5), .int 3]) C ms_RX0_66 (M_JA_fill u6 hD) (by decide) rfl rfl (Nat.le_of_ble_eq_true rfl) dX0_clear_30 (fun h7 hD => ?_)
  refine g_aload_n (pc := 33) rfl 0 rfl C dX0_clear_33 ?_
  have u9 : TO Y (r o 12) 1 := wt_o hw t0 (by decide) rfl
  refine g_getR (pc := 34) C fl_RX0_53 t0 rfl dX0_clear_34 ?_
  refine g_iconst (pc := 37) (v := 0) (by decide) C dX0_clear_37 ?_
  refine g_callVv (pc := 38) (As := [.int 0]) C mv_RX0_72 (M_Law_becomeNumber u9 hD) u9 (by decide) rfl rfl (Nat.le_of_ble_eq_true rfl) dX0_clear_38 (fun h10 hD => ?_)
  refine g_aload_n (pc := 41) rfl 0 rfl C dX0_clear_41 ?_
  have u12 : TO Y (r o 13) 1 := wt_o hw t0 (by decide) rfl
  refine g_getR (pc := 42) C fl_RX0_57 t0 rfl dX0_clear_42 ?_
  refine g_iconst (pc := 45) (v := 1) (by decide) C dX0_clear_45 ?_
  refine g_callVv (pc := 46) (As := [.int 1]) C mv_RX0_72 (M_Law_becomeNumber u12 hD) u12 (by decide) rfl rfl (Nat.le_of_ble_eq_true rfl) dX0_clear_46 (fun h13 hD => ?_)
  refine g_aload_n (pc := 49) rfl 0 rfl C dX0_clear_49 ?_
  have u15 : TO Y (r o 14) 1 := wt_o hw t0 (by decide) rfl
  refine g_getR (pc := 50) C fl_RX0_60 t0 rfl dX0_clear_50 ?_
  refine g_iconst (pc := 53) (v := 1) (by decide) C dX0_clear_53 ?_
  refine g_callVv (pc := 54) (As := [.int 1]) C mv_RX0_72 (M_Law_becomeNumber u15 hD) u15 (by decide) rfl rfl (Nat.le_of_ble_eq_true rfl) dX0_clear_54 (fun h16 hD => ?_)
  exact g_vret (pc := 57) C R dX0_clear_57 hD
def D_Bay_allBoats (r : TR) (o : Nat) (h : TH) (Q : Int32 → TH → Prop) : Prop :=
  Q (((1 : Int32) <<< ((h.1 o 2) &&& 31)) - 1) h
set_option maxRecDepth 100000 in
set_option maxHeartbeats 4000000 in
theorem M_Bay_allBoats {Y : CG} {r : TR} {l : Launch} {o : Nat} {h : TH} {Q : Int32 → TH → Prop} (t0 : TO Y o 0) (hD : D_Bay_allBoats r o h Q) : Mi Y r l yX0_allBoats cX0_allBoats 1 .int 1 [.ref o] h Q := by
  unfold D_Bay_allBoats at hD
  refine Mi.of RX0 rfl (by decide) (by simp [lg_sl, Value.category]) [(0, .ref o)] rfl (fun X hXl C R => ?_)
  subst hXl
  refine g_wt (fun hw => ?_)
  refine g_iconst (pc := 0) (v := 1) (by decide) C dX0_allBoats_0 ?_
  refine g_aload_n (pc := 1) rfl 0 rfl C dX0_allBoats_1 ?_
  refine g_getI (pc := 2) C fl_RX0_18 t0 rfl dX0_allBoats_2 ?_
  refine g_ishl (pc := 5) C dX0_allBoats_5 ?_
  refine g_iconst (pc := 6) (v := 1) (by decide) C dX0_allBoats_6 ?_
  refine g_isub (pc := 7) C dX0_allBoats_7 ?_
  exact g_iret (pc := 8) C R dX0_allBoats_8 hD
def D_Bay_isInside (r : TR) (o : Nat) (a1 : Int32) (a2 : Int32) (h : TH) (Q : Int32 → TH → Prop) : Prop :=
  ((a1 < 0 → Q 0 h) ∧ (¬ a1 < 0 → (((h.1 o 0) ≤ a1 → Q 0 h) ∧ (¬ (h.1 o 0) ≤ a1 → ((a2 < 0 → Q 0 h) ∧ (¬ a2 < 0 → (((h.1 o 1) ≤ a2 → Q 0 h) ∧ (¬ (h.1 o 1) ≤ a2 → Q 1 h))))))))
set_option maxRecDepth 100000 in
set_option maxHeartbeats 4000000 in
theorem M_Bay_isInside {Y : CG} {r : TR} {l : Launch} {o : Nat} {a1 : Int32} {a2 : Int32} {h : TH} {Q : Int32 → TH → Prop} (t0 : TO Y o 0) (hD : D_Bay_isInside r o a1 a2 h Q) : Mi Y r l yX0_isInside cX0_isInside 3 .boolean 1 [.ref o, .int a1, .int a2] h Q := by
  unfold D_Bay_isInside at hD
  refine Mi.of RX0 rfl (by decide) (by simp [lg_sl, Value.category]) [(0, .ref o), (1, .int a1), (2, .int a2)] rfl (fun X hXl C R => ?_)
  subst hXl
  refine g_wt (fun hw => ?_)
  refine g_iload_n (pc := 0) rfl 1 rfl C dX0_isInside_0 ?_
  refine g_if_lt (pc := 1) 28 C dX0_isInside_1 (by decide) (fun c1 => ?_) (fun c1 => ?_)
  · have hD := hD.1 c1
    refine g_iconst (pc := 28) (v := 0) (by decide) C dX0_isInside_28 ?_
    exact g_zret (pc := 29) C R nz_0 dX0_isInside_29 hD
  · have hD := hD.2 c1
    refine g_iload_n (pc := 4) rfl 1 rfl C dX0_isInside_4 ?_
    refine g_aload_n (pc := 5) rfl 0 rfl C dX0_isInside_5 ?_
    refine g_getI (pc := 6) C fl_RX0_9 t0 rfl dX0_isInside_6 ?_
    refine g_icmp_ge (pc := 9) 28 C dX0_isInside_9 (by decide) (fun c2 => ?_) (fun c2 => ?_)
    · have hD := hD.1 c2
      refine g_iconst (pc := 28) (v := 0) (by decide) C dX0_isInside_28 ?_
      exact g_zret (pc := 29) C R nz_0 dX0_isInside_29 hD
    · have hD := hD.2 c2
      refine g_iload_n (pc := 12) rfl 2 rfl C dX0_isInside_12 ?_
      refine g_if_lt (pc := 13) 28 C dX0_isInside_13 (by decide) (fun c3 => ?_) (fun c3 => ?_)
      · have hD := hD.1 c3
        refine g_iconst (pc := 28) (v := 0) (by decide) C dX0_isInside_28 ?_
        exact g_zret (pc := 29) C R nz_0 dX0_isInside_29 hD
      · have hD := hD.2 c3
        refine g_iload_n (pc := 16) rfl 2 rfl C dX0_isInside_16 ?_
        refine g_aload_n (pc := 17) rfl 0 rfl C dX0_isInside_17 ?_
        refine g_getI (pc := 18) C fl_RX0_15 t0 rfl dX0_isInside_18 ?_
        refine g_icmp_ge (pc := 21) 28 C dX0_isInside_21 (by decide) (fun c4 => ?_) (fun c4 => ?_)
        · have hD := hD.1 c4
          refine g_iconst (pc := 28) (v := 0) (by decide) C dX0_isInside_28 ?_
          exact g_zret (pc := 29) C R nz_0 dX0_isInside_29 hD
        · have hD := hD.2 c4
          refine g_iconst (pc := 24) (v := 1) (by decide) C dX0_isInside_24 ?_
          refine g_goto (pc := 25) 29 C dX0_isInside_25 (by decide) ?_
          exact g_zret (pc := 29) C R nz_1 dX0_isInside_29 hD
def D_Bay_startOf (r : TR) (o : Nat) (a1 : Int32) (h : TH) (Q : Int32 → TH → Prop) : Prop :=
  vp_in a1 6 ∧ vp_in a1 6 ∧ Q ((8 * (h.1 (r o 9) a1.toNatClampNeg)) + (h.1 (r o 8) a1.toNatClampNeg)) h
set_option maxRecDepth 100000 in
set_option maxHeartbeats 4000000 in
theorem M_Bay_startOf {Y : CG} {r : TR} {l : Launch} {o : Nat} {a1 : Int32} {h : TH} {Q : Int32 → TH → Prop} (t0 : TO Y o 0) (hD : D_Bay_startOf r o a1 h Q) : Mi Y r l yX0_startOf cX0_startOf 2 .int 1 [.ref o, .int a1] h Q := by
  unfold D_Bay_startOf at hD
  refine Mi.of RX0 rfl (by decide) (by simp [lg_sl, Value.category]) [(0, .ref o), (1, .int a1)] rfl (fun X hXl C R => ?_)
  subst hXl
  refine g_wt (fun hw => ?_)
  refine g_bipush (pc := 0) (v := 8) (by decide) C dX0_startOf_0 ?_
  refine g_aload_n (pc := 2) rfl 0 rfl C dX0_startOf_2 ?_
  have u1 : TA Y (r o 9) 10 6 := wt_a hw t0 (by decide) (by decide) rfl
  refine g_getR (pc := 3) C fl_RX0_41 t0 rfl dX0_startOf_3 ?_
  refine g_iload_n (pc := 6) rfl 1 rfl C dX0_startOf_6 ?_
  obtain ⟨hb, hD⟩ := hD
  refine g_iald (pc := 7) C u1 hb dX0_startOf_7 ?_
  refine g_imul (pc := 8) C dX0_startOf_8 ?_
  refine g_aload_n (pc := 9) rfl 0 rfl C dX0_startOf_9 ?_
  have u2 : TA Y (r o 8) 10 6 := wt_a hw t0 (by decide) (by decide) rfl
  refine g_getR (pc := 10) C fl_RX0_38 t0 rfl dX0_startOf_10 ?_
  refine g_iload_n (pc := 13) rfl 1 rfl C dX0_startOf_13 ?_
  obtain ⟨hb, hD⟩ := hD
  refine g_iald (pc := 14) C u2 hb dX0_startOf_14 ?_
  refine g_iadd (pc := 15) C dX0_startOf_15 ?_
  exact g_iret (pc := 16) C R dX0_startOf_16 hD
def DB_Bay_areBoatsAfloat_2 (r : TR) (l0 : Nat) (l1 : Int32) (h : TH) (K2 : Int32 → TH → Prop) (K51 : TH → Prop) (Q : Int32 → TH → Prop) : Prop :=
  (((h.1 l0 2) ≤ l1 → K51 h) ∧ (¬ (h.1 l0 2) ≤ l1 → vp_in l1 6 ∧ vp_in l1 6 ∧ D_Bay_isInside r l0 (h.1 (r l0 8) l1.toNatClampNeg) (h.1 (r l0 9) l1.toNatClampNeg) h (fun x6 h5 => ((x6 = 0 → Q 0 h5) ∧ (¬ x6 = 0 → D_Bay_startOf r l0 l1 h5 (fun x10 h9 => vp_in x10 40 ∧ ((¬ (h9.1 (r l0 5) x10.toNatClampNeg) = 1 → ∀ x12 : Int32, x12 = l1 + 1 → K2 x12 h9) ∧ ((h9.1 (r l0 5) x10.toNatClampNeg) = 1 → Q 0 h9))))))))
set_option maxRecDepth 100000 in
set_option maxHeartbeats 4000000 in
theorem WB_Bay_areBoatsAfloat_2 {Y : CG} {X : CX} {r : TR} {l0 : Nat} {l1 : Int32} {h : TH} {K2 : Int32 → TH → Prop} {K51 : TH → Prop} {Q : Int32 → TH → Prop} (C : Gd Y X cX0_areBoatsAfloat 2 RX0 2) (R : Ri Y r X .boolean Q) (t0 : TO Y l0 0) (hK2 : ∀ (k1 : Int32) (hh : TH), K2 k1 hh → G Y X 2 2 [(0, .ref l0), (1, .int k1)] [] r hh) (hK51 : ∀ (hh : TH), K51 hh → G Y X 2 51 [] [] r hh) (hD : DB_Bay_areBoatsAfloat_2 r l0 l1 h K2 K51 Q) : G Y X 2 2 [(0, .ref l0), (1, .int l1)] [] r h := by
  unfold DB_Bay_areBoatsAfloat_2 at hD
  refine g_wt (fun hw => ?_)
  refine g_iload_n (pc := 2) rfl 1 rfl C dX0_areBoatsAfloat_2 ?_
  refine g_aload_n (pc := 3) rfl 0 rfl C dX0_areBoatsAfloat_3 ?_
  refine g_getI (pc := 4) C fl_RX0_18 t0 rfl dX0_areBoatsAfloat_4 ?_
  refine g_icmp_ge (pc := 7) 51 C dX0_areBoatsAfloat_7 (by decide) (fun c2 => ?_) (fun c2 => ?_)
  · have hD := hD.1 c2
    refine g_sub [] rfl ?_
    exact hK51 h hD
  · have hD := hD.2 c2
    refine g_aload_n (pc := 10) rfl 0 rfl C dX0_areBoatsAfloat_10 ?_
    refine g_aload_n (pc := 11) rfl 0 rfl C dX0_areBoatsAfloat_11 ?_
    have u3 : TA Y (r l0 8) 10 6 := wt_a hw t0 (by decide) (by decide) rfl
    refine g_getR (pc := 12) C fl_RX0_38 t0 rfl dX0_areBoatsAfloat_12 ?_
    refine g_iload_n (pc := 15) rfl 1 rfl C dX0_areBoatsAfloat_15 ?_
    obtain ⟨hb, hD⟩ := hD
    refine g_iald (pc := 16) C u3 hb dX0_areBoatsAfloat_16 ?_
    refine g_aload_n (pc := 17) rfl 0 rfl C dX0_areBoatsAfloat_17 ?_
    have u4 : TA Y (r l0 9) 10 6 := wt_a hw t0 (by decide) (by decide) rfl
    refine g_getR (pc := 18) C fl_RX0_41 t0 rfl dX0_areBoatsAfloat_18 ?_
    refine g_iload_n (pc := 21) rfl 1 rfl C dX0_areBoatsAfloat_21 ?_
    obtain ⟨hb, hD⟩ := hD
    refine g_iald (pc := 22) C u4 hb dX0_areBoatsAfloat_22 ?_
    refine g_callVi (pc := 23) (As := [.int (h.1 (r l0 8) l1.toNatClampNeg), .int (h.1 (r l0 9) l1.toNatClampNeg)]) C mv_RX0_76 (M_Bay_isInside t0 hD) t0 (by decide) rfl rfl (Nat.le_of_ble_eq_true rfl) dX0_areBoatsAfloat_23 (fun x6 h5 hD => ?_)
    refine g_if_eq (pc := 26) 43 C dX0_areBoatsAfloat_26 (by decide) (fun c7 => ?_) (fun c7 => ?_)
    · have hD := hD.1 c7
      refine g_iconst (pc := 43) (v := 0) (by decide) C dX0_areBoatsAfloat_43 ?_
      exact g_zret (pc := 44) C R nz_0 dX0_areBoatsAfloat_44 hD
    · have hD := hD.2 c7
      refine g_aload_n (pc := 29) rfl 0 rfl C dX0_areBoatsAfloat_29 ?_
      have u8 : TA Y (r l0 5) 10 40 := wt_a hw t0 (by decide) (by decide) rfl
      refine g_getR (pc := 30) C fl_RX0_27 t0 rfl dX0_areBoatsAfloat_30 ?_
      refine g_aload_n (pc := 33) rfl 0 rfl C dX0_areBoatsAfloat_33 ?_
      refine g_iload_n (pc := 34) rfl 1 rfl C dX0_areBoatsAfloat_34 ?_
      refine g_callVi (pc := 35) (As := [.int l1]) C mv_RX0_80 (M_Bay_startOf t0 hD) t0 (by decide) rfl rfl (Nat.le_of_ble_eq_true rfl) dX0_areBoatsAfloat_35 (fun x10 h9 hD => ?_)
      obtain ⟨hb, hD⟩ := hD
      refine g_iald (pc := 38) C u8 hb dX0_areBoatsAfloat_38 ?_
      refine g_iconst (pc := 39) (v := 1) (by decide) C dX0_areBoatsAfloat_39 ?_
      refine g_icmp_ne (pc := 40) 45 C dX0_areBoatsAfloat_40 (by decide) (fun c11 => ?_) (fun c11 => ?_)
      · have hD := hD.1 c11
        refine g_iinc (pc := 45) (q := 1) (c := 1) (fun x12 => [(1, .int x12), (0, .ref l0)]) C dX0_areBoatsAfloat_45 rfl (by decide) (by decide) rfl (fun x12 ex12 => ?_)
        have hD := hD x12 ex12
        refine g_goto (pc := 48) 2 C dX0_areBoatsAfloat_48 (by decide) ?_
        refine g_sub [1, 0] rfl ?_
        exact hK2 x12 h9 hD
      · have hD := hD.2 c11
        refine g_iconst (pc := 43) (v := 0) (by decide) C dX0_areBoatsAfloat_43 ?_
        exact g_zret (pc := 44) C R nz_0 dX0_areBoatsAfloat_44 hD
def D_Bay_areBoatsAfloat (r : TR) (o : Nat) (h : TH) (Q : Int32 → TH → Prop) : Prop :=
  ∃ n, lp (fun (K : Int32 × TH → Prop) (s : Int32 × TH) => DB_Bay_areBoatsAfloat_2 r o s.1 s.2 (fun y13 h14 => K (y13, h14)) (fun h15 => Q 1 h15) Q) n (0, h)
set_option maxRecDepth 100000 in
set_option maxHeartbeats 4000000 in
theorem M_Bay_areBoatsAfloat {Y : CG} {r : TR} {l : Launch} {o : Nat} {h : TH} {Q : Int32 → TH → Prop} (t0 : TO Y o 0) (hD : D_Bay_areBoatsAfloat r o h Q) : Mi Y r l yX0_areBoatsAfloat cX0_areBoatsAfloat 2 .boolean 2 [.ref o] h Q := by
  unfold D_Bay_areBoatsAfloat at hD
  refine Mi.of RX0 rfl (by decide) (by simp [lg_sl, Value.category]) [(0, .ref o)] rfl (fun X hXl C R => ?_)
  subst hXl
  refine g_wt (fun hw => ?_)
  refine g_iconst (pc := 0) (v := 0) (by decide) C dX0_areBoatsAfloat_0 ?_
  refine g_istore_n (pc := 1) (fun _ => [(1, .int 0), (0, .ref o)]) C dX0_areBoatsAfloat_1 rfl (by decide) rfl (fun _ _ => ?_)
  obtain ⟨n, hD⟩ := hD
  refine g_sub [1, 0] rfl ?_
  refine lp_run (fun s : Int32 × TH => G Y X 2 2 [(0, .ref o), (1, .int s.1)] [] r s.2) (fun K s hB hK => ?_) n (0, h) hD
  refine WB_Bay_areBoatsAfloat_2 C R t0 (fun y13 h14 hk => hK _ hk) (fun h15 hD => ?_) hB
  · refine g_iconst (pc := 51) (v := 1) (by decide) C dX0_areBoatsAfloat_51 ?_
    exact g_zret (pc := 52) C R nz_1 dX0_areBoatsAfloat_52 hD
def DJ_Bay_beside_99 (r : TR) (l3 : Int32) (l4 : Int32) (s0 : Int32) (h : TH) (Q : Int32 → TH → Prop) : Prop :=
  ((s0 = 0 → Q (-1) h) ∧ (¬ s0 = 0 → Q ((8 * l4) + l3) h))
set_option maxRecDepth 100000 in
set_option maxHeartbeats 4000000 in
theorem WJ_Bay_beside_99 {Y : CG} {X : CX} {r : TR} {l3 : Int32} {l4 : Int32} {s0 : Int32} {h : TH} {Q : Int32 → TH → Prop} (C : Gd Y X cX0_beside 6 RX0 1) (R : Ri Y r X .int Q) (hD : DJ_Bay_beside_99 r l3 l4 s0 h  Q) : G Y X 6 99 [(3, .int l3), (4, .int l4)] [.int s0] r h := by
  unfold DJ_Bay_beside_99 at hD
  refine g_wt (fun hw => ?_)
  refine g_istore (pc := 99) (fun _ => [(5, .int s0), (3, .int l3), (4, .int l4)]) C dX0_beside_99 (by decide) rfl (fun _ _ => ?_)
  refine g_iload (pc := 101) 0 rfl C dX0_beside_101 ?_
  refine g_if_eq (pc := 103) 116 C dX0_beside_103 (by decide) (fun c7 => ?_) (fun c7 => ?_)
  · have hD := hD.1 c7
    refine g_iconst (pc := 116) (v := (-1)) (by decide) C dX0_beside_116 ?_
    exact g_iret (pc := 117) C R dX0_beside_117 hD
  · have hD := hD.2 c7
    refine g_bipush (pc := 106) (v := 8) (by decide) C dX0_beside_106 ?_
    refine g_iload (pc := 108) 2 rfl C dX0_beside_108 ?_
    refine g_imul (pc := 110) C dX0_beside_110 ?_
    refine g_iload_n (pc := 111) rfl 1 rfl C dX0_beside_111 ?_
    refine g_iadd (pc := 112) C dX0_beside_112 ?_
    refine g_goto (pc := 113) 117 C dX0_beside_113 (by decide) ?_
    exact g_iret (pc := 117) C R dX0_beside_117 hD
def DJ_Bay_beside_98 (r : TR) (l3 : Int32) (l4 : Int32) (h : TH) (Q : Int32 → TH → Prop) : Prop :=
  DJ_Bay_beside_99 r l3 l4 0 h Q
set_option maxRecDepth 100000 in
set_option maxHeartbeats 4000000 in
theorem WJ_Bay_beside_98 {Y : CG} {X : CX} {r : TR} {l3 : Int32} {l4 : Int32} {h : TH} {Q : Int32 → TH → Prop} (C : Gd Y X cX0_beside 6 RX0 1) (R : Ri Y r X .int Q) (hD : DJ_Bay_beside_98 r l3 l4 h  Q) : G Y X 6 98 [(3, .int l3), (4, .int l4)] [] r h := by
  unfold DJ_Bay_beside_98 at hD
  refine g_wt (fun hw => ?_)
  refine g_iconst (pc := 98) (v := 0) (by decide) C dX0_beside_98 ?_
  refine g_sub [0, 1] rfl ?_
  exact WJ_Bay_beside_99 C R  hD
def DJ_Bay_beside_68 (r : TR) (l0 : Nat) (l3 : Int32) (l4 : Int32) (h : TH) (Q : Int32 → TH → Prop) : Prop :=
  ((l3 < 0 → DJ_Bay_beside_98 r l3 l4 h Q) ∧ (¬ l3 < 0 → (((h.1 l0 0) ≤ l3 → DJ_Bay_beside_98 r l3 l4 h Q) ∧ (¬ (h.1 l0 0) ≤ l3 → ((l4 < 0 → DJ_Bay_beside_98 r l3 l4 h Q) ∧ (¬ l4 < 0 → (((h.1 l0 1) ≤ l4 → DJ_Bay_beside_98 r l3 l4 h Q) ∧ (¬ (h.1 l0 1) ≤ l4 → DJ_Bay_beside_99 r l3 l4 1 h Q))))))))
set_option maxRecDepth 100000 in
set_option maxHeartbeats 4000000 in
theorem WJ_Bay_beside_68 {Y : CG} {X : CX} {r : TR} {l0 : Nat} {l3 : Int32} {l4 : Int32} {h : TH} {Q : Int32 → TH → Prop} (C : Gd Y X cX0_beside 6 RX0 1) (R : Ri Y r X .int Q) (t0 : TO Y l0 0) (hD : DJ_Bay_beside_68 r l0 l3 l4 h  Q) : G Y X 6 68 [(0, .ref l0), (3, .int l3), (4, .int l4)] [] r h := by
  unfold DJ_Bay_beside_68 at hD
  refine g_wt (fun hw => ?_)
  refine g_iload_n (pc := 68) rfl 1 rfl C dX0_beside_68 ?_
  refine g_if_lt (pc := 69) 98 C dX0_beside_69 (by decide) (fun c5 => ?_) (fun c5 => ?_)
  · have hD := hD.1 c5
    refine g_sub [1, 2] rfl ?_
    exact WJ_Bay_beside_98 C R  hD
  · have hD := hD.2 c5
    refine g_iload_n (pc := 72) rfl 1 rfl C dX0_beside_72 ?_
    refine g_aload_n (pc := 73) rfl 0 rfl C dX0_beside_73 ?_
    refine g_getI (pc := 74) C fl_RX0_9 t0 rfl dX0_beside_74 ?_
    refine g_icmp_ge (pc := 77) 98 C dX0_beside_77 (by decide) (fun c8 => ?_) (fun c8 => ?_)
    · have hD := hD.1 c8
      refine g_sub [1, 2] rfl ?_
      exact WJ_Bay_beside_98 C R  hD
    · have hD := hD.2 c8
      refine g_iload (pc := 80) 2 rfl C dX0_beside_80 ?_
      refine g_if_lt (pc := 82) 98 C dX0_beside_82 (by decide) (fun c9 => ?_) (fun c9 => ?_)
      · have hD := hD.1 c9
        refine g_sub [1, 2] rfl ?_
        exact WJ_Bay_beside_98 C R  hD
      · have hD := hD.2 c9
        refine g_iload (pc := 85) 2 rfl C dX0_beside_85 ?_
        refine g_aload_n (pc := 87) rfl 0 rfl C dX0_beside_87 ?_
        refine g_getI (pc := 88) C fl_RX0_15 t0 rfl dX0_beside_88 ?_
        refine g_icmp_ge (pc := 91) 98 C dX0_beside_91 (by decide) (fun c10 => ?_) (fun c10 => ?_)
        · have hD := hD.1 c10
          refine g_sub [1, 2] rfl ?_
          exact WJ_Bay_beside_98 C R  hD
        · have hD := hD.2 c10
          refine g_iconst (pc := 94) (v := 1) (by decide) C dX0_beside_94 ?_
          refine g_goto (pc := 95) 99 C dX0_beside_95 (by decide) ?_
          refine g_sub [1, 2] rfl ?_
          exact WJ_Bay_beside_99 C R  hD
def D_Bay_beside (r : TR) (o : Nat) (a1 : Int32) (a2 : Int32) (h : TH) (Q : Int32 → TH → Prop) : Prop :=
  ∀ x1 : Int32, x1 = jrem a1 8 → ∀ x2 : Int32, x2 = a1 / 8 → ((a2 = 1 → ∀ x4 : Int32, x4 = x1 + 1 → DJ_Bay_beside_68 r o x4 x2 h Q) ∧ (¬ a2 = 1 → ((a2 = 2 → ∀ x12 : Int32, x12 = x2 + 1 → DJ_Bay_beside_68 r o x1 x12 h Q) ∧ (¬ a2 = 2 → ((a2 = 3 → ∀ x14 : Int32, x14 = x1 + (-1) → DJ_Bay_beside_68 r o x14 x2 h Q) ∧ (¬ a2 = 3 → ((a2 = 4 → ∀ x16 : Int32, x16 = x2 + (-1) → DJ_Bay_beside_68 r o x1 x16 h Q) ∧ (¬ a2 = 4 → DJ_Bay_beside_68 r o x1 x2 h Q))))))))
set_option maxRecDepth 100000 in
set_option maxHeartbeats 4000000 in
theorem M_Bay_beside {Y : CG} {r : TR} {l : Launch} {o : Nat} {a1 : Int32} {a2 : Int32} {h : TH} {Q : Int32 → TH → Prop} (t0 : TO Y o 0) (hD : D_Bay_beside r o a1 a2 h Q) : Mi Y r l yX0_beside cX0_beside 6 .int 1 [.ref o, .int a1, .int a2] h Q := by
  unfold D_Bay_beside at hD
  refine Mi.of RX0 rfl (by decide) (by simp [lg_sl, Value.category]) [(0, .ref o), (1, .int a1), (2, .int a2)] rfl (fun X hXl C R => ?_)
  subst hXl
  refine g_wt (fun hw => ?_)
  refine g_iload_n (pc := 0) rfl 1 rfl C dX0_beside_0 ?_
  refine g_bipush (pc := 1) (v := 8) (by decide) C dX0_beside_1 ?_
  refine g_irem (pc := 3) (by decide) C dX0_beside_3 ?_
  refine g_istore_n (pc := 4) (fun x1 => [(3, .int x1), (0, .ref o), (1, .int a1), (2, .int a2)]) C dX0_beside_4 rfl (by decide) rfl (fun x1 ex1 => ?_)
  have hD := hD x1 ex1
  refine g_iload_n (pc := 5) rfl 2 rfl C dX0_beside_5 ?_
  refine g_bipush (pc := 6) (v := 8) (by decide) C dX0_beside_6 ?_
  refine g_idiv (pc := 8) (by decide) C dX0_beside_8 ?_
  refine g_istore (pc := 9) (fun x2 => [(4, .int x2), (3, .int x1), (0, .ref o), (1, .int a1), (2, .int a2)]) C dX0_beside_9 (by decide) rfl (fun x2 ex2 => ?_)
  have hD := hD x2 ex2
  refine g_iload_n (pc := 11) rfl 4 rfl C dX0_beside_11 ?_
  by_cases c3 : a2 = 1
  · have hD := hD.1 c3
    refine g_tswIn (pc := 12) 44 C dX0_beside_12 1 c3 (by decide) (by decide) rfl (by decide) ?_
    refine g_iinc (pc := 44) (q := 1) (c := 1) (fun x4 => [(3, .int x4), (4, .int x2), (0, .ref o), (1, .int a1), (2, .int a2)]) C dX0_beside_44 rfl (by decide) (by decide) rfl (fun x4 ex4 => ?_)
    have hD := hD x4 ex4
    refine g_goto (pc := 47) 68 C dX0_beside_47 (by decide) ?_
    refine g_sub [2, 0, 1] rfl ?_
    exact WJ_Bay_beside_68 C R t0 hD
  have hD := hD.2 c3
  by_cases c11 : a2 = 2
  · have hD := hD.1 c11
    refine g_tswIn (pc := 12) 50 C dX0_beside_12 2 c11 (by decide) (by decide) rfl (by decide) ?_
    refine g_iinc (pc := 50) (q := 0) (c := 1) (fun x12 => [(4, .int x12), (3, .int x1), (0, .ref o), (1, .int a1), (2, .int a2)]) C dX0_beside_50 rfl (by decide) (by decide) rfl (fun x12 ex12 => ?_)
    have hD := hD x12 ex12
    refine g_goto (pc := 53) 68 C dX0_beside_53 (by decide) ?_
    refine g_sub [2, 1, 0] rfl ?_
    exact WJ_Bay_beside_68 C R t0 hD
  have hD := hD.2 c11
  by_cases c13 : a2 = 3
  · have hD := hD.1 c13
    refine g_tswIn (pc := 12) 56 C dX0_beside_12 3 c13 (by decide) (by decide) rfl (by decide) ?_
    refine g_iinc (pc := 56) (q := 1) (c := (-1)) (fun x14 => [(3, .int x14), (4, .int x2), (0, .ref o), (1, .int a1), (2, .int a2)]) C dX0_beside_56 rfl (by decide) (by decide) rfl (fun x14 ex14 => ?_)
    have hD := hD x14 ex14
    refine g_goto (pc := 59) 68 C dX0_beside_59 (by decide) ?_
    refine g_sub [2, 0, 1] rfl ?_
    exact WJ_Bay_beside_68 C R t0 hD
  have hD := hD.2 c13
  by_cases c15 : a2 = 4
  · have hD := hD.1 c15
    refine g_tswIn (pc := 12) 62 C dX0_beside_12 4 c15 (by decide) (by decide) rfl (by decide) ?_
    refine g_iinc (pc := 62) (q := 0) (c := (-1)) (fun x16 => [(4, .int x16), (3, .int x1), (0, .ref o), (1, .int a1), (2, .int a2)]) C dX0_beside_62 rfl (by decide) (by decide) rfl (fun x16 ex16 => ?_)
    have hD := hD x16 ex16
    refine g_goto (pc := 65) 68 C dX0_beside_65 (by decide) ?_
    refine g_sub [2, 1, 0] rfl ?_
    exact WJ_Bay_beside_68 C R t0 hD
  have hD := hD.2 c15
  have nc3 : ¬ (a2).toInt = 1 := tsw_ne c3
  have nc11 : ¬ (a2).toInt = 2 := tsw_ne c11
  have nc13 : ¬ (a2).toInt = 3 := tsw_ne c13
  have nc15 : ¬ (a2).toInt = 4 := tsw_ne c15
  refine g_tswOut (pc := 12) 68 C dX0_beside_12 (by omega) (by decide) ?_
  refine g_sub [2, 1, 0] rfl ?_
  exact WJ_Bay_beside_68 C R t0 hD
def D_Bay_downwind (r : TR) (o : Nat) (a1 : Int32) (a2 : Int32) (h : TH) (Q : Int32 → TH → Prop) : Prop :=
  D_Bay_beside r o a1 a2 h (fun x2 h1 => ((x2 = (-1) → Q x2 h1) ∧ (¬ x2 = (-1) → vp_in x2 40 ∧ ((¬ (h1.1 (r o 5) x2.toNatClampNeg) = 1 → Q x2 h1) ∧ ((h1.1 (r o 5) x2.toNatClampNeg) = 1 → Q (-1) h1)))))
set_option maxRecDepth 100000 in
set_option maxHeartbeats 4000000 in
theorem M_Bay_downwind {Y : CG} {r : TR} {l : Launch} {o : Nat} {a1 : Int32} {a2 : Int32} {h : TH} {Q : Int32 → TH → Prop} (t0 : TO Y o 0) (hD : D_Bay_downwind r o a1 a2 h Q) : Mi Y r l yX0_downwind cX0_downwind 4 .int 2 [.ref o, .int a1, .int a2] h Q := by
  unfold D_Bay_downwind at hD
  refine Mi.of RX0 rfl (by decide) (by simp [lg_sl, Value.category]) [(0, .ref o), (1, .int a1), (2, .int a2)] rfl (fun X hXl C R => ?_)
  subst hXl
  refine g_wt (fun hw => ?_)
  refine g_aload_n (pc := 0) rfl 0 rfl C dX0_downwind_0 ?_
  refine g_iload_n (pc := 1) rfl 1 rfl C dX0_downwind_1 ?_
  refine g_iload_n (pc := 2) rfl 2 rfl C dX0_downwind_2 ?_
  refine g_callVi (pc := 3) (As := [.int a1, .int a2]) C mv_RX0_100 (M_Bay_beside t0 hD) t0 (by decide) rfl rfl (Nat.le_of_ble_eq_true rfl) dX0_downwind_3 (fun x2 h1 hD => ?_)
  refine g_istore_n (pc := 6) (fun _ => [(3, .int x2), (0, .ref o), (1, .int a1), (2, .int a2)]) C dX0_downwind_6 rfl (by decide) rfl (fun _ _ => ?_)
  refine g_iload_n (pc := 7) rfl 0 rfl C dX0_downwind_7 ?_
  refine g_iconst (pc := 8) (v := (-1)) (by decide) C dX0_downwind_8 ?_
  refine g_icmp_eq (pc := 9) 26 C dX0_downwind_9 (by decide) (fun c4 => ?_) (fun c4 => ?_)
  · have hD := hD.1 c4
    refine g_iload_n (pc := 26) rfl 0 rfl C dX0_downwind_26 ?_
    exact g_iret (pc := 27) C R dX0_downwind_27 hD
  · have hD := hD.2 c4
    refine g_aload_n (pc := 12) rfl 1 rfl C dX0_downwind_12 ?_
    have u5 : TA Y (r o 5) 10 40 := wt_a hw t0 (by decide) (by decide) rfl
    refine g_getR (pc := 13) C fl_RX0_27 t0 rfl dX0_downwind_13 ?_
    refine g_iload_n (pc := 16) rfl 0 rfl C dX0_downwind_16 ?_
    obtain ⟨hb, hD⟩ := hD
    refine g_iald (pc := 17) C u5 hb dX0_downwind_17 ?_
    refine g_iconst (pc := 18) (v := 1) (by decide) C dX0_downwind_18 ?_
    refine g_icmp_ne (pc := 19) 26 C dX0_downwind_19 (by decide) (fun c6 => ?_) (fun c6 => ?_)
    · have hD := hD.1 c6
      refine g_iload_n (pc := 26) rfl 0 rfl C dX0_downwind_26 ?_
      exact g_iret (pc := 27) C R dX0_downwind_27 hD
    · have hD := hD.2 c6
      refine g_iconst (pc := 22) (v := (-1)) (by decide) C dX0_downwind_22 ?_
      refine g_goto (pc := 23) 27 C dX0_downwind_23 (by decide) ?_
      exact g_iret (pc := 27) C R dX0_downwind_27 hD
def DJ_Law_value_101 (r : TR) (l0 : Nat) (l1 : Int32) (l2 : Int32) (l3 : Int32) (l4 : Int32) (h : TH) (K33 : Int32 → Int32 → TH → Prop) (K241 : TH → Prop) (Q : Int32 → TH → Prop) : Prop :=
  ((l4 < 10100 → ∀ x14 : Int32, x14 = l3 + 1 → K33 l2 x14 h) ∧ (¬ l4 < 10100 → ((l2 < 2 → ∀ x16 : Int32, x16 = l3 + 1 → K33 l2 x16 h) ∧ (¬ l2 < 2 → ∀ x17 : Int32, x17 = l2 + (-1) → ∀ i19 : Int32, i19 = x17 - 1 → vp_in i19 32 ∧ ∀ x20 : Int32, x20 = h.1 (r l0 3) i19.toNatClampNeg → vp_in x17 32 ∧ ∀ x22 : Int32, x22 = h.1 (r l0 3) x17.toNatClampNeg → ((¬ l4 = 10100 → ((¬ l4 = 10101 → ((¬ l4 = 10102 → ((x22 = 0 → ∀ h27, h27 = pI h l0 6 1 → Q 0 h27) ∧ (¬ x22 = 0 → ¬ x22 = 0 ∧ vp_in (x17 - 1) 32 ∧ ∀ h29, h29 = pI h (r l0 3) ((x17 - 1).toNatClampNeg) (x20 / x22) → ∀ x30 : Int32, x30 = l3 + 1 → K33 x17 x30 h29))) ∧ (l4 = 10102 → vp_in (x17 - 1) 32 ∧ ∀ h32, h32 = pI h (r l0 3) ((x17 - 1).toNatClampNeg) (x20 * x22) → ∀ x33 : Int32, x33 = l3 + 1 → K33 x17 x33 h32))) ∧ (l4 = 10101 → vp_in (x17 - 1) 32 ∧ ∀ h35, h35 = pI h (r l0 3) ((x17 - 1).toNatClampNeg) (x20 - x22) → ∀ x36 : Int32, x36 = l3 + 1 → K33 x17 x36 h35))) ∧ (l4 = 10100 → vp_in (x17 - 1) 32 ∧ ∀ h38, h38 = pI h (r l0 3) ((x17 - 1).toNatClampNeg) (x20 + x22) → ∀ x39 : Int32, x39 = l3 + 1 → K33 x17 x39 h38))))))
set_option maxRecDepth 100000 in
set_option maxHeartbeats 4000000 in
theorem WJ_Law_value_101 {Y : CG} {X : CX} {r : TR} {l0 : Nat} {l1 : Int32} {l2 : Int32} {l3 : Int32} {l4 : Int32} {h : TH} {K33 : Int32 → Int32 → TH → Prop} {K241 : TH → Prop} {Q : Int32 → TH → Prop} (C : Gd Y X cX1_value 7 RX1 1) (R : Ri Y r X .int Q) (t0 : TO Y l0 1) (hK33 : ∀ (k2 : Int32) (k3 : Int32) (hh : TH), K33 k2 k3 hh → G Y X 7 33 [(0, .ref l0), (1, .int l1), (2, .int k2), (3, .int k3)] [] r hh) (hK241 : ∀ (hh : TH), K241 hh → G Y X 7 241 [(0, .ref l0)] [] r hh) (hD : DJ_Law_value_101 r l0 l1 l2 l3 l4 h K33 K241 Q) : G Y X 7 101 [(0, .ref l0), (1, .int l1), (2, .int l2), (3, .int l3), (4, .int l4)] [] r h := by
  unfold DJ_Law_value_101 at hD
  refine g_wt (fun hw => ?_)
  refine g_iload (pc := 101) 4 rfl C dX1_value_101 ?_
  refine g_sipush (pc := 103) (v := 10100) (by decide) C dX1_value_103 ?_
  refine g_icmp_lt (pc := 106) 235 C dX1_value_106 (by decide) (fun c13 => ?_) (fun c13 => ?_)
  · have hD := hD.1 c13
    refine g_iinc (pc := 235) (q := 3) (c := 1) (fun x14 => [(3, .int x14), (0, .ref l0), (1, .int l1), (2, .int l2), (4, .int l4)]) C dX1_value_235 rfl (by decide) (by decide) rfl (fun x14 ex14 => ?_)
    have hD := hD x14 ex14
    refine g_goto (pc := 238) 33 C dX1_value_238 (by decide) ?_
    refine g_sub [1, 2, 3, 0] rfl ?_
    exact hK33 l2 x14 h hD
  · have hD := hD.2 c13
    refine g_iload_n (pc := 109) rfl 2 rfl C dX1_value_109 ?_
    refine g_iconst (pc := 110) (v := 2) (by decide) C dX1_value_110 ?_
    refine g_icmp_lt (pc := 111) 235 C dX1_value_111 (by decide) (fun c15 => ?_) (fun c15 => ?_)
    · have hD := hD.1 c15
      refine g_iinc (pc := 235) (q := 3) (c := 1) (fun x16 => [(3, .int x16), (0, .ref l0), (1, .int l1), (2, .int l2), (4, .int l4)]) C dX1_value_235 rfl (by decide) (by decide) rfl (fun x16 ex16 => ?_)
      have hD := hD x16 ex16
      refine g_goto (pc := 238) 33 C dX1_value_238 (by decide) ?_
      refine g_sub [1, 2, 3, 0] rfl ?_
      exact hK33 l2 x16 h hD
    · have hD := hD.2 c15
      refine g_iinc (pc := 114) (q := 2) (c := (-1)) (fun x17 => [(2, .int x17), (0, .ref l0), (1, .int l1), (3, .int l3), (4, .int l4)]) C dX1_value_114 rfl (by decide) (by decide) rfl (fun x17 ex17 => ?_)
      have hD := hD x17 ex17
      refine g_aload_n (pc := 117) rfl 1 rfl C dX1_value_117 ?_
      have u18 : TA Y (r l0 3) 10 32 := wt_a hw t0 (by decide) (by decide) rfl
      refine g_getR (pc := 118) C fl_RX1_21 t0 rfl dX1_value_118 ?_
      refine g_iload_n (pc := 121) rfl 0 rfl C dX1_value_121 ?_
      refine g_iconst (pc := 122) (v := 1) (by decide) C dX1_value_122 ?_
      refine g_isub (pc := 123) C dX1_value_123 ?_
      refine g_topi (fun i19 ei19 => ?_)
      have hD := hD i19 ei19
      obtain ⟨hb, hD⟩ := hD
      refine g_iald (pc := 124) C u18 hb dX1_value_124 ?_
      refine g_istore (pc := 125) (fun x20 => [(5, .int x20), (2, .int x17), (0, .ref l0), (1, .int l1), (3, .int l3), (4, .int l4)]) C dX1_value_125 (by decide) rfl (fun x20 ex20 => ?_)
      have hD := hD x20 ex20
      refine g_aload_n (pc := 127) rfl 2 rfl C dX1_value_127 ?_
      have u21 : TA Y (r l0 3) 10 32 := wt_a hw t0 (by decide) (by decide) rfl
      refine g_getR (pc := 128) C fl_RX1_21 t0 rfl dX1_value_128 ?_
      refine g_iload_n (pc := 131) rfl 1 rfl C dX1_value_131 ?_
      obtain ⟨hb, hD⟩ := hD
      refine g_iald (pc := 132) C u21 hb dX1_value_132 ?_
      refine g_istore (pc := 133) (fun x22 => [(6, .int x22), (5, .int x20), (2, .int x17), (0, .ref l0), (1, .int l1), (3, .int l3), (4, .int l4)]) C dX1_value_133 (by decide) rfl (fun x22 ex22 => ?_)
      have hD := hD x22 ex22
      refine g_iload (pc := 135) 6 rfl C dX1_value_135 ?_
      refine g_sipush (pc := 137) (v := 10100) (by decide) C dX1_value_137 ?_
      refine g_icmp_ne (pc := 140) 159 C dX1_value_140 (by decide) (fun c23 => ?_) (fun c23 => ?_)
      · have hD := hD.1 c23
        refine g_iload (pc := 159) 6 rfl C dX1_value_159 ?_
        refine g_sipush (pc := 161) (v := 10101) (by decide) C dX1_value_161 ?_
        refine g_icmp_ne (pc := 164) 183 C dX1_value_164 (by decide) (fun c24 => ?_) (fun c24 => ?_)
        · have hD := hD.1 c24
          refine g_iload (pc := 183) 6 rfl C dX1_value_183 ?_
          refine g_sipush (pc := 185) (v := 10102) (by decide) C dX1_value_185 ?_
          refine g_icmp_ne (pc := 188) 207 C dX1_value_188 (by decide) (fun c25 => ?_) (fun c25 => ?_)
          · have hD := hD.1 c25
            refine g_iload (pc := 207) 0 rfl C dX1_value_207 ?_
            refine g_if_eq (pc := 209) 228 C dX1_value_209 (by decide) (fun c26 => ?_) (fun c26 => ?_)
            · have hD := hD.1 c26
              refine g_aload_n (pc := 228) rfl 3 rfl C dX1_value_228 ?_
              refine g_iconst (pc := 229) (v := 1) (by decide) C dX1_value_229 ?_
              refine g_putI (pc := 230) C fl_RX1_31 t0 rfl (by decide) (by decide) dX1_value_230 (fun h27 eh27 => ?_)
              have hD := hD h27 eh27
              refine g_iconst (pc := 233) (v := 0) (by decide) C dX1_value_233 ?_
              exact g_iret (pc := 234) C R dX1_value_234 hD
            · have hD := hD.2 c26
              refine g_aload_n (pc := 212) rfl 3 rfl C dX1_value_212 ?_
              have u28 : TA Y (r l0 3) 10 32 := wt_a hw t0 (by decide) (by decide) rfl
              refine g_getR (pc := 213) C fl_RX1_21 t0 rfl dX1_value_213 ?_
              refine g_iload_n (pc := 216) rfl 2 rfl C dX1_value_216 ?_
              refine g_iconst (pc := 217) (v := 1) (by decide) C dX1_value_217 ?_
              refine g_isub (pc := 218) C dX1_value_218 ?_
              refine g_iload (pc := 219) 1 rfl C dX1_value_219 ?_
              refine g_iload (pc := 221) 0 rfl C dX1_value_221 ?_
              obtain ⟨hz, hD⟩ := hD
              refine g_idiv (pc := 223) hz C dX1_value_223 ?_
              obtain ⟨hb, hD⟩ := hD
              refine g_iast (pc := 224) C u28 hb dX1_value_224 (fun h29 eh29 => ?_)
              have hD := hD h29 eh29
              refine g_goto (pc := 225) 235 C dX1_value_225 (by decide) ?_
              refine g_iinc (pc := 235) (q := 5) (c := 1) (fun x30 => [(3, .int x30), (6, .int x22), (5, .int x20), (2, .int x17), (0, .ref l0), (1, .int l1), (4, .int l4)]) C dX1_value_235 rfl (by decide) (by decide) rfl (fun x30 ex30 => ?_)
              have hD := hD x30 ex30
              refine g_goto (pc := 238) 33 C dX1_value_238 (by decide) ?_
              refine g_sub [4, 5, 3, 0] rfl ?_
              exact hK33 x17 x30 h29 hD
          · have hD := hD.2 c25
            refine g_aload_n (pc := 191) rfl 3 rfl C dX1_value_191 ?_
            have u31 : TA Y (r l0 3) 10 32 := wt_a hw t0 (by decide) (by decide) rfl
            refine g_getR (pc := 192) C fl_RX1_21 t0 rfl dX1_value_192 ?_
            refine g_iload_n (pc := 195) rfl 2 rfl C dX1_value_195 ?_
            refine g_iconst (pc := 196) (v := 1) (by decide) C dX1_value_196 ?_
            refine g_isub (pc := 197) C dX1_value_197 ?_
            refine g_iload (pc := 198) 1 rfl C dX1_value_198 ?_
            refine g_iload (pc := 200) 0 rfl C dX1_value_200 ?_
            refine g_imul (pc := 202) C dX1_value_202 ?_
            obtain ⟨hb, hD⟩ := hD
            refine g_iast (pc := 203) C u31 hb dX1_value_203 (fun h32 eh32 => ?_)
            have hD := hD h32 eh32
            refine g_goto (pc := 204) 235 C dX1_value_204 (by decide) ?_
            refine g_iinc (pc := 235) (q := 5) (c := 1) (fun x33 => [(3, .int x33), (6, .int x22), (5, .int x20), (2, .int x17), (0, .ref l0), (1, .int l1), (4, .int l4)]) C dX1_value_235 rfl (by decide) (by decide) rfl (fun x33 ex33 => ?_)
            have hD := hD x33 ex33
            refine g_goto (pc := 238) 33 C dX1_value_238 (by decide) ?_
            refine g_sub [4, 5, 3, 0] rfl ?_
            exact hK33 x17 x33 h32 hD
        · have hD := hD.2 c24
          refine g_aload_n (pc := 167) rfl 3 rfl C dX1_value_167 ?_
          have u34 : TA Y (r l0 3) 10 32 := wt_a hw t0 (by decide) (by decide) rfl
          refine g_getR (pc := 168) C fl_RX1_21 t0 rfl dX1_value_168 ?_
          refine g_iload_n (pc := 171) rfl 2 rfl C dX1_value_171 ?_
          refine g_iconst (pc := 172) (v := 1) (by decide) C dX1_value_172 ?_
          refine g_isub (pc := 173) C dX1_value_173 ?_
          refine g_iload (pc := 174) 1 rfl C dX1_value_174 ?_
          refine g_iload (pc := 176) 0 rfl C dX1_value_176 ?_
          refine g_isub (pc := 178) C dX1_value_178 ?_
          obtain ⟨hb, hD⟩ := hD
          refine g_iast (pc := 179) C u34 hb dX1_value_179 (fun h35 eh35 => ?_)
          have hD := hD h35 eh35
          refine g_goto (pc := 180) 235 C dX1_value_180 (by decide) ?_
          refine g_iinc (pc := 235) (q := 5) (c := 1) (fun x36 => [(3, .int x36), (6, .int x22), (5, .int x20), (2, .int x17), (0, .ref l0), (1, .int l1), (4, .int l4)]) C dX1_value_235 rfl (by decide) (by decide) rfl (fun x36 ex36 => ?_)
          have hD := hD x36 ex36
          refine g_goto (pc := 238) 33 C dX1_value_238 (by decide) ?_
          refine g_sub [4, 5, 3, 0] rfl ?_
          exact hK33 x17 x36 h35 hD
      · have hD := hD.2 c23
        refine g_aload_n (pc := 143) rfl 3 rfl C dX1_value_143 ?_
        have u37 : TA Y (r l0 3) 10 32 := wt_a hw t0 (by decide) (by decide) rfl
        refine g_getR (pc := 144) C fl_RX1_21 t0 rfl dX1_value_144 ?_
        refine g_iload_n (pc := 147) rfl 2 rfl C dX1_value_147 ?_
        refine g_iconst (pc := 148) (v := 1) (by decide) C dX1_value_148 ?_
        refine g_isub (pc := 149) C dX1_value_149 ?_
        refine g_iload (pc := 150) 1 rfl C dX1_value_150 ?_
        refine g_iload (pc := 152) 0 rfl C dX1_value_152 ?_
        refine g_iadd (pc := 154) C dX1_value_154 ?_
        obtain ⟨hb, hD⟩ := hD
        refine g_iast (pc := 155) C u37 hb dX1_value_155 (fun h38 eh38 => ?_)
        have hD := hD h38 eh38
        refine g_goto (pc := 156) 235 C dX1_value_156 (by decide) ?_
        refine g_iinc (pc := 235) (q := 5) (c := 1) (fun x39 => [(3, .int x39), (6, .int x22), (5, .int x20), (2, .int x17), (0, .ref l0), (1, .int l1), (4, .int l4)]) C dX1_value_235 rfl (by decide) (by decide) rfl (fun x39 ex39 => ?_)
        have hD := hD x39 ex39
        refine g_goto (pc := 238) 33 C dX1_value_238 (by decide) ?_
        refine g_sub [4, 5, 3, 0] rfl ?_
        exact hK33 x17 x39 h38 hD
def DB_Law_value_33 (r : TR) (l0 : Nat) (l1 : Int32) (l2 : Int32) (l3 : Int32) (h : TH) (K33 : Int32 → Int32 → TH → Prop) (K241 : TH → Prop) (Q : Int32 → TH → Prop) : Prop :=
  vp_in l1 13 ∧ (((h.1 (r l0 2) l1.toNatClampNeg) ≤ l3 → K241 h) ∧ (¬ (h.1 (r l0 2) l1.toNatClampNeg) ≤ l3 → vp_in l3 400 ∧ ∀ x11 : Int32, x11 = h.1 (r l0 1) l3.toNatClampNeg → ((10100 ≤ x11 → DJ_Law_value_101 r l0 l1 l2 l3 x11 h (K33) (K241) Q) ∧ (¬ 10100 ≤ x11 → ((32 ≤ l2 → DJ_Law_value_101 r l0 l1 l2 l3 x11 h (K33) (K241) Q) ∧ (¬ 32 ≤ l2 → ((10000 ≤ x11 → ∀ i44 : Int32, i44 = x11 - 10000 → vp_in i44 9 ∧ vp_in l2 32 ∧ ∀ h45, h45 = pI h (r l0 3) l2.toNatClampNeg (h.1 (r l0 0) i44.toNatClampNeg) → ∀ x46 : Int32, x46 = l2 + 1 → ∀ x47 : Int32, x47 = l3 + 1 → K33 x46 x47 h45) ∧ (¬ 10000 ≤ x11 → vp_in l2 32 ∧ ∀ h48, h48 = pI h (r l0 3) l2.toNatClampNeg x11 → ∀ x49 : Int32, x49 = l2 + 1 → ∀ x50 : Int32, x50 = l3 + 1 → K33 x49 x50 h48))))))))
set_option maxRecDepth 100000 in
set_option maxHeartbeats 4000000 in
theorem WB_Law_value_33 {Y : CG} {X : CX} {r : TR} {l0 : Nat} {l1 : Int32} {l2 : Int32} {l3 : Int32} {h : TH} {K33 : Int32 → Int32 → TH → Prop} {K241 : TH → Prop} {Q : Int32 → TH → Prop} (C : Gd Y X cX1_value 7 RX1 1) (R : Ri Y r X .int Q) (t0 : TO Y l0 1) (hK33 : ∀ (k2 : Int32) (k3 : Int32) (hh : TH), K33 k2 k3 hh → G Y X 7 33 [(0, .ref l0), (1, .int l1), (2, .int k2), (3, .int k3)] [] r hh) (hK241 : ∀ (hh : TH), K241 hh → G Y X 7 241 [(0, .ref l0)] [] r hh) (hD : DB_Law_value_33 r l0 l1 l2 l3 h K33 K241 Q) : G Y X 7 33 [(0, .ref l0), (1, .int l1), (2, .int l2), (3, .int l3)] [] r h := by
  unfold DB_Law_value_33 at hD
  refine g_wt (fun hw => ?_)
  refine g_iload_n (pc := 33) rfl 3 rfl C dX1_value_33 ?_
  refine g_aload_n (pc := 34) rfl 0 rfl C dX1_value_34 ?_
  have u8 : TA Y (r l0 2) 10 13 := wt_a hw t0 (by decide) (by decide) rfl
  refine g_getR (pc := 35) C fl_RX1_18 t0 rfl dX1_value_35 ?_
  refine g_iload_n (pc := 38) rfl 1 rfl C dX1_value_38 ?_
  obtain ⟨hb, hD⟩ := hD
  refine g_iald (pc := 39) C u8 hb dX1_value_39 ?_
  refine g_icmp_ge (pc := 40) 241 C dX1_value_40 (by decide) (fun c9 => ?_) (fun c9 => ?_)
  · have hD := hD.1 c9
    refine g_sub [0] rfl ?_
    exact hK241 h hD
  · have hD := hD.2 c9
    refine g_aload_n (pc := 43) rfl 0 rfl C dX1_value_43 ?_
    have u10 : TA Y (r l0 1) 10 400 := wt_a hw t0 (by decide) (by decide) rfl
    refine g_getR (pc := 44) C fl_RX1_15 t0 rfl dX1_value_44 ?_
    refine g_iload_n (pc := 47) rfl 3 rfl C dX1_value_47 ?_
    obtain ⟨hb, hD⟩ := hD
    refine g_iald (pc := 48) C u10 hb dX1_value_48 ?_
    refine g_istore (pc := 49) (fun x11 => [(4, .int x11), (0, .ref l0), (1, .int l1), (2, .int l2), (3, .int l3)]) C dX1_value_49 (by decide) rfl (fun x11 ex11 => ?_)
    have hD := hD x11 ex11
    refine g_iload (pc := 51) 0 rfl C dX1_value_51 ?_
    refine g_sipush (pc := 53) (v := 10100) (by decide) C dX1_value_53 ?_
    refine g_icmp_ge (pc := 56) 101 C dX1_value_56 (by decide) (fun c12 => ?_) (fun c12 => ?_)
    · have hD := hD.1 c12
      refine g_sub [1, 2, 3, 4, 0] rfl ?_
      exact WJ_Law_value_101 C R t0 (hK33) (hK241) hD
    · have hD := hD.2 c12
      refine g_iload_n (pc := 59) rfl 3 rfl C dX1_value_59 ?_
      refine g_bipush (pc := 60) (v := 32) (by decide) C dX1_value_60 ?_
      refine g_icmp_ge (pc := 62) 101 C dX1_value_62 (by decide) (fun c40 => ?_) (fun c40 => ?_)
      · have hD := hD.1 c40
        refine g_sub [1, 2, 3, 4, 0] rfl ?_
        exact WJ_Law_value_101 C R t0 (hK33) (hK241) hD
      · have hD := hD.2 c40
        refine g_aload_n (pc := 65) rfl 1 rfl C dX1_value_65 ?_
        have u41 : TA Y (r l0 3) 10 32 := wt_a hw t0 (by decide) (by decide) rfl
        refine g_getR (pc := 66) C fl_RX1_21 t0 rfl dX1_value_66 ?_
        refine g_iload_n (pc := 69) rfl 3 rfl C dX1_value_69 ?_
        refine g_iload (pc := 70) 0 rfl C dX1_value_70 ?_
        refine g_sipush (pc := 72) (v := 10000) (by decide) C dX1_value_72 ?_
        refine g_icmp_ge (pc := 75) 83 C dX1_value_75 (by decide) (fun c42 => ?_) (fun c42 => ?_)
        · have hD := hD.1 c42
          refine g_aload_n (pc := 83) rfl 1 rfl C dX1_value_83 ?_
          have u43 : TA Y (r l0 0) 10 9 := wt_a hw t0 (by decide) (by decide) rfl
          refine g_getR (pc := 84) C fl_RX1_9 t0 rfl dX1_value_84 ?_
          refine g_iload (pc := 87) 0 rfl C dX1_value_87 ?_
          refine g_sipush (pc := 89) (v := 10000) (by decide) C dX1_value_89 ?_
          refine g_isub (pc := 92) C dX1_value_92 ?_
          refine g_topi (fun i44 ei44 => ?_)
          have hD := hD i44 ei44
          obtain ⟨hb, hD⟩ := hD
          refine g_iald (pc := 93) C u43 hb dX1_value_93 ?_
          obtain ⟨hb, hD⟩ := hD
          refine g_iast (pc := 94) C u41 hb dX1_value_94 (fun h45 eh45 => ?_)
          have hD := hD h45 eh45
          refine g_iinc (pc := 95) (q := 3) (c := 1) (fun x46 => [(2, .int x46), (4, .int x11), (0, .ref l0), (1, .int l1), (3, .int l3)]) C dX1_value_95 rfl (by decide) (by decide) rfl (fun x46 ex46 => ?_)
          have hD := hD x46 ex46
          refine g_goto (pc := 98) 235 C dX1_value_98 (by decide) ?_
          refine g_iinc (pc := 235) (q := 4) (c := 1) (fun x47 => [(3, .int x47), (2, .int x46), (4, .int x11), (0, .ref l0), (1, .int l1)]) C dX1_value_235 rfl (by decide) (by decide) rfl (fun x47 ex47 => ?_)
          have hD := hD x47 ex47
          refine g_goto (pc := 238) 33 C dX1_value_238 (by decide) ?_
          refine g_sub [3, 4, 1, 0] rfl ?_
          exact hK33 x46 x47 h45 hD
        · have hD := hD.2 c42
          refine g_iload (pc := 78) 0 rfl C dX1_value_78 ?_
          refine g_goto (pc := 80) 94 C dX1_value_80 (by decide) ?_
          obtain ⟨hb, hD⟩ := hD
          refine g_iast (pc := 94) C u41 hb dX1_value_94 (fun h48 eh48 => ?_)
          have hD := hD h48 eh48
          refine g_iinc (pc := 95) (q := 3) (c := 1) (fun x49 => [(2, .int x49), (4, .int x11), (0, .ref l0), (1, .int l1), (3, .int l3)]) C dX1_value_95 rfl (by decide) (by decide) rfl (fun x49 ex49 => ?_)
          have hD := hD x49 ex49
          refine g_goto (pc := 98) 235 C dX1_value_98 (by decide) ?_
          refine g_iinc (pc := 235) (q := 4) (c := 1) (fun x50 => [(3, .int x50), (2, .int x49), (4, .int x11), (0, .ref l0), (1, .int l1)]) C dX1_value_235 rfl (by decide) (by decide) rfl (fun x50 ex50 => ?_)
          have hD := hD x50 ex50
          refine g_goto (pc := 238) 33 C dX1_value_238 (by decide) ?_
          refine g_sub [3, 4, 1, 0] rfl ?_
          exact hK33 x49 x50 h48 hD
def D_Law_value (r : TR) (o : Nat) (a1 : Int32) (h : TH) (Q : Int32 → TH → Prop) : Prop :=
  ((a1 < 0 → Q 0 h) ∧ (¬ a1 < 0 → ((a1 < (h.1 o 5) → ((¬ a1 = 0 → ∀ i6 : Int32, i6 = a1 - 1 → vp_in i6 13 ∧ ∀ x7 : Int32, x7 = h.1 (r o 2) i6.toNatClampNeg → ∃ n, lp (fun (K : Int32 × Int32 × TH → Prop) (s : Int32 × Int32 × TH) => DB_Law_value_33 r o a1 s.1 s.2.1 s.2.2 (fun y51 y52 h53 => K (y51, y52, h53)) (fun h54 => Q (h54.1 (r o 3) ((0 : Int32).toNatClampNeg)) h54) Q) n (0, x7, h)) ∧ (a1 = 0 → ∃ n, lp (fun (K : Int32 × Int32 × TH → Prop) (s : Int32 × Int32 × TH) => DB_Law_value_33 r o a1 s.1 s.2.1 s.2.2 (fun y57 y58 h59 => K (y57, y58, h59)) (fun h60 => Q (h60.1 (r o 3) ((0 : Int32).toNatClampNeg)) h60) Q) n (0, 0, h)))) ∧ (¬ a1 < (h.1 o 5) → Q 0 h))))
set_option maxRecDepth 100000 in
set_option maxHeartbeats 4000000 in
theorem M_Law_value {Y : CG} {r : TR} {l : Launch} {o : Nat} {a1 : Int32} {h : TH} {Q : Int32 → TH → Prop} (t0 : TO Y o 1) (hD : D_Law_value r o a1 h Q) : Mi Y r l yX1_value cX1_value 7 .int 1 [.ref o, .int a1] h Q := by
  unfold D_Law_value at hD
  refine Mi.of RX1 rfl (by decide) (by simp [lg_sl, Value.category]) [(0, .ref o), (1, .int a1)] rfl (fun X hXl C R => ?_)
  subst hXl
  refine g_wt (fun hw => ?_)
  refine g_iload_n (pc := 0) rfl 1 rfl C dX1_value_0 ?_
  refine g_if_lt (pc := 1) 12 C dX1_value_1 (by decide) (fun c1 => ?_) (fun c1 => ?_)
  · have hD := hD.1 c1
    refine g_iconst (pc := 12) (v := 0) (by decide) C dX1_value_12 ?_
    exact g_iret (pc := 13) C R dX1_value_13 hD
  · have hD := hD.2 c1
    refine g_iload_n (pc := 4) rfl 1 rfl C dX1_value_4 ?_
    refine g_aload_n (pc := 5) rfl 0 rfl C dX1_value_5 ?_
    refine g_getI (pc := 6) C fl_RX1_28 t0 rfl dX1_value_6 ?_
    refine g_icmp_lt (pc := 9) 14 C dX1_value_9 (by decide) (fun c2 => ?_) (fun c2 => ?_)
    · have hD := hD.1 c2
      refine g_iconst (pc := 14) (v := 0) (by decide) C dX1_value_14 ?_
      refine g_istore_n (pc := 15) (fun _ => [(2, .int 0), (0, .ref o), (1, .int a1)]) C dX1_value_15 rfl (by decide) rfl (fun _ _ => ?_)
      refine g_iload_n (pc := 16) rfl 2 rfl C dX1_value_16 ?_
      refine g_if_ne (pc := 17) 24 C dX1_value_17 (by decide) (fun c4 => ?_) (fun c4 => ?_)
      · have hD := hD.1 c4
        refine g_aload_n (pc := 24) rfl 1 rfl C dX1_value_24 ?_
        have u5 : TA Y (r o 2) 10 13 := wt_a hw t0 (by decide) (by decide) rfl
        refine g_getR (pc := 25) C fl_RX1_18 t0 rfl dX1_value_25 ?_
        refine g_iload_n (pc := 28) rfl 2 rfl C dX1_value_28 ?_
        refine g_iconst (pc := 29) (v := 1) (by decide) C dX1_value_29 ?_
        refine g_isub (pc := 30) C dX1_value_30 ?_
        refine g_topi (fun i6 ei6 => ?_)
        have hD := hD i6 ei6
        obtain ⟨hb, hD⟩ := hD
        refine g_iald (pc := 31) C u5 hb dX1_value_31 ?_
        refine g_istore_n (pc := 32) (fun x7 => [(3, .int x7), (2, .int 0), (0, .ref o), (1, .int a1)]) C dX1_value_32 rfl (by decide) rfl (fun x7 ex7 => ?_)
        have hD := hD x7 ex7
        obtain ⟨n, hD⟩ := hD
        refine g_sub [2, 3, 1, 0] rfl ?_
        refine lp_run (fun s : Int32 × Int32 × TH => G Y X 7 33 [(0, .ref o), (1, .int a1), (2, .int s.1), (3, .int s.2.1)] [] r s.2.2) (fun K s hB hK => ?_) n (0, x7, h) hD
        refine WB_Law_value_33 C R t0 (fun y51 y52 h53 hk => hK _ hk) (fun h54 hD => ?_) hB
        · refine g_aload_n (pc := 241) rfl 0 rfl C dX1_value_241 ?_
          have u55 : TA Y (r o 3) 10 32 := wt_a hw t0 (by decide) (by decide) rfl
          refine g_getR (pc := 242) C fl_RX1_21 t0 rfl dX1_value_242 ?_
          refine g_iconst (pc := 245) (v := 0) (by decide) C dX1_value_245 ?_
          refine g_iald (pc := 246) C u55 (by unfold vp_in; decide) dX1_value_246 ?_
          exact g_iret (pc := 247) C R dX1_value_247 hD
      · have hD := hD.2 c4
        refine g_iconst (pc := 20) (v := 0) (by decide) C dX1_value_20 ?_
        refine g_goto (pc := 21) 32 C dX1_value_21 (by decide) ?_
        refine g_istore_n (pc := 32) (fun _ => [(3, .int 0), (2, .int 0), (0, .ref o), (1, .int a1)]) C dX1_value_32 rfl (by decide) rfl (fun _ _ => ?_)
        obtain ⟨n, hD⟩ := hD
        refine g_sub [2, 3, 1, 0] rfl ?_
        refine lp_run (fun s : Int32 × Int32 × TH => G Y X 7 33 [(0, .ref o), (1, .int a1), (2, .int s.1), (3, .int s.2.1)] [] r s.2.2) (fun K s hB hK => ?_) n (0, 0, h) hD
        refine WB_Law_value_33 C R t0 (fun y57 y58 h59 hk => hK _ hk) (fun h60 hD => ?_) hB
        · refine g_aload_n (pc := 241) rfl 0 rfl C dX1_value_241 ?_
          have u61 : TA Y (r o 3) 10 32 := wt_a hw t0 (by decide) (by decide) rfl
          refine g_getR (pc := 242) C fl_RX1_21 t0 rfl dX1_value_242 ?_
          refine g_iconst (pc := 245) (v := 0) (by decide) C dX1_value_245 ?_
          refine g_iald (pc := 246) C u61 (by unfold vp_in; decide) dX1_value_246 ?_
          exact g_iret (pc := 247) C R dX1_value_247 hD
    · have hD := hD.2 c2
      refine g_iconst (pc := 12) (v := 0) (by decide) C dX1_value_12 ?_
      exact g_iret (pc := 13) C R dX1_value_13 hD
def D_Law_whole (r : TR) (o : Nat) (a1 : Int32) (h : TH) (Q : Int32 → TH → Prop) : Prop :=
  (((h.1 o 6) = 0 → Q a1 h) ∧ (¬ (h.1 o 6) = 0 → Q 0 h))
set_option maxRecDepth 100000 in
set_option maxHeartbeats 4000000 in
theorem M_Law_whole {Y : CG} {r : TR} {l : Launch} {o : Nat} {a1 : Int32} {h : TH} {Q : Int32 → TH → Prop} (t0 : TO Y o 1) (hD : D_Law_whole r o a1 h Q) : Mi Y r l yX1_whole cX1_whole 2 .int 1 [.ref o, .int a1] h Q := by
  unfold D_Law_whole at hD
  refine Mi.of RX1 rfl (by decide) (by simp [lg_sl, Value.category]) [(0, .ref o), (1, .int a1)] rfl (fun X hXl C R => ?_)
  subst hXl
  refine g_wt (fun hw => ?_)
  refine g_aload_n (pc := 0) rfl 0 rfl C dX1_whole_0 ?_
  refine g_getI (pc := 1) C fl_RX1_31 t0 rfl dX1_whole_1 ?_
  refine g_if_eq (pc := 4) 11 C dX1_whole_4 (by decide) (fun c1 => ?_) (fun c1 => ?_)
  · have hD := hD.1 c1
    refine g_iload_n (pc := 11) rfl 1 rfl C dX1_whole_11 ?_
    exact g_iret (pc := 12) C R dX1_whole_12 hD
  · have hD := hD.2 c1
    refine g_iconst (pc := 7) (v := 0) (by decide) C dX1_whole_7 ?_
    refine g_goto (pc := 8) 12 C dX1_whole_8 (by decide) ?_
    exact g_iret (pc := 12) C R dX1_whole_12 hD
def DB_Law_tells_14 (r : TR) (l0 : Nat) (l1 : Int32) (l2 : Int32) (h : TH) (K14 : Int32 → TH → Prop) (K69 : TH → Prop) (Q : Int32 → TH → Prop) : Prop :=
  ((l1 ≤ (l2 + 2) → K69 h) ∧ (¬ l1 ≤ (l2 + 2) → D_Law_value r l0 l2 h (fun x6 h5 => D_Law_value r l0 (l2 + 1) h5 (fun x9 h8 => (((h8.1 l0 6) = 0 → ((x9 ≤ x6 → ∀ x13 : Int32, x13 = l2 + 3 → K14 x13 h8) ∧ (¬ x9 ≤ x6 → D_Law_value r l0 (l2 + 2) h8 (fun x15 h14 => D_Law_whole r l0 x15 h14 (fun x17 h16 => Q x17 h16))))) ∧ (¬ (h8.1 l0 6) = 0 → Q 0 h8))))))
set_option maxRecDepth 100000 in
set_option maxHeartbeats 4000000 in
theorem WB_Law_tells_14 {Y : CG} {X : CX} {r : TR} {l0 : Nat} {l1 : Int32} {l2 : Int32} {h : TH} {K14 : Int32 → TH → Prop} {K69 : TH → Prop} {Q : Int32 → TH → Prop} (C : Gd Y X cX1_tells 5 RX1 2) (R : Ri Y r X .int Q) (t0 : TO Y l0 1) (hK14 : ∀ (k2 : Int32) (hh : TH), K14 k2 hh → G Y X 5 14 [(0, .ref l0), (1, .int l1), (2, .int k2)] [] r hh) (hK69 : ∀ (hh : TH), K69 hh → G Y X 5 69 [(0, .ref l0), (1, .int l1)] [] r hh) (hD : DB_Law_tells_14 r l0 l1 l2 h K14 K69 Q) : G Y X 5 14 [(0, .ref l0), (1, .int l1), (2, .int l2)] [] r h := by
  unfold DB_Law_tells_14 at hD
  refine g_wt (fun hw => ?_)
  refine g_iload_n (pc := 14) rfl 2 rfl C dX1_tells_14 ?_
  refine g_iconst (pc := 15) (v := 2) (by decide) C dX1_tells_15 ?_
  refine g_iadd (pc := 16) C dX1_tells_16 ?_
  refine g_iload_n (pc := 17) rfl 1 rfl C dX1_tells_17 ?_
  refine g_icmp_ge (pc := 18) 69 C dX1_tells_18 (by decide) (fun c4 => ?_) (fun c4 => ?_)
  · have hD := hD.1 c4
    refine g_sub [0, 1] rfl ?_
    exact hK69 h hD
  · have hD := hD.2 c4
    refine g_aload_n (pc := 21) rfl 0 rfl C dX1_tells_21 ?_
    refine g_iload_n (pc := 22) rfl 2 rfl C dX1_tells_22 ?_
    refine g_callVi (pc := 23) (As := [.int l2]) C mv_RX1_45 (M_Law_value t0 hD) t0 (by decide) rfl rfl (Nat.le_of_ble_eq_true rfl) dX1_tells_23 (fun x6 h5 hD => ?_)
    refine g_istore_n (pc := 26) (fun _ => [(3, .int x6), (0, .ref l0), (1, .int l1), (2, .int l2)]) C dX1_tells_26 rfl (by decide) rfl (fun _ _ => ?_)
    refine g_aload_n (pc := 27) rfl 1 rfl C dX1_tells_27 ?_
    refine g_iload_n (pc := 28) rfl 3 rfl C dX1_tells_28 ?_
    refine g_iconst (pc := 29) (v := 1) (by decide) C dX1_tells_29 ?_
    refine g_iadd (pc := 30) C dX1_tells_30 ?_
    refine g_callVi (pc := 31) (As := [.int (l2 + 1)]) C mv_RX1_45 (M_Law_value t0 hD) t0 (by decide) rfl rfl (Nat.le_of_ble_eq_true rfl) dX1_tells_31 (fun x9 h8 hD => ?_)
    refine g_istore (pc := 34) (fun _ => [(4, .int x9), (3, .int x6), (0, .ref l0), (1, .int l1), (2, .int l2)]) C dX1_tells_34 (by decide) rfl (fun _ _ => ?_)
    refine g_aload_n (pc := 36) rfl 2 rfl C dX1_tells_36 ?_
    refine g_getI (pc := 37) C fl_RX1_31 t0 rfl dX1_tells_37 ?_
    refine g_if_eq (pc := 40) 45 C dX1_tells_40 (by decide) (fun c11 => ?_) (fun c11 => ?_)
    · have hD := hD.1 c11
      refine g_iload_n (pc := 45) rfl 1 rfl C dX1_tells_45 ?_
      refine g_iload (pc := 46) 0 rfl C dX1_tells_46 ?_
      refine g_icmp_ge (pc := 48) 63 C dX1_tells_48 (by decide) (fun c12 => ?_) (fun c12 => ?_)
      · have hD := hD.1 c12
        refine g_iinc (pc := 63) (q := 4) (c := 3) (fun x13 => [(2, .int x13), (4, .int x9), (3, .int x6), (0, .ref l0), (1, .int l1)]) C dX1_tells_63 rfl (by decide) (by decide) rfl (fun x13 ex13 => ?_)
        have hD := hD x13 ex13
        refine g_goto (pc := 66) 14 C dX1_tells_66 (by decide) ?_
        refine g_sub [3, 4, 0] rfl ?_
        exact hK14 x13 h8 hD
      · have hD := hD.2 c12
        refine g_aload_n (pc := 51) rfl 2 rfl C dX1_tells_51 ?_
        refine g_aload_n (pc := 52) rfl 2 rfl C dX1_tells_52 ?_
        refine g_iload_n (pc := 53) rfl 4 rfl C dX1_tells_53 ?_
        refine g_iconst (pc := 54) (v := 2) (by decide) C dX1_tells_54 ?_
        refine g_iadd (pc := 55) C dX1_tells_55 ?_
        refine g_callVi (pc := 56) (As := [.int (l2 + 2)]) C mv_RX1_45 (M_Law_value t0 hD) t0 (by decide) rfl rfl (Nat.le_of_ble_eq_true rfl) dX1_tells_56 (fun x15 h14 hD => ?_)
        refine g_callVi (pc := 59) (As := [.int x15]) C mv_RX1_49 (M_Law_whole t0 hD) t0 (by decide) rfl rfl (Nat.le_of_ble_eq_true rfl) dX1_tells_59 (fun x17 h16 hD => ?_)
        exact g_iret (pc := 62) C R dX1_tells_62 hD
    · have hD := hD.2 c11
      refine g_iconst (pc := 43) (v := 0) (by decide) C dX1_tells_43 ?_
      exact g_iret (pc := 44) C R dX1_tells_44 hD
def D_Law_tells (r : TR) (o : Nat) (h : TH) (Q : Int32 → TH → Prop) : Prop :=
  ∀ h1, h1 = pI h o 6 0 → ∀ x2 : Int32, x2 = (h1.1 o 5) - 1 → ∃ n, lp (fun (K : Int32 × TH → Prop) (s : Int32 × TH) => DB_Law_tells_14 r o x2 s.1 s.2 (fun y18 h19 => K (y18, h19)) (fun h20 => D_Law_value r o x2 h20 (fun x22 h21 => D_Law_whole r o x22 h21 (fun x24 h23 => Q x24 h23))) Q) n (0, h1)
set_option maxRecDepth 100000 in
set_option maxHeartbeats 4000000 in
theorem M_Law_tells {Y : CG} {r : TR} {l : Launch} {o : Nat} {h : TH} {Q : Int32 → TH → Prop} (t0 : TO Y o 1) (hD : D_Law_tells r o h Q) : Mi Y r l yX1_tells cX1_tells 5 .int 2 [.ref o] h Q := by
  unfold D_Law_tells at hD
  refine Mi.of RX1 rfl (by decide) (by simp [lg_sl, Value.category]) [(0, .ref o)] rfl (fun X hXl C R => ?_)
  subst hXl
  refine g_wt (fun hw => ?_)
  refine g_aload_n (pc := 0) rfl 0 rfl C dX1_tells_0 ?_
  refine g_iconst (pc := 1) (v := 0) (by decide) C dX1_tells_1 ?_
  refine g_putI (pc := 2) C fl_RX1_31 t0 rfl (by decide) (by decide) dX1_tells_2 (fun h1 eh1 => ?_)
  have hD := hD h1 eh1
  refine g_aload_n (pc := 5) rfl 0 rfl C dX1_tells_5 ?_
  refine g_getI (pc := 6) C fl_RX1_28 t0 rfl dX1_tells_6 ?_
  refine g_iconst (pc := 9) (v := 1) (by decide) C dX1_tells_9 ?_
  refine g_isub (pc := 10) C dX1_tells_10 ?_
  refine g_istore_n (pc := 11) (fun x2 => [(1, .int x2), (0, .ref o)]) C dX1_tells_11 rfl (by decide) rfl (fun x2 ex2 => ?_)
  have hD := hD x2 ex2
  refine g_iconst (pc := 12) (v := 0) (by decide) C dX1_tells_12 ?_
  refine g_istore_n (pc := 13) (fun _ => [(2, .int 0), (1, .int x2), (0, .ref o)]) C dX1_tells_13 rfl (by decide) rfl (fun _ _ => ?_)
  obtain ⟨n, hD⟩ := hD
  refine g_sub [2, 1, 0] rfl ?_
  refine lp_run (fun s : Int32 × TH => G Y X 5 14 [(0, .ref o), (1, .int x2), (2, .int s.1)] [] r s.2) (fun K s hB hK => ?_) n (0, h1) hD
  refine WB_Law_tells_14 C R t0 (fun y18 h19 hk => hK _ hk) (fun h20 hD => ?_) hB
  · refine g_aload_n (pc := 69) rfl 0 rfl C dX1_tells_69 ?_
    refine g_aload_n (pc := 70) rfl 0 rfl C dX1_tells_70 ?_
    refine g_iload_n (pc := 71) rfl 1 rfl C dX1_tells_71 ?_
    refine g_callVi (pc := 72) (As := [.int x2]) C mv_RX1_45 (M_Law_value t0 hD) t0 (by decide) rfl rfl (Nat.le_of_ble_eq_true rfl) dX1_tells_72 (fun x22 h21 hD => ?_)
    refine g_callVi (pc := 75) (As := [.int x22]) C mv_RX1_49 (M_Law_whole t0 hD) t0 (by decide) rfl rfl (Nat.le_of_ble_eq_true rfl) dX1_tells_75 (fun x24 h23 hD => ?_)
    exact g_iret (pc := 78) C R dX1_tells_78 hD
def D_Sc_lay (r : TR) (o : Nat) (a1 : Int32) (a2 : Int32) (h : TH) (Q : TH → Prop) : Prop :=
  vp_in a1 240 ∧ ∀ h2, h2 = pI h (r o 6) a1.toNatClampNeg ((16 * ((h.1 o 0) + 1)) + a2) → Q h2
set_option maxRecDepth 100000 in
set_option maxHeartbeats 4000000 in
theorem M_Sc_lay {Y : CG} {r : TR} {l : Launch} {o : Nat} {a1 : Int32} {a2 : Int32} {h : TH} {Q : TH → Prop} (t0 : TO Y o 5) (hD : D_Sc_lay r o a1 a2 h Q) : Mv Y r l yX5_lay cX5_lay 3 1 [.ref o, .int a1, .int a2] h Q := by
  unfold D_Sc_lay at hD
  refine Mv.of RX5 rfl (by decide) (by simp [lg_sl, Value.category]) [(0, .ref o), (1, .int a1), (2, .int a2)] rfl (fun X hXl C R => ?_)
  subst hXl
  refine g_wt (fun hw => ?_)
  refine g_aload_n (pc := 0) rfl 0 rfl C dX5_lay_0 ?_
  have u1 : TA Y (r o 6) 10 240 := wt_a hw t0 (by decide) (by decide) rfl
  refine g_getR (pc := 1) C fl_RX5_31 t0 rfl dX5_lay_1 ?_
  refine g_iload_n (pc := 4) rfl 1 rfl C dX5_lay_4 ?_
  refine g_bipush (pc := 5) (v := 16) (by decide) C dX5_lay_5 ?_
  refine g_aload_n (pc := 7) rfl 0 rfl C dX5_lay_7 ?_
  refine g_getI (pc := 8) C fl_RX5_9 t0 rfl dX5_lay_8 ?_
  refine g_iconst (pc := 11) (v := 1) (by decide) C dX5_lay_11 ?_
  refine g_iadd (pc := 12) C dX5_lay_12 ?_
  refine g_imul (pc := 13) C dX5_lay_13 ?_
  refine g_iload_n (pc := 14) rfl 2 rfl C dX5_lay_14 ?_
  refine g_iadd (pc := 15) C dX5_lay_15 ?_
  obtain ⟨hb, hD⟩ := hD
  refine g_iast (pc := 16) C u1 hb dX5_lay_16 (fun h2 eh2 => ?_)
  have hD := hD h2 eh2
  exact g_vret (pc := 17) C R dX5_lay_17 hD
def DB_Bay_layDish_51 (r : TR) (l0 : Nat) (l1 : Nat) (l2 : Int32) (l3 : Int32) (l4 : Int32) (l5 : Int32) (h : TH) (K51 : Int32 → Int32 → TH → Prop) (K138 : TH → Prop) (Q : TH → Prop) : Prop :=
  vp_in l2 6 ∧ (((h.1 (r l0 10) l2.toNatClampNeg) < l5 → K138 h) ∧ (¬ (h.1 (r l0 10) l2.toNatClampNeg) < l5 → ((l4 = (-1) → K138 h) ∧ (¬ l4 = (-1) → ∀ h19, h19 = pI h (r (r l0 14) 0) ((1 : Int32).toNatClampNeg) (jrem l4 8) → ∀ h22, h22 = pI h19 (r (r l0 14) 0) ((2 : Int32).toNatClampNeg) (l4 / 8) → D_Law_tells r (r l0 14) h22 (fun x25 h24 => D_Sc_lay r l1 ((40 * l2) + l4) ((if 0 < ((if x25 < 9 then x25 else 9)) then ((if x25 < 9 then x25 else 9)) else 0)) h24 (fun h26 => D_Bay_downwind r l0 l4 l3 h26 (fun x29 h28 => ∀ x31 : Int32, x31 = l5 + 1 → K51 x29 x31 h28)))))))
set_option maxRecDepth 100000 in
set_option maxHeartbeats 4000000 in
theorem WB_Bay_layDish_51 {Y : CG} {X : CX} {r : TR} {l0 : Nat} {l1 : Nat} {l2 : Int32} {l3 : Int32} {l4 : Int32} {l5 : Int32} {h : TH} {K51 : Int32 → Int32 → TH → Prop} {K138 : TH → Prop} {Q : TH → Prop} (C : Gd Y X cX0_layDish 6 RX0 3) (R : Rv Y r X Q) (t0 : TO Y l0 0) (t1 : TO Y l1 5) (hK51 : ∀ (k4 : Int32) (k5 : Int32) (hh : TH), K51 k4 k5 hh → G Y X 6 51 [(0, .ref l0), (1, .ref l1), (2, .int l2), (3, .int l3), (4, .int k4), (5, .int k5)] [] r hh) (hK138 : ∀ (hh : TH), K138 hh → G Y X 6 138 [] [] r hh) (hD : DB_Bay_layDish_51 r l0 l1 l2 l3 l4 l5 h K51 K138 Q) : G Y X 6 51 [(0, .ref l0), (1, .ref l1), (2, .int l2), (3, .int l3), (4, .int l4), (5, .int l5)] [] r h := by
  unfold DB_Bay_layDish_51 at hD
  refine g_wt (fun hw => ?_)
  refine g_iload (pc := 51) 5 rfl C dX0_layDish_51 ?_
  refine g_aload_n (pc := 53) rfl 0 rfl C dX0_layDish_53 ?_
  have u14 : TA Y (r l0 10) 10 6 := wt_a hw t0 (by decide) (by decide) rfl
  refine g_getR (pc := 54) C fl_RX0_44 t0 rfl dX0_layDish_54 ?_
  refine g_iload_n (pc := 57) rfl 2 rfl C dX0_layDish_57 ?_
  obtain ⟨hb, hD⟩ := hD
  refine g_iald (pc := 58) C u14 hb dX0_layDish_58 ?_
  refine g_icmp_gt (pc := 59) 138 C dX0_layDish_59 (by decide) (fun c15 => ?_) (fun c15 => ?_)
  · have hD := hD.1 c15
    refine g_sub [] rfl ?_
    exact hK138 h hD
  · have hD := hD.2 c15
    refine g_iload (pc := 62) 4 rfl C dX0_layDish_62 ?_
    refine g_iconst (pc := 64) (v := (-1)) (by decide) C dX0_layDish_64 ?_
    refine g_icmp_eq (pc := 65) 138 C dX0_layDish_65 (by decide) (fun c16 => ?_) (fun c16 => ?_)
    · have hD := hD.1 c16
      refine g_sub [] rfl ?_
      exact hK138 h hD
    · have hD := hD.2 c16
      refine g_aload_n (pc := 68) rfl 0 rfl C dX0_layDish_68 ?_
      have u17 : TO Y (r l0 14) 1 := wt_o hw t0 (by decide) rfl
      refine g_getR (pc := 69) C fl_RX0_60 t0 rfl dX0_layDish_69 ?_
      have u18 : TA Y (r (r l0 14) 0) 10 9 := wt_a hw u17 (by decide) (by decide) rfl
      refine g_getR (pc := 72) C fl_RX0_123 u17 rfl dX0_layDish_72 ?_
      refine g_iconst (pc := 75) (v := 1) (by decide) C dX0_layDish_75 ?_
      refine g_iload (pc := 76) 4 rfl C dX0_layDish_76 ?_
      refine g_bipush (pc := 78) (v := 8) (by decide) C dX0_layDish_78 ?_
      refine g_irem (pc := 80) (by decide) C dX0_layDish_80 ?_
      refine g_iast (pc := 81) C u18 (by unfold vp_in; decide) dX0_layDish_81 (fun h19 eh19 => ?_)
      have hD := hD h19 eh19
      refine g_aload_n (pc := 82) rfl 0 rfl C dX0_layDish_82 ?_
      have u20 : TO Y (r l0 14) 1 := wt_o hw t0 (by decide) rfl
      refine g_getR (pc := 83) C fl_RX0_60 t0 rfl dX0_layDish_83 ?_
      have u21 : TA Y (r (r l0 14) 0) 10 9 := wt_a hw u20 (by decide) (by decide) rfl
      refine g_getR (pc := 86) C fl_RX0_123 u20 rfl dX0_layDish_86 ?_
      refine g_iconst (pc := 89) (v := 2) (by decide) C dX0_layDish_89 ?_
      refine g_iload (pc := 90) 4 rfl C dX0_layDish_90 ?_
      refine g_bipush (pc := 92) (v := 8) (by decide) C dX0_layDish_92 ?_
      refine g_idiv (pc := 94) (by decide) C dX0_layDish_94 ?_
      refine g_iast (pc := 95) C u21 (by unfold vp_in; decide) dX0_layDish_95 (fun h22 eh22 => ?_)
      have hD := hD h22 eh22
      refine g_aload_n (pc := 96) rfl 1 rfl C dX0_layDish_96 ?_
      refine g_bipush (pc := 97) (v := 40) (by decide) C dX0_layDish_97 ?_
      refine g_iload_n (pc := 99) rfl 2 rfl C dX0_layDish_99 ?_
      refine g_imul (pc := 100) C dX0_layDish_100 ?_
      refine g_iload (pc := 101) 4 rfl C dX0_layDish_101 ?_
      refine g_iadd (pc := 103) C dX0_layDish_103 ?_
      refine g_iconst (pc := 104) (v := 0) (by decide) C dX0_layDish_104 ?_
      refine g_bipush (pc := 105) (v := 9) (by decide) C dX0_layDish_105 ?_
      refine g_aload_n (pc := 107) rfl 0 rfl C dX0_layDish_107 ?_
      have u23 : TO Y (r l0 14) 1 := wt_o hw t0 (by decide) rfl
      refine g_getR (pc := 108) C fl_RX0_60 t0 rfl dX0_layDish_108 ?_
      refine g_callVi (pc := 111) (As := []) C mv_RX0_126 (M_Law_tells u23 hD) u23 (by decide) rfl rfl (Nat.le_of_ble_eq_true rfl) dX0_layDish_111 (fun x25 h24 hD => ?_)
      refine g_min (pc := 114) C (by decide) lk_RX0_155 mst_min mini mco_min (Nat.le_of_ble_eq_true rfl) dX0_layDish_114 ?_
      refine g_max (pc := 117) C (by decide) lk_RX0_160 mst_max mini mco_max (Nat.le_of_ble_eq_true rfl) dX0_layDish_117 ?_
      refine g_callVv (pc := 120) (As := [.int ((40 * l2) + l4), .int ((if 0 < ((if x25 < 9 then x25 else 9)) then ((if x25 < 9 then x25 else 9)) else 0))]) C mv_RX0_163 (M_Sc_lay t1 hD) t1 (by decide) rfl rfl (Nat.le_of_ble_eq_true rfl) dX0_layDish_120 (fun h26 hD => ?_)
      refine g_aload_n (pc := 123) rfl 0 rfl C dX0_layDish_123 ?_
      refine g_iload (pc := 124) 4 rfl C dX0_layDish_124 ?_
      refine g_iload_n (pc := 126) rfl 3 rfl C dX0_layDish_126 ?_
      refine g_callVi (pc := 127) (As := [.int l4, .int l3]) C mv_RX0_120 (M_Bay_downwind t0 hD) t0 (by decide) rfl rfl (Nat.le_of_ble_eq_true rfl) dX0_layDish_127 (fun x29 h28 hD => ?_)
      refine g_istore (pc := 130) (fun _ => [(4, .int x29), (0, .ref l0), (1, .ref l1), (2, .int l2), (3, .int l3), (5, .int l5)]) C dX0_layDish_130 (by decide) rfl (fun _ _ => ?_)
      refine g_iinc (pc := 132) (q := 5) (c := 1) (fun x31 => [(5, .int x31), (4, .int x29), (0, .ref l0), (1, .ref l1), (2, .int l2), (3, .int l3)]) C dX0_layDish_132 rfl (by decide) (by decide) rfl (fun x31 ex31 => ?_)
      have hD := hD x31 ex31
      refine g_goto (pc := 135) 51 C dX0_layDish_135 (by decide) ?_
      refine g_sub [2, 3, 4, 5, 1, 0] rfl ?_
      exact hK51 x29 x31 h28 hD
def D_Bay_layDish (r : TR) (o : Nat) (a1 : Nat) (a2 : Int32) (a3 : Int32) (h : TH) (Q : TH → Prop) : Prop :=
  ∀ h3, h3 = pI h (r (r o 14) 0) ((0 : Int32).toNatClampNeg) (h.1 a1 0) → vp_in a2 6 ∧ ∀ h7, h7 = pI h3 (r (r o 14) 0) ((7 : Int32).toNatClampNeg) (h3.1 (r o 10) a2.toNatClampNeg) → ∀ h10, h10 = pI h7 (r (r o 14) 0) ((6 : Int32).toNatClampNeg) a2 → vp_in a2 6 ∧ ∀ x12 : Int32, x12 = h10.1 (r a1 4) a2.toNatClampNeg → ∃ n, lp (fun (K : Int32 × Int32 × TH → Prop) (s : Int32 × Int32 × TH) => DB_Bay_layDish_51 r o a1 a2 a3 s.1 s.2.1 s.2.2 (fun y32 y33 h34 => K (y32, y33, h34)) (fun h35 => Q h35) Q) n (x12, 0, h10)
set_option maxRecDepth 100000 in
set_option maxHeartbeats 4000000 in
theorem M_Bay_layDish {Y : CG} {r : TR} {l : Launch} {o : Nat} {a1 : Nat} {a2 : Int32} {a3 : Int32} {h : TH} {Q : TH → Prop} (t0 : TO Y o 0) (t1 : TO Y a1 5) (hD : D_Bay_layDish r o a1 a2 a3 h Q) : Mv Y r l yX0_layDish cX0_layDish 6 3 [.ref o, .ref a1, .int a2, .int a3] h Q := by
  unfold D_Bay_layDish at hD
  refine Mv.of RX0 rfl (by decide) (by simp [lg_sl, Value.category]) [(0, .ref o), (1, .ref a1), (2, .int a2), (3, .int a3)] rfl (fun X hXl C R => ?_)
  subst hXl
  refine g_wt (fun hw => ?_)
  refine g_aload_n (pc := 0) rfl 0 rfl C dX0_layDish_0 ?_
  have u1 : TO Y (r o 14) 1 := wt_o hw t0 (by decide) rfl
  refine g_getR (pc := 1) C fl_RX0_60 t0 rfl dX0_layDish_1 ?_
  have u2 : TA Y (r (r o 14) 0) 10 9 := wt_a hw u1 (by decide) (by decide) rfl
  refine g_getR (pc := 4) C fl_RX0_123 u1 rfl dX0_layDish_4 ?_
  refine g_iconst (pc := 7) (v := 0) (by decide) C dX0_layDish_7 ?_
  refine g_aload_n (pc := 8) rfl 1 rfl C dX0_layDish_8 ?_
  refine g_getI (pc := 9) C fl_RX0_103 t1 rfl dX0_layDish_9 ?_
  refine g_iast (pc := 12) C u2 (by unfold vp_in; decide) dX0_layDish_12 (fun h3 eh3 => ?_)
  have hD := hD h3 eh3
  refine g_aload_n (pc := 13) rfl 0 rfl C dX0_layDish_13 ?_
  have u4 : TO Y (r o 14) 1 := wt_o hw t0 (by decide) rfl
  refine g_getR (pc := 14) C fl_RX0_60 t0 rfl dX0_layDish_14 ?_
  have u5 : TA Y (r (r o 14) 0) 10 9 := wt_a hw u4 (by decide) (by decide) rfl
  refine g_getR (pc := 17) C fl_RX0_123 u4 rfl dX0_layDish_17 ?_
  refine g_bipush (pc := 20) (v := 7) (by decide) C dX0_layDish_20 ?_
  refine g_aload_n (pc := 22) rfl 0 rfl C dX0_layDish_22 ?_
  have u6 : TA Y (r o 10) 10 6 := wt_a hw t0 (by decide) (by decide) rfl
  refine g_getR (pc := 23) C fl_RX0_44 t0 rfl dX0_layDish_23 ?_
  refine g_iload_n (pc := 26) rfl 2 rfl C dX0_layDish_26 ?_
  obtain ⟨hb, hD⟩ := hD
  refine g_iald (pc := 27) C u6 hb dX0_layDish_27 ?_
  refine g_iast (pc := 28) C u5 (by unfold vp_in; decide) dX0_layDish_28 (fun h7 eh7 => ?_)
  have hD := hD h7 eh7
  refine g_aload_n (pc := 29) rfl 0 rfl C dX0_layDish_29 ?_
  have u8 : TO Y (r o 14) 1 := wt_o hw t0 (by decide) rfl
  refine g_getR (pc := 30) C fl_RX0_60 t0 rfl dX0_layDish_30 ?_
  have u9 : TA Y (r (r o 14) 0) 10 9 := wt_a hw u8 (by decide) (by decide) rfl
  refine g_getR (pc := 33) C fl_RX0_123 u8 rfl dX0_layDish_33 ?_
  refine g_bipush (pc := 36) (v := 6) (by decide) C dX0_layDish_36 ?_
  refine g_iload_n (pc := 38) rfl 2 rfl C dX0_layDish_38 ?_
  refine g_iast (pc := 39) C u9 (by unfold vp_in; decide) dX0_layDish_39 (fun h10 eh10 => ?_)
  have hD := hD h10 eh10
  refine g_aload_n (pc := 40) rfl 1 rfl C dX0_layDish_40 ?_
  have u11 : TA Y (r a1 4) 10 6 := wt_a hw t1 (by decide) (by decide) rfl
  refine g_getR (pc := 41) C fl_RX0_113 t1 rfl dX0_layDish_41 ?_
  refine g_iload_n (pc := 44) rfl 2 rfl C dX0_layDish_44 ?_
  obtain ⟨hb, hD⟩ := hD
  refine g_iald (pc := 45) C u11 hb dX0_layDish_45 ?_
  refine g_istore (pc := 46) (fun x12 => [(4, .int x12), (0, .ref o), (1, .ref a1), (2, .int a2), (3, .int a3)]) C dX0_layDish_46 (by decide) rfl (fun x12 ex12 => ?_)
  have hD := hD x12 ex12
  refine g_iconst (pc := 48) (v := 0) (by decide) C dX0_layDish_48 ?_
  refine g_istore (pc := 49) (fun _ => [(5, .int 0), (4, .int x12), (0, .ref o), (1, .ref a1), (2, .int a2), (3, .int a3)]) C dX0_layDish_49 (by decide) rfl (fun _ _ => ?_)
  obtain ⟨n, hD⟩ := hD
  refine g_sub [2, 3, 4, 5, 1, 0] rfl ?_
  refine lp_run (fun s : Int32 × Int32 × TH => G Y X 6 51 [(0, .ref o), (1, .ref a1), (2, .int a2), (3, .int a3), (4, .int s.1), (5, .int s.2.1)] [] r s.2.2) (fun K s hB hK => ?_) n (x12, 0, h10) hD
  refine WB_Bay_layDish_51 C R t0 t1 (fun y32 y33 h34 hk => hK _ hk) (fun h35 hD => ?_) hB
  · exact g_vret (pc := 138) C R dX0_layDish_138 hD
def D_Bay_sailing (r : TR) (o : Nat) (a1 : Nat) (h : TH) (Q : Int32 → TH → Prop) : Prop :=
  D_Bay_allBoats r o h (fun x2 h1 => Q (x2 &&& (((h1.1 a1 2) ||| (h1.1 a1 3)) ^^^ (-1))) h1)
set_option maxRecDepth 100000 in
set_option maxHeartbeats 4000000 in
theorem M_Bay_sailing {Y : CG} {r : TR} {l : Launch} {o : Nat} {a1 : Nat} {h : TH} {Q : Int32 → TH → Prop} (t0 : TO Y o 0) (t1 : TO Y a1 5) (hD : D_Bay_sailing r o a1 h Q) : Mi Y r l yX0_sailing cX0_sailing 2 .int 2 [.ref o, .ref a1] h Q := by
  unfold D_Bay_sailing at hD
  refine Mi.of RX0 rfl (by decide) (by simp [lg_sl, Value.category]) [(0, .ref o), (1, .ref a1)] rfl (fun X hXl C R => ?_)
  subst hXl
  refine g_wt (fun hw => ?_)
  refine g_aload_n (pc := 0) rfl 0 rfl C dX0_sailing_0 ?_
  refine g_callVi (pc := 1) (As := []) C mv_RX0_84 (M_Bay_allBoats t0 hD) t0 (by decide) rfl rfl (Nat.le_of_ble_eq_true rfl) dX0_sailing_1 (fun x2 h1 hD => ?_)
  refine g_aload_n (pc := 4) rfl 1 rfl C dX0_sailing_4 ?_
  refine g_getI (pc := 5) C fl_RX0_88 t1 rfl dX0_sailing_5 ?_
  refine g_aload_n (pc := 8) rfl 1 rfl C dX0_sailing_8 ?_
  refine g_getI (pc := 9) C fl_RX0_93 t1 rfl dX0_sailing_9 ?_
  refine g_ior (pc := 12) C dX0_sailing_12 ?_
  refine g_iconst (pc := 13) (v := (-1)) (by decide) C dX0_sailing_13 ?_
  refine g_ixor (pc := 14) C dX0_sailing_14 ?_
  refine g_iand (pc := 15) C dX0_sailing_15 ?_
  exact g_iret (pc := 16) C R dX0_sailing_16 hD
def D_Bay_windAt (r : TR) (o : Nat) (a1 : Int32) (h : TH) (Q : Int32 → TH → Prop) : Prop :=
  ∀ h3, h3 = pI h (r (r o 12) 0) ((0 : Int32).toNatClampNeg) a1 → D_Law_tells r (r o 12) h3 (fun x6 h5 => ((0 ≤ x6 → Q ((jrem x6 4) + 1) h5) ∧ (¬ 0 ≤ x6 → Q 1 h5)))
set_option maxRecDepth 100000 in
set_option maxHeartbeats 4000000 in
theorem M_Bay_windAt {Y : CG} {r : TR} {l : Launch} {o : Nat} {a1 : Int32} {h : TH} {Q : Int32 → TH → Prop} (t0 : TO Y o 0) (hD : D_Bay_windAt r o a1 h Q) : Mi Y r l yX0_windAt cX0_windAt 3 .int 3 [.ref o, .int a1] h Q := by
  unfold D_Bay_windAt at hD
  refine Mi.of RX0 rfl (by decide) (by simp [lg_sl, Value.category]) [(0, .ref o), (1, .int a1)] rfl (fun X hXl C R => ?_)
  subst hXl
  refine g_wt (fun hw => ?_)
  refine g_aload_n (pc := 0) rfl 0 rfl C dX0_windAt_0 ?_
  have u1 : TO Y (r o 12) 1 := wt_o hw t0 (by decide) rfl
  refine g_getR (pc := 1) C fl_RX0_53 t0 rfl dX0_windAt_1 ?_
  have u2 : TA Y (r (r o 12) 0) 10 9 := wt_a hw u1 (by decide) (by decide) rfl
  refine g_getR (pc := 4) C fl_RX0_123 u1 rfl dX0_windAt_4 ?_
  refine g_iconst (pc := 7) (v := 0) (by decide) C dX0_windAt_7 ?_
  refine g_iload_n (pc := 8) rfl 1 rfl C dX0_windAt_8 ?_
  refine g_iast (pc := 9) C u2 (by unfold vp_in; decide) dX0_windAt_9 (fun h3 eh3 => ?_)
  have hD := hD h3 eh3
  refine g_aload_n (pc := 10) rfl 0 rfl C dX0_windAt_10 ?_
  have u4 : TO Y (r o 12) 1 := wt_o hw t0 (by decide) rfl
  refine g_getR (pc := 11) C fl_RX0_53 t0 rfl dX0_windAt_11 ?_
  refine g_callVi (pc := 14) (As := []) C mv_RX0_126 (M_Law_tells u4 hD) u4 (by decide) rfl rfl (Nat.le_of_ble_eq_true rfl) dX0_windAt_14 (fun x6 h5 hD => ?_)
  refine g_istore_n (pc := 17) (fun _ => [(2, .int x6), (0, .ref o), (1, .int a1)]) C dX0_windAt_17 rfl (by decide) rfl (fun _ _ => ?_)
  refine g_iload_n (pc := 18) rfl 0 rfl C dX0_windAt_18 ?_
  refine g_if_ge (pc := 19) 26 C dX0_windAt_19 (by decide) (fun c8 => ?_) (fun c8 => ?_)
  · have hD := hD.1 c8
    refine g_iload_n (pc := 26) rfl 0 rfl C dX0_windAt_26 ?_
    refine g_iconst (pc := 27) (v := 4) (by decide) C dX0_windAt_27 ?_
    refine g_irem (pc := 28) (by decide) C dX0_windAt_28 ?_
    refine g_iconst (pc := 29) (v := 1) (by decide) C dX0_windAt_29 ?_
    refine g_iadd (pc := 30) C dX0_windAt_30 ?_
    exact g_iret (pc := 31) C R dX0_windAt_31 hD
  · have hD := hD.2 c8
    refine g_iconst (pc := 22) (v := 1) (by decide) C dX0_windAt_22 ?_
    refine g_goto (pc := 23) 31 C dX0_windAt_23 (by decide) ?_
    exact g_iret (pc := 31) C R dX0_windAt_31 hD
def DB_Bay_layDishes_23 (r : TR) (l0 : Nat) (l1 : Nat) (l2 : Int32) (l3 : Int32) (l4 : Int32) (h : TH) (K23 : Int32 → TH → Prop) (K56 : TH → Prop) (Q : TH → Prop) : Prop :=
  (((h.1 l0 2) ≤ l4 → K56 h) ∧ (¬ (h.1 l0 2) ≤ l4 → ((¬ ((l3 >>> (l4 &&& 31)) &&& 1) = 1 → ∀ x10 : Int32, x10 = l4 + 1 → K23 x10 h) ∧ (((l3 >>> (l4 &&& 31)) &&& 1) = 1 → D_Bay_layDish r l0 l1 l4 l2 h (fun h11 => ∀ x13 : Int32, x13 = l4 + 1 → K23 x13 h11)))))
set_option maxRecDepth 100000 in
set_option maxHeartbeats 4000000 in
theorem WB_Bay_layDishes_23 {Y : CG} {X : CX} {r : TR} {l0 : Nat} {l1 : Nat} {l2 : Int32} {l3 : Int32} {l4 : Int32} {h : TH} {K23 : Int32 → TH → Prop} {K56 : TH → Prop} {Q : TH → Prop} (C : Gd Y X cX0_layDishes 5 RX0 4) (R : Rv Y r X Q) (t0 : TO Y l0 0) (t1 : TO Y l1 5) (hK23 : ∀ (k4 : Int32) (hh : TH), K23 k4 hh → G Y X 5 23 [(0, .ref l0), (1, .ref l1), (2, .int l2), (3, .int l3), (4, .int k4)] [] r hh) (hK56 : ∀ (hh : TH), K56 hh → G Y X 5 56 [] [] r hh) (hD : DB_Bay_layDishes_23 r l0 l1 l2 l3 l4 h K23 K56 Q) : G Y X 5 23 [(0, .ref l0), (1, .ref l1), (2, .int l2), (3, .int l3), (4, .int l4)] [] r h := by
  unfold DB_Bay_layDishes_23 at hD
  refine g_wt (fun hw => ?_)
  refine g_iload (pc := 23) 4 rfl C dX0_layDishes_23 ?_
  refine g_aload_n (pc := 25) rfl 0 rfl C dX0_layDishes_25 ?_
  refine g_getI (pc := 26) C fl_RX0_18 t0 rfl dX0_layDishes_26 ?_
  refine g_icmp_ge (pc := 29) 56 C dX0_layDishes_29 (by decide) (fun c8 => ?_) (fun c8 => ?_)
  · have hD := hD.1 c8
    refine g_sub [] rfl ?_
    exact hK56 h hD
  · have hD := hD.2 c8
    refine g_iload_n (pc := 32) rfl 3 rfl C dX0_layDishes_32 ?_
    refine g_iload (pc := 33) 4 rfl C dX0_layDishes_33 ?_
    refine g_ishr (pc := 35) C dX0_layDishes_35 ?_
    refine g_iconst (pc := 36) (v := 1) (by decide) C dX0_layDishes_36 ?_
    refine g_iand (pc := 37) C dX0_layDishes_37 ?_
    refine g_iconst (pc := 38) (v := 1) (by decide) C dX0_layDishes_38 ?_
    refine g_icmp_ne (pc := 39) 50 C dX0_layDishes_39 (by decide) (fun c9 => ?_) (fun c9 => ?_)
    · have hD := hD.1 c9
      refine g_iinc (pc := 50) (q := 4) (c := 1) (fun x10 => [(4, .int x10), (0, .ref l0), (1, .ref l1), (2, .int l2), (3, .int l3)]) C dX0_layDishes_50 rfl (by decide) (by decide) rfl (fun x10 ex10 => ?_)
      have hD := hD x10 ex10
      refine g_goto (pc := 53) 23 C dX0_layDishes_53 (by decide) ?_
      refine g_sub [1, 2, 3, 4, 0] rfl ?_
      exact hK23 x10 h hD
    · have hD := hD.2 c9
      refine g_aload_n (pc := 42) rfl 0 rfl C dX0_layDishes_42 ?_
      refine g_aload_n (pc := 43) rfl 1 rfl C dX0_layDishes_43 ?_
      refine g_iload (pc := 44) 4 rfl C dX0_layDishes_44 ?_
      refine g_iload_n (pc := 46) rfl 2 rfl C dX0_layDishes_46 ?_
      refine g_callVv (pc := 47) (As := [.ref l1, .int l4, .int l2]) C mv_RX0_151 (M_Bay_layDish t0 t1 hD) t0 (by decide) rfl rfl (Nat.le_of_ble_eq_true rfl) dX0_layDishes_47 (fun h11 hD => ?_)
      refine g_iinc (pc := 50) (q := 4) (c := 1) (fun x13 => [(4, .int x13), (0, .ref l0), (1, .ref l1), (2, .int l2), (3, .int l3)]) C dX0_layDishes_50 rfl (by decide) (by decide) rfl (fun x13 ex13 => ?_)
      have hD := hD x13 ex13
      refine g_goto (pc := 53) 23 C dX0_layDishes_53 (by decide) ?_
      refine g_sub [1, 2, 3, 4, 0] rfl ?_
      exact hK23 x13 h11 hD
def D_Bay_layDishes (r : TR) (o : Nat) (a1 : Nat) (h : TH) (Q : TH → Prop) : Prop :=
  D_Bay_windAt r o (h.1 a1 0) h (fun x2 h1 => D_Bay_sailing r o a1 h1 (fun x5 h4 => ∀ x6 : Int32, x6 = x5 &&& (h4.1 a1 1) → ∃ n, lp (fun (K : Int32 × TH → Prop) (s : Int32 × TH) => DB_Bay_layDishes_23 r o a1 x2 x6 s.1 s.2 (fun y14 h15 => K (y14, h15)) (fun h16 => Q h16) Q) n (0, h4)))
set_option maxRecDepth 100000 in
set_option maxHeartbeats 4000000 in
theorem M_Bay_layDishes {Y : CG} {r : TR} {l : Launch} {o : Nat} {a1 : Nat} {h : TH} {Q : TH → Prop} (t0 : TO Y o 0) (t1 : TO Y a1 5) (hD : D_Bay_layDishes r o a1 h Q) : Mv Y r l yX0_layDishes cX0_layDishes 5 4 [.ref o, .ref a1] h Q := by
  unfold D_Bay_layDishes at hD
  refine Mv.of RX0 rfl (by decide) (by simp [lg_sl, Value.category]) [(0, .ref o), (1, .ref a1)] rfl (fun X hXl C R => ?_)
  subst hXl
  refine g_wt (fun hw => ?_)
  refine g_aload_n (pc := 0) rfl 0 rfl C dX0_layDishes_0 ?_
  refine g_aload_n (pc := 1) rfl 1 rfl C dX0_layDishes_1 ?_
  refine g_getI (pc := 2) C fl_RX0_103 t1 rfl dX0_layDishes_2 ?_
  refine g_callVi (pc := 5) (As := [.int (h.1 a1 0)]) C mv_RX0_106 (M_Bay_windAt t0 hD) t0 (by decide) rfl rfl (Nat.le_of_ble_eq_true rfl) dX0_layDishes_5 (fun x2 h1 hD => ?_)
  refine g_istore_n (pc := 8) (fun _ => [(2, .int x2), (0, .ref o), (1, .ref a1)]) C dX0_layDishes_8 rfl (by decide) rfl (fun _ _ => ?_)
  refine g_aload_n (pc := 9) rfl 1 rfl C dX0_layDishes_9 ?_
  refine g_aload_n (pc := 10) rfl 2 rfl C dX0_layDishes_10 ?_
  refine g_callVi (pc := 11) (As := [.ref a1]) C mv_RX0_144 (M_Bay_sailing t0 t1 hD) t0 (by decide) rfl rfl (Nat.le_of_ble_eq_true rfl) dX0_layDishes_11 (fun x5 h4 hD => ?_)
  refine g_aload_n (pc := 14) rfl 2 rfl C dX0_layDishes_14 ?_
  refine g_getI (pc := 15) C fl_RX0_148 t1 rfl dX0_layDishes_15 ?_
  refine g_iand (pc := 18) C dX0_layDishes_18 ?_
  refine g_istore_n (pc := 19) (fun x6 => [(3, .int x6), (2, .int x2), (0, .ref o), (1, .ref a1)]) C dX0_layDishes_19 rfl (by decide) rfl (fun x6 ex6 => ?_)
  have hD := hD x6 ex6
  refine g_iconst (pc := 20) (v := 0) (by decide) C dX0_layDishes_20 ?_
  refine g_istore (pc := 21) (fun _ => [(4, .int 0), (3, .int x6), (2, .int x2), (0, .ref o), (1, .ref a1)]) C dX0_layDishes_21 (by decide) rfl (fun _ _ => ?_)
  obtain ⟨n, hD⟩ := hD
  refine g_sub [3, 4, 2, 1, 0] rfl ?_
  refine lp_run (fun s : Int32 × TH => G Y X 5 23 [(0, .ref o), (1, .ref a1), (2, .int x2), (3, .int x6), (4, .int s.1)] [] r s.2) (fun K s hB hK => ?_) n (0, h4) hD
  refine WB_Bay_layDishes_23 C R t0 t1 (fun y14 h15 hk => hK _ hk) (fun h16 hD => ?_) hB
  · exact g_vret (pc := 56) C R dX0_layDishes_56 hD
def D_JI_bitCount (r : TR) (a0 : Int32) (h : TH) (Q : Int32 → TH → Prop) : Prop :=
  ∀ x1 : Int32, x1 = a0 - ((jushr a0 1) &&& 1431655765) → ∀ x2 : Int32, x2 = (x1 &&& 858993459) + ((jushr x1 2) &&& 858993459) → ∀ x3 : Int32, x3 = (x2 + (jushr x2 4)) &&& 252645135 → ∀ x4 : Int32, x4 = x3 + (jushr x3 8) → ∀ x5 : Int32, x5 = x4 + (jushr x4 16) → Q (x5 &&& 63) h
set_option maxRecDepth 100000 in
set_option maxHeartbeats 4000000 in
theorem M_JI_bitCount {Y : CG} {r : TR} {l : Launch} {a0 : Int32} {h : TH} {Q : Int32 → TH → Prop} (hD : D_JI_bitCount r a0 h Q) : Mi Y r l yJ6_bitCount_0f7a4 cJ6_bitCount_0f7a4 1 .int 1 [.int a0] h Q := by
  unfold D_JI_bitCount at hD
  refine Mi.of RJ6 rfl (by decide) (by simp [lg_sl, Value.category]) [(0, .int a0)] rfl (fun X hXl C R => ?_)
  subst hXl
  refine g_wt (fun hw => ?_)
  refine g_iload_n (pc := 0) rfl 0 rfl C dJ6_bitCount_0f7a4_0 ?_
  refine g_iload_n (pc := 1) rfl 0 rfl C dJ6_bitCount_0f7a4_1 ?_
  refine g_iconst (pc := 2) (v := 1) (by decide) C dJ6_bitCount_0f7a4_2 ?_
  refine g_iushr (pc := 3) C dJ6_bitCount_0f7a4_3 ?_
  refine g_ldcw (pc := 4) cn_RJ6_265 C dJ6_bitCount_0f7a4_4 ?_
  refine g_iand (pc := 7) C dJ6_bitCount_0f7a4_7 ?_
  refine g_isub (pc := 8) C dJ6_bitCount_0f7a4_8 ?_
  refine g_istore_n (pc := 9) (fun x1 => [(0, .int x1)]) C dJ6_bitCount_0f7a4_9 rfl (by decide) rfl (fun x1 ex1 => ?_)
  have hD := hD x1 ex1
  refine g_iload_n (pc := 10) rfl 0 rfl C dJ6_bitCount_0f7a4_10 ?_
  refine g_ldcw (pc := 11) cn_RJ6_266 C dJ6_bitCount_0f7a4_11 ?_
  refine g_iand (pc := 14) C dJ6_bitCount_0f7a4_14 ?_
  refine g_iload_n (pc := 15) rfl 0 rfl C dJ6_bitCount_0f7a4_15 ?_
  refine g_iconst (pc := 16) (v := 2) (by decide) C dJ6_bitCount_0f7a4_16 ?_
  refine g_iushr (pc := 17) C dJ6_bitCount_0f7a4_17 ?_
  refine g_ldcw (pc := 18) cn_RJ6_266 C dJ6_bitCount_0f7a4_18 ?_
  refine g_iand (pc := 21) C dJ6_bitCount_0f7a4_21 ?_
  refine g_iadd (pc := 22) C dJ6_bitCount_0f7a4_22 ?_
  refine g_istore_n (pc := 23) (fun x2 => [(0, .int x2)]) C dJ6_bitCount_0f7a4_23 rfl (by decide) rfl (fun x2 ex2 => ?_)
  have hD := hD x2 ex2
  refine g_iload_n (pc := 24) rfl 0 rfl C dJ6_bitCount_0f7a4_24 ?_
  refine g_iload_n (pc := 25) rfl 0 rfl C dJ6_bitCount_0f7a4_25 ?_
  refine g_iconst (pc := 26) (v := 4) (by decide) C dJ6_bitCount_0f7a4_26 ?_
  refine g_iushr (pc := 27) C dJ6_bitCount_0f7a4_27 ?_
  refine g_iadd (pc := 28) C dJ6_bitCount_0f7a4_28 ?_
  refine g_ldcw (pc := 29) cn_RJ6_267 C dJ6_bitCount_0f7a4_29 ?_
  refine g_iand (pc := 32) C dJ6_bitCount_0f7a4_32 ?_
  refine g_istore_n (pc := 33) (fun x3 => [(0, .int x3)]) C dJ6_bitCount_0f7a4_33 rfl (by decide) rfl (fun x3 ex3 => ?_)
  have hD := hD x3 ex3
  refine g_iload_n (pc := 34) rfl 0 rfl C dJ6_bitCount_0f7a4_34 ?_
  refine g_iload_n (pc := 35) rfl 0 rfl C dJ6_bitCount_0f7a4_35 ?_
  refine g_bipush (pc := 36) (v := 8) (by decide) C dJ6_bitCount_0f7a4_36 ?_
  refine g_iushr (pc := 38) C dJ6_bitCount_0f7a4_38 ?_
  refine g_iadd (pc := 39) C dJ6_bitCount_0f7a4_39 ?_
  refine g_istore_n (pc := 40) (fun x4 => [(0, .int x4)]) C dJ6_bitCount_0f7a4_40 rfl (by decide) rfl (fun x4 ex4 => ?_)
  have hD := hD x4 ex4
  refine g_iload_n (pc := 41) rfl 0 rfl C dJ6_bitCount_0f7a4_41 ?_
  refine g_iload_n (pc := 42) rfl 0 rfl C dJ6_bitCount_0f7a4_42 ?_
  refine g_bipush (pc := 43) (v := 16) (by decide) C dJ6_bitCount_0f7a4_43 ?_
  refine g_iushr (pc := 45) C dJ6_bitCount_0f7a4_45 ?_
  refine g_iadd (pc := 46) C dJ6_bitCount_0f7a4_46 ?_
  refine g_istore_n (pc := 47) (fun x5 => [(0, .int x5)]) C dJ6_bitCount_0f7a4_47 rfl (by decide) rfl (fun x5 ex5 => ?_)
  have hD := hD x5 ex5
  refine g_iload_n (pc := 48) rfl 0 rfl C dJ6_bitCount_0f7a4_48 ?_
  refine g_bipush (pc := 49) (v := 63) (by decide) C dJ6_bitCount_0f7a4_49 ?_
  refine g_iand (pc := 51) C dJ6_bitCount_0f7a4_51 ?_
  exact g_iret (pc := 52) C R dJ6_bitCount_0f7a4_52 hD
def D_Sc_bringHome (r : TR) (o : Nat) (a1 : Int32) (h : TH) (Q : TH → Prop) : Prop :=
  ∀ h1, h1 = pI h o 3 ((h.1 o 3) ||| ((1 : Int32) <<< (a1 &&& 31))) → D_JI_bitCount r (h1.1 o 3) h1 (fun x4 h3 => vp_in a1 6 ∧ ∀ h5, h5 = pI h3 (r o 5) a1.toNatClampNeg x4 → Q h5)
set_option maxRecDepth 100000 in
set_option maxHeartbeats 4000000 in
theorem M_Sc_bringHome {Y : CG} {r : TR} {l : Launch} {o : Nat} {a1 : Int32} {h : TH} {Q : TH → Prop} (t0 : TO Y o 5) (hD : D_Sc_bringHome r o a1 h Q) : Mv Y r l yX5_bringHome cX5_bringHome 2 2 [.ref o, .int a1] h Q := by
  unfold D_Sc_bringHome at hD
  refine Mv.of RX5 rfl (by decide) (by simp [lg_sl, Value.category]) [(0, .ref o), (1, .int a1)] rfl (fun X hXl C R => ?_)
  subst hXl
  refine g_wt (fun hw => ?_)
  refine g_aload_n (pc := 0) rfl 0 rfl C dX5_bringHome_0 ?_
  refine g_dup (pc := 1) rfl C dX5_bringHome_1 ?_
  refine g_getI (pc := 2) C fl_RX5_21 t0 rfl dX5_bringHome_2 ?_
  refine g_iconst (pc := 5) (v := 1) (by decide) C dX5_bringHome_5 ?_
  refine g_iload_n (pc := 6) rfl 1 rfl C dX5_bringHome_6 ?_
  refine g_ishl (pc := 7) C dX5_bringHome_7 ?_
  refine g_ior (pc := 8) C dX5_bringHome_8 ?_
  refine g_putI (pc := 9) C fl_RX5_21 t0 rfl rfl rfl dX5_bringHome_9 (fun h1 eh1 => ?_)
  have hD := hD h1 eh1
  refine g_aload_n (pc := 12) rfl 0 rfl C dX5_bringHome_12 ?_
  have u2 : TA Y (r o 5) 10 6 := wt_a hw t0 (by decide) (by decide) rfl
  refine g_getR (pc := 13) C fl_RX5_28 t0 rfl dX5_bringHome_13 ?_
  refine g_iload_n (pc := 16) rfl 1 rfl C dX5_bringHome_16 ?_
  refine g_aload_n (pc := 17) rfl 0 rfl C dX5_bringHome_17 ?_
  refine g_getI (pc := 18) C fl_RX5_21 t0 rfl dX5_bringHome_18 ?_
  refine g_callSi (pc := 21) (As := [.int (h1.1 o 3)]) C ms_RX5_56 (M_JI_bitCount  hD) (by decide) rfl rfl (Nat.le_of_ble_eq_true rfl) dX5_bringHome_21 (fun x4 h3 hD => ?_)
  obtain ⟨hb, hD⟩ := hD
  refine g_iast (pc := 24) C u2 hb dX5_bringHome_24 (fun h5 eh5 => ?_)
  have hD := hD h5 eh5
  exact g_vret (pc := 25) C R dX5_bringHome_25 hD
def D_Sc_clear (r : TR) (o : Nat) (h : TH) (Q : TH → Prop) : Prop :=
  ∀ h1, h1 = pI h o 0 0 → ∀ h2, h2 = pI h1 o 1 0 → ∀ h3, h3 = pI h2 o 2 0 → ∀ h4, h4 = pI h3 o 3 0 → D_JA_fill r (r o 4) 6 0 h4 (fun h6 => D_JA_fill r (r o 5) 6 0 h6 (fun h9 => D_JA_fill r (r o 6) 240 0 h9 (fun h12 => Q h12)))
set_option maxRecDepth 100000 in
set_option maxHeartbeats 4000000 in
theorem M_Sc_clear {Y : CG} {r : TR} {l : Launch} {o : Nat} {h : TH} {Q : TH → Prop} (t0 : TO Y o 5) (hD : D_Sc_clear r o h Q) : Mv Y r l yX5_clear cX5_clear 1 2 [.ref o] h Q := by
  unfold D_Sc_clear at hD
  refine Mv.of RX5 rfl (by decide) (by simp [lg_sl, Value.category]) [(0, .ref o)] rfl (fun X hXl C R => ?_)
  subst hXl
  refine g_wt (fun hw => ?_)
  refine g_aload_n (pc := 0) rfl 0 rfl C dX5_clear_0 ?_
  refine g_iconst (pc := 1) (v := 0) (by decide) C dX5_clear_1 ?_
  refine g_putI (pc := 2) C fl_RX5_9 t0 rfl rfl rfl dX5_clear_2 (fun h1 eh1 => ?_)
  have hD := hD h1 eh1
  refine g_aload_n (pc := 5) rfl 0 rfl C dX5_clear_5 ?_
  refine g_iconst (pc := 6) (v := 0) (by decide) C dX5_clear_6 ?_
  refine g_putI (pc := 7) C fl_RX5_15 t0 rfl rfl rfl dX5_clear_7 (fun h2 eh2 => ?_)
  have hD := hD h2 eh2
  refine g_aload_n (pc := 10) rfl 0 rfl C dX5_clear_10 ?_
  refine g_iconst (pc := 11) (v := 0) (by decide) C dX5_clear_11 ?_
  refine g_putI (pc := 12) C fl_RX5_18 t0 rfl rfl rfl dX5_clear_12 (fun h3 eh3 => ?_)
  have hD := hD h3 eh3
  refine g_aload_n (pc := 15) rfl 0 rfl C dX5_clear_15 ?_
  refine g_iconst (pc := 16) (v := 0) (by decide) C dX5_clear_16 ?_
  refine g_putI (pc := 17) C fl_RX5_21 t0 rfl rfl rfl dX5_clear_17 (fun h4 eh4 => ?_)
  have hD := hD h4 eh4
  refine g_aload_n (pc := 20) rfl 0 rfl C dX5_clear_20 ?_
  have u5 : TA Y (r o 4) 10 6 := wt_a hw t0 (by decide) (by decide) rfl
  refine g_getR (pc := 21) C fl_RX5_24 t0 rfl dX5_clear_21 ?_
  refine g_iconst (pc := 24) (v := 0) (by decide) C dX5_clear_24 ?_
  refine g_callSv (pc := 25) (As := [.ref (r o 4), .int 0]) C ms_RX5_34 (M_JA_fill u5 hD) (by decide) rfl rfl (Nat.le_of_ble_eq_true rfl) dX5_clear_25 (fun h6 hD => ?_)
  refine g_aload_n (pc := 28) rfl 0 rfl C dX5_clear_28 ?_
  have u8 : TA Y (r o 5) 10 6 := wt_a hw t0 (by decide) (by decide) rfl
  refine g_getR (pc := 29) C fl_RX5_28 t0 rfl dX5_clear_29 ?_
  refine g_iconst (pc := 32) (v := 0) (by decide) C dX5_clear_32 ?_
  refine g_callSv (pc := 33) (As := [.ref (r o 5), .int 0]) C ms_RX5_34 (M_JA_fill u8 hD) (by decide) rfl rfl (Nat.le_of_ble_eq_true rfl) dX5_clear_33 (fun h9 hD => ?_)
  refine g_aload_n (pc := 36) rfl 0 rfl C dX5_clear_36 ?_
  have u11 : TA Y (r o 6) 10 240 := wt_a hw t0 (by decide) (by decide) rfl
  refine g_getR (pc := 37) C fl_RX5_31 t0 rfl dX5_clear_37 ?_
  refine g_iconst (pc := 40) (v := 0) (by decide) C dX5_clear_40 ?_
  refine g_callSv (pc := 41) (As := [.ref (r o 6), .int 0]) C ms_RX5_34 (M_JA_fill u11 hD) (by decide) rfl rfl (Nat.le_of_ble_eq_true rfl) dX5_clear_41 (fun h12 hD => ?_)
  exact g_vret (pc := 44) C R dX5_clear_44 hD
def DB_Bay_begin_14 (r : TR) (l0 : Nat) (l1 : Nat) (l2 : Int32) (h : TH) (K14 : Int32 → TH → Prop) (K58 : TH → Prop) (Q : TH → Prop) : Prop :=
  (((h.1 l0 2) ≤ l2 → K58 h) ∧ (¬ (h.1 l0 2) ≤ l2 → D_Bay_startOf r l0 l2 h (fun x10 h9 => vp_in l2 6 ∧ ∀ h11, h11 = pI h9 (r l1 4) l2.toNatClampNeg x10 → D_Bay_startOf r l0 l2 h11 (fun x14 h13 => vp_in x14 40 ∧ ((¬ (h13.1 (r l0 5) x14.toNatClampNeg) = 2 → ∀ x16 : Int32, x16 = l2 + 1 → K14 x16 h13) ∧ ((h13.1 (r l0 5) x14.toNatClampNeg) = 2 → D_Sc_bringHome r l1 l2 h13 (fun h17 => ∀ x19 : Int32, x19 = l2 + 1 → K14 x19 h17)))))))
set_option maxRecDepth 100000 in
set_option maxHeartbeats 4000000 in
theorem WB_Bay_begin_14 {Y : CG} {X : CX} {r : TR} {l0 : Nat} {l1 : Nat} {l2 : Int32} {h : TH} {K14 : Int32 → TH → Prop} {K58 : TH → Prop} {Q : TH → Prop} (C : Gd Y X cX0_begin 3 RX0 5) (R : Rv Y r X Q) (t0 : TO Y l0 0) (t1 : TO Y l1 5) (hK14 : ∀ (k2 : Int32) (hh : TH), K14 k2 hh → G Y X 3 14 [(0, .ref l0), (1, .ref l1), (2, .int k2)] [] r hh) (hK58 : ∀ (hh : TH), K58 hh → G Y X 3 58 [(0, .ref l0), (1, .ref l1)] [] r hh) (hD : DB_Bay_begin_14 r l0 l1 l2 h K14 K58 Q) : G Y X 3 14 [(0, .ref l0), (1, .ref l1), (2, .int l2)] [] r h := by
  unfold DB_Bay_begin_14 at hD
  refine g_wt (fun hw => ?_)
  refine g_iload_n (pc := 14) rfl 2 rfl C dX0_begin_14 ?_
  refine g_aload_n (pc := 15) rfl 0 rfl C dX0_begin_15 ?_
  refine g_getI (pc := 16) C fl_RX0_18 t0 rfl dX0_begin_16 ?_
  refine g_icmp_ge (pc := 19) 58 C dX0_begin_19 (by decide) (fun c7 => ?_) (fun c7 => ?_)
  · have hD := hD.1 c7
    refine g_sub [0, 1] rfl ?_
    exact hK58 h hD
  · have hD := hD.2 c7
    refine g_aload_n (pc := 22) rfl 1 rfl C dX0_begin_22 ?_
    have u8 : TA Y (r l1 4) 10 6 := wt_a hw t1 (by decide) (by decide) rfl
    refine g_getR (pc := 23) C fl_RX0_113 t1 rfl dX0_begin_23 ?_
    refine g_iload_n (pc := 26) rfl 2 rfl C dX0_begin_26 ?_
    refine g_aload_n (pc := 27) rfl 0 rfl C dX0_begin_27 ?_
    refine g_iload_n (pc := 28) rfl 2 rfl C dX0_begin_28 ?_
    refine g_callVi (pc := 29) (As := [.int l2]) C mv_RX0_80 (M_Bay_startOf t0 hD) t0 (by decide) rfl rfl (Nat.le_of_ble_eq_true rfl) dX0_begin_29 (fun x10 h9 hD => ?_)
    obtain ⟨hb, hD⟩ := hD
    refine g_iast (pc := 32) C u8 hb dX0_begin_32 (fun h11 eh11 => ?_)
    have hD := hD h11 eh11
    refine g_aload_n (pc := 33) rfl 0 rfl C dX0_begin_33 ?_
    have u12 : TA Y (r l0 5) 10 40 := wt_a hw t0 (by decide) (by decide) rfl
    refine g_getR (pc := 34) C fl_RX0_27 t0 rfl dX0_begin_34 ?_
    refine g_aload_n (pc := 37) rfl 0 rfl C dX0_begin_37 ?_
    refine g_iload_n (pc := 38) rfl 2 rfl C dX0_begin_38 ?_
    refine g_callVi (pc := 39) (As := [.int l2]) C mv_RX0_80 (M_Bay_startOf t0 hD) t0 (by decide) rfl rfl (Nat.le_of_ble_eq_true rfl) dX0_begin_39 (fun x14 h13 hD => ?_)
    obtain ⟨hb, hD⟩ := hD
    refine g_iald (pc := 42) C u12 hb dX0_begin_42 ?_
    refine g_iconst (pc := 43) (v := 2) (by decide) C dX0_begin_43 ?_
    refine g_icmp_ne (pc := 44) 52 C dX0_begin_44 (by decide) (fun c15 => ?_) (fun c15 => ?_)
    · have hD := hD.1 c15
      refine g_iinc (pc := 52) (q := 2) (c := 1) (fun x16 => [(2, .int x16), (0, .ref l0), (1, .ref l1)]) C dX0_begin_52 rfl (by decide) (by decide) rfl (fun x16 ex16 => ?_)
      have hD := hD x16 ex16
      refine g_goto (pc := 55) 14 C dX0_begin_55 (by decide) ?_
      refine g_sub [1, 2, 0] rfl ?_
      exact hK14 x16 h13 hD
    · have hD := hD.2 c15
      refine g_aload_n (pc := 47) rfl 1 rfl C dX0_begin_47 ?_
      refine g_iload_n (pc := 48) rfl 2 rfl C dX0_begin_48 ?_
      refine g_callVv (pc := 49) (As := [.int l2]) C mv_RX0_168 (M_Sc_bringHome t1 hD) t1 (by decide) rfl rfl (Nat.le_of_ble_eq_true rfl) dX0_begin_49 (fun h17 hD => ?_)
      refine g_iinc (pc := 52) (q := 2) (c := 1) (fun x19 => [(2, .int x19), (0, .ref l0), (1, .ref l1)]) C dX0_begin_52 rfl (by decide) (by decide) rfl (fun x19 ex19 => ?_)
      have hD := hD x19 ex19
      refine g_goto (pc := 55) 14 C dX0_begin_55 (by decide) ?_
      refine g_sub [1, 2, 0] rfl ?_
      exact hK14 x19 h17 hD
def D_Bay_begin (r : TR) (o : Nat) (a1 : Nat) (h : TH) (Q : TH → Prop) : Prop :=
  D_Sc_clear r a1 h (fun h1 => D_Bay_allBoats r o h1 (fun x4 h3 => ∀ h5, h5 = pI h3 a1 1 x4 → ∃ n, lp (fun (K : Int32 × TH → Prop) (s : Int32 × TH) => DB_Bay_begin_14 r o a1 s.1 s.2 (fun y20 h21 => K (y20, h21)) (fun h22 => D_Bay_layDishes r o a1 h22 (fun h23 => Q h23)) Q) n (0, h5)))
set_option maxRecDepth 100000 in
set_option maxHeartbeats 4000000 in
theorem M_Bay_begin {Y : CG} {r : TR} {l : Launch} {o : Nat} {a1 : Nat} {h : TH} {Q : TH → Prop} (t0 : TO Y o 0) (t1 : TO Y a1 5) (hD : D_Bay_begin r o a1 h Q) : Mv Y r l yX0_begin cX0_begin 3 5 [.ref o, .ref a1] h Q := by
  unfold D_Bay_begin at hD
  refine Mv.of RX0 rfl (by decide) (by simp [lg_sl, Value.category]) [(0, .ref o), (1, .ref a1)] rfl (fun X hXl C R => ?_)
  subst hXl
  refine g_wt (fun hw => ?_)
  refine g_aload_n (pc := 0) rfl 1 rfl C dX0_begin_0 ?_
  refine g_callVv (pc := 1) (As := []) C mv_RX0_167 (M_Sc_clear t1 hD) t1 (by decide) rfl rfl (Nat.le_of_ble_eq_true rfl) dX0_begin_1 (fun h1 hD => ?_)
  refine g_aload_n (pc := 4) rfl 1 rfl C dX0_begin_4 ?_
  refine g_aload_n (pc := 5) rfl 0 rfl C dX0_begin_5 ?_
  refine g_callVi (pc := 6) (As := []) C mv_RX0_84 (M_Bay_allBoats t0 hD) t0 (by decide) rfl rfl (Nat.le_of_ble_eq_true rfl) dX0_begin_6 (fun x4 h3 hD => ?_)
  refine g_putI (pc := 9) C fl_RX0_148 t1 rfl rfl rfl dX0_begin_9 (fun h5 eh5 => ?_)
  have hD := hD h5 eh5
  refine g_iconst (pc := 12) (v := 0) (by decide) C dX0_begin_12 ?_
  refine g_istore_n (pc := 13) (fun _ => [(2, .int 0), (0, .ref o), (1, .ref a1)]) C dX0_begin_13 rfl (by decide) rfl (fun _ _ => ?_)
  obtain ⟨n, hD⟩ := hD
  refine g_sub [1, 2, 0] rfl ?_
  refine lp_run (fun s : Int32 × TH => G Y X 3 14 [(0, .ref o), (1, .ref a1), (2, .int s.1)] [] r s.2) (fun K s hB hK => ?_) n (0, h5) hD
  refine WB_Bay_begin_14 C R t0 t1 (fun y20 h21 hk => hK _ hk) (fun h22 hD => ?_) hB
  · refine g_aload_n (pc := 58) rfl 0 rfl C dX0_begin_58 ?_
    refine g_aload_n (pc := 59) rfl 1 rfl C dX0_begin_59 ?_
    refine g_callVv (pc := 60) (As := [.ref a1]) C mv_RX0_171 (M_Bay_layDishes t0 t1 hD) t0 (by decide) rfl rfl (Nat.le_of_ble_eq_true rfl) dX0_begin_60 (fun h23 hD => ?_)
    exact g_vret (pc := 63) C R dX0_begin_63 hD
def DB_Bay_cellsOf_5 (r : TR) (l0 : Nat) (l1 : Int32) (l2 : Int64) (l4 : Int32) (h : TH) (K5 : Int64 → Int32 → TH → Prop) (K36 : Int64 → TH → Prop) (Q : Int64 → TH → Prop) : Prop :=
  ((40 ≤ l4 → K36 l2 h) ∧ (¬ 40 ≤ l4 → vp_in l4 40 ∧ ((¬ (h.1 (r l0 5) l4.toNatClampNeg) = l1 → ∀ x6 : Int32, x6 = l4 + 1 → K5 l2 x6 h) ∧ ((h.1 (r l0 5) l4.toNatClampNeg) = l1 → ∀ x7 : Int64, x7 = l2 ||| (jshl 1 l4) → ∀ x8 : Int32, x8 = l4 + 1 → K5 x7 x8 h))))
set_option maxRecDepth 100000 in
set_option maxHeartbeats 4000000 in
theorem WB_Bay_cellsOf_5 {Y : CG} {X : CX} {r : TR} {l0 : Nat} {l1 : Int32} {l2 : Int64} {l4 : Int32} {h : TH} {K5 : Int64 → Int32 → TH → Prop} {K36 : Int64 → TH → Prop} {Q : Int64 → TH → Prop} (C : Gd Y X cX0_cellsOf 5 RX0 1) (R : Rl Y r X Q) (t0 : TO Y l0 0) (hK5 : ∀ (k2 : Int64) (k4 : Int32) (hh : TH), K5 k2 k4 hh → G Y X 5 5 [(0, .ref l0), (1, .int l1), (2, .long k2), (4, .int k4)] [] r hh) (hK36 : ∀ (k2 : Int64) (hh : TH), K36 k2 hh → G Y X 5 36 [(2, .long k2)] [] r hh) (hD : DB_Bay_cellsOf_5 r l0 l1 l2 l4 h K5 K36 Q) : G Y X 5 5 [(0, .ref l0), (1, .int l1), (2, .long l2), (4, .int l4)] [] r h := by
  unfold DB_Bay_cellsOf_5 at hD
  refine g_wt (fun hw => ?_)
  refine g_iload (pc := 5) 3 rfl C dX0_cellsOf_5 ?_
  refine g_bipush (pc := 7) (v := 40) (by decide) C dX0_cellsOf_7 ?_
  refine g_icmp_ge (pc := 9) 36 C dX0_cellsOf_9 (by decide) (fun c3 => ?_) (fun c3 => ?_)
  · have hD := hD.1 c3
    refine g_sub [2] rfl ?_
    exact hK36 l2 h hD
  · have hD := hD.2 c3
    refine g_aload_n (pc := 12) rfl 0 rfl C dX0_cellsOf_12 ?_
    have u4 : TA Y (r l0 5) 10 40 := wt_a hw t0 (by decide) (by decide) rfl
    refine g_getR (pc := 13) C fl_RX0_27 t0 rfl dX0_cellsOf_13 ?_
    refine g_iload (pc := 16) 3 rfl C dX0_cellsOf_16 ?_
    obtain ⟨hb, hD⟩ := hD
    refine g_iald (pc := 18) C u4 hb dX0_cellsOf_18 ?_
    refine g_iload_n (pc := 19) rfl 1 rfl C dX0_cellsOf_19 ?_
    refine g_icmp_ne (pc := 20) 30 C dX0_cellsOf_20 (by decide) (fun c5 => ?_) (fun c5 => ?_)
    · have hD := hD.1 c5
      refine g_iinc (pc := 30) (q := 3) (c := 1) (fun x6 => [(4, .int x6), (0, .ref l0), (1, .int l1), (2, .long l2)]) C dX0_cellsOf_30 rfl (by decide) (by decide) rfl (fun x6 ex6 => ?_)
      have hD := hD x6 ex6
      refine g_goto (pc := 33) 5 C dX0_cellsOf_33 (by decide) ?_
      refine g_sub [1, 2, 3, 0] rfl ?_
      exact hK5 l2 x6 h hD
    · have hD := hD.2 c5
      refine g_lload_n (pc := 23) rfl 2 rfl C dX0_cellsOf_23 ?_
      refine g_lconst (pc := 24) (v := 1) (by decide) C dX0_cellsOf_24 ?_
      refine g_iload (pc := 25) 3 rfl C dX0_cellsOf_25 ?_
      refine g_lshl (pc := 27) C dX0_cellsOf_27 ?_
      refine g_lor (pc := 28) C dX0_cellsOf_28 ?_
      refine g_lstore_n (pc := 29) (fun x7 => [(2, .long x7), (0, .ref l0), (1, .int l1), (4, .int l4)]) C dX0_cellsOf_29 rfl (by decide) rfl (fun x7 ex7 => ?_)
      have hD := hD x7 ex7
      refine g_iinc (pc := 30) (q := 3) (c := 1) (fun x8 => [(4, .int x8), (2, .long x7), (0, .ref l0), (1, .int l1)]) C dX0_cellsOf_30 rfl (by decide) (by decide) rfl (fun x8 ex8 => ?_)
      have hD := hD x8 ex8
      refine g_goto (pc := 33) 5 C dX0_cellsOf_33 (by decide) ?_
      refine g_sub [2, 3, 1, 0] rfl ?_
      exact hK5 x7 x8 h hD
def D_Bay_cellsOf (r : TR) (o : Nat) (a1 : Int32) (h : TH) (Q : Int64 → TH → Prop) : Prop :=
  ∃ n, lp (fun (K : Int64 × Int32 × TH → Prop) (s : Int64 × Int32 × TH) => DB_Bay_cellsOf_5 r o a1 s.1 s.2.1 s.2.2 (fun y9 y10 h11 => K (y9, y10, h11)) (fun x12 h13 => Q x12 h13) Q) n (0, 0, h)
set_option maxRecDepth 100000 in
set_option maxHeartbeats 4000000 in
theorem M_Bay_cellsOf {Y : CG} {r : TR} {l : Launch} {o : Nat} {a1 : Int32} {h : TH} {Q : Int64 → TH → Prop} (t0 : TO Y o 0) (hD : D_Bay_cellsOf r o a1 h Q) : Ml Y r l yX0_cellsOf cX0_cellsOf 5 1 [.ref o, .int a1] h Q := by
  unfold D_Bay_cellsOf at hD
  refine Ml.of RX0 rfl (by decide) (by simp [lg_sl, Value.category]) [(0, .ref o), (1, .int a1)] rfl (fun X hXl C R => ?_)
  subst hXl
  refine g_wt (fun hw => ?_)
  refine g_lconst (pc := 0) (v := 0) (by decide) C dX0_cellsOf_0 ?_
  refine g_lstore_n (pc := 1) (fun _ => [(2, .long 0), (0, .ref o), (1, .int a1)]) C dX0_cellsOf_1 rfl (by decide) rfl (fun _ _ => ?_)
  refine g_iconst (pc := 2) (v := 0) (by decide) C dX0_cellsOf_2 ?_
  refine g_istore (pc := 3) (fun _ => [(4, .int 0), (2, .long 0), (0, .ref o), (1, .int a1)]) C dX0_cellsOf_3 (by decide) rfl (fun _ _ => ?_)
  obtain ⟨n, hD⟩ := hD
  refine g_sub [2, 3, 1, 0] rfl ?_
  refine lp_run (fun s : Int64 × Int32 × TH => G Y X 5 5 [(0, .ref o), (1, .int a1), (2, .long s.1), (4, .int s.2.1)] [] r s.2.2) (fun K s hB hK => ?_) n (0, 0, h) hD
  refine WB_Bay_cellsOf_5 C R t0 (fun y9 y10 h11 hk => hK _ hk) (fun x12 h13 hD => ?_) hB
  · refine g_lload_n (pc := 36) rfl 0 rfl C dX0_cellsOf_36 ?_
    exact g_lret (pc := 37) C R dX0_cellsOf_37 hD
def DB_Bay_wayTo_2 (r : TR) (l0 : Nat) (l1 : Int32) (l2 : Int32) (l3 : Int32) (h : TH) (K2 : Int32 → TH → Prop) (K44 : TH → Prop) (Q : Int32 → TH → Prop) : Prop :=
  ((5 ≤ l3 → K44 h) ∧ (¬ 5 ≤ l3 → ((l2 < 0 → K44 h) ∧ (¬ l2 < 0 → D_Bay_beside r l0 l1 l3 h (fun x5 h4 => ((x5 = (-1) → ∀ x8 : Int32, x8 = l3 + 1 → K2 x8 h4) ∧ (¬ x5 = (-1) → vp_in x5 40 ∧ ((¬ (h4.1 (r l0 6) x5.toNatClampNeg) = l2 → ∀ x11 : Int32, x11 = l3 + 1 → K2 x11 h4) ∧ ((h4.1 (r l0 6) x5.toNatClampNeg) = l2 → Q l3 h4)))))))))
set_option maxRecDepth 100000 in
set_option maxHeartbeats 4000000 in
theorem WB_Bay_wayTo_2 {Y : CG} {X : CX} {r : TR} {l0 : Nat} {l1 : Int32} {l2 : Int32} {l3 : Int32} {h : TH} {K2 : Int32 → TH → Prop} {K44 : TH → Prop} {Q : Int32 → TH → Prop} (C : Gd Y X cX0_wayTo 5 RX0 2) (R : Ri Y r X .int Q) (t0 : TO Y l0 0) (hK2 : ∀ (k3 : Int32) (hh : TH), K2 k3 hh → G Y X 5 2 [(0, .ref l0), (1, .int l1), (2, .int l2), (3, .int k3)] [] r hh) (hK44 : ∀ (hh : TH), K44 hh → G Y X 5 44 [] [] r hh) (hD : DB_Bay_wayTo_2 r l0 l1 l2 l3 h K2 K44 Q) : G Y X 5 2 [(0, .ref l0), (1, .int l1), (2, .int l2), (3, .int l3)] [] r h := by
  unfold DB_Bay_wayTo_2 at hD
  refine g_wt (fun hw => ?_)
  refine g_iload_n (pc := 2) rfl 3 rfl C dX0_wayTo_2 ?_
  refine g_iconst (pc := 3) (v := 5) (by decide) C dX0_wayTo_3 ?_
  refine g_icmp_ge (pc := 4) 44 C dX0_wayTo_4 (by decide) (fun c2 => ?_) (fun c2 => ?_)
  · have hD := hD.1 c2
    refine g_sub [] rfl ?_
    exact hK44 h hD
  · have hD := hD.2 c2
    refine g_iload_n (pc := 7) rfl 2 rfl C dX0_wayTo_7 ?_
    refine g_if_lt (pc := 8) 44 C dX0_wayTo_8 (by decide) (fun c3 => ?_) (fun c3 => ?_)
    · have hD := hD.1 c3
      refine g_sub [] rfl ?_
      exact hK44 h hD
    · have hD := hD.2 c3
      refine g_aload_n (pc := 11) rfl 0 rfl C dX0_wayTo_11 ?_
      refine g_iload_n (pc := 12) rfl 1 rfl C dX0_wayTo_12 ?_
      refine g_iload_n (pc := 13) rfl 3 rfl C dX0_wayTo_13 ?_
      refine g_callVi (pc := 14) (As := [.int l1, .int l3]) C mv_RX0_100 (M_Bay_beside t0 hD) t0 (by decide) rfl rfl (Nat.le_of_ble_eq_true rfl) dX0_wayTo_14 (fun x5 h4 hD => ?_)
      refine g_istore (pc := 17) (fun _ => [(4, .int x5), (0, .ref l0), (1, .int l1), (2, .int l2), (3, .int l3)]) C dX0_wayTo_17 (by decide) rfl (fun _ _ => ?_)
      refine g_iload (pc := 19) 0 rfl C dX0_wayTo_19 ?_
      refine g_iconst (pc := 21) (v := (-1)) (by decide) C dX0_wayTo_21 ?_
      refine g_icmp_eq (pc := 22) 38 C dX0_wayTo_22 (by decide) (fun c7 => ?_) (fun c7 => ?_)
      · have hD := hD.1 c7
        refine g_iinc (pc := 38) (q := 4) (c := 1) (fun x8 => [(3, .int x8), (4, .int x5), (0, .ref l0), (1, .int l1), (2, .int l2)]) C dX0_wayTo_38 rfl (by decide) (by decide) rfl (fun x8 ex8 => ?_)
        have hD := hD x8 ex8
        refine g_goto (pc := 41) 2 C dX0_wayTo_41 (by decide) ?_
        refine g_sub [2, 3, 4, 0] rfl ?_
        exact hK2 x8 h4 hD
      · have hD := hD.2 c7
        refine g_aload_n (pc := 25) rfl 1 rfl C dX0_wayTo_25 ?_
        have u9 : TA Y (r l0 6) 10 40 := wt_a hw t0 (by decide) (by decide) rfl
        refine g_getR (pc := 26) C fl_RX0_31 t0 rfl dX0_wayTo_26 ?_
        refine g_iload (pc := 29) 0 rfl C dX0_wayTo_29 ?_
        obtain ⟨hb, hD⟩ := hD
        refine g_iald (pc := 31) C u9 hb dX0_wayTo_31 ?_
        refine g_iload_n (pc := 32) rfl 3 rfl C dX0_wayTo_32 ?_
        refine g_icmp_ne (pc := 33) 38 C dX0_wayTo_33 (by decide) (fun c10 => ?_) (fun c10 => ?_)
        · have hD := hD.1 c10
          refine g_iinc (pc := 38) (q := 4) (c := 1) (fun x11 => [(3, .int x11), (4, .int x5), (0, .ref l0), (1, .int l1), (2, .int l2)]) C dX0_wayTo_38 rfl (by decide) (by decide) rfl (fun x11 ex11 => ?_)
          have hD := hD x11 ex11
          refine g_goto (pc := 41) 2 C dX0_wayTo_41 (by decide) ?_
          refine g_sub [2, 3, 4, 0] rfl ?_
          exact hK2 x11 h4 hD
        · have hD := hD.2 c10
          refine g_iload_n (pc := 36) rfl 4 rfl C dX0_wayTo_36 ?_
          exact g_iret (pc := 37) C R dX0_wayTo_37 hD
def D_Bay_wayTo (r : TR) (o : Nat) (a1 : Int32) (a2 : Int32) (h : TH) (Q : Int32 → TH → Prop) : Prop :=
  ∃ n, lp (fun (K : Int32 × TH → Prop) (s : Int32 × TH) => DB_Bay_wayTo_2 r o a1 a2 s.1 s.2 (fun y12 h13 => K (y12, h13)) (fun h14 => Q (-1) h14) Q) n (1, h)
set_option maxRecDepth 100000 in
set_option maxHeartbeats 4000000 in
theorem M_Bay_wayTo {Y : CG} {r : TR} {l : Launch} {o : Nat} {a1 : Int32} {a2 : Int32} {h : TH} {Q : Int32 → TH → Prop} (t0 : TO Y o 0) (hD : D_Bay_wayTo r o a1 a2 h Q) : Mi Y r l yX0_wayTo cX0_wayTo 5 .int 2 [.ref o, .int a1, .int a2] h Q := by
  unfold D_Bay_wayTo at hD
  refine Mi.of RX0 rfl (by decide) (by simp [lg_sl, Value.category]) [(0, .ref o), (1, .int a1), (2, .int a2)] rfl (fun X hXl C R => ?_)
  subst hXl
  refine g_wt (fun hw => ?_)
  refine g_iconst (pc := 0) (v := 1) (by decide) C dX0_wayTo_0 ?_
  refine g_istore_n (pc := 1) (fun _ => [(3, .int 1), (0, .ref o), (1, .int a1), (2, .int a2)]) C dX0_wayTo_1 rfl (by decide) rfl (fun _ _ => ?_)
  obtain ⟨n, hD⟩ := hD
  refine g_sub [1, 2, 3, 0] rfl ?_
  refine lp_run (fun s : Int32 × TH => G Y X 5 2 [(0, .ref o), (1, .int a1), (2, .int a2), (3, .int s.1)] [] r s.2) (fun K s hB hK => ?_) n (1, h) hD
  refine WB_Bay_wayTo_2 C R t0 (fun y12 h13 hk => hK _ hk) (fun h14 hD => ?_) hB
  · refine g_iconst (pc := 44) (v := (-1)) (by decide) C dX0_wayTo_44 ?_
    exact g_iret (pc := 45) C R dX0_wayTo_45 hD
def DB_Bay_chart_2 (r : TR) (l0 : Nat) (l1 : Int32) (h : TH) (K2 : Int32 → TH → Prop) (K35 : TH → Prop) (Q : TH → Prop) : Prop :=
  ((40 ≤ l1 → K35 h) ∧ (¬ 40 ≤ l1 → vp_in l1 40 ∧ ((¬ (h.1 (r l0 5) l1.toNatClampNeg) = 2 → vp_in l1 40 ∧ ∀ h6, h6 = pI h (r l0 6) l1.toNatClampNeg (-1) → ∀ x7 : Int32, x7 = l1 + 1 → K2 x7 h6) ∧ ((h.1 (r l0 5) l1.toNatClampNeg) = 2 → vp_in l1 40 ∧ ∀ h8, h8 = pI h (r l0 6) l1.toNatClampNeg 0 → ∀ x9 : Int32, x9 = l1 + 1 → K2 x9 h8))))
set_option maxRecDepth 100000 in
set_option maxHeartbeats 4000000 in
theorem WB_Bay_chart_2 {Y : CG} {X : CX} {r : TR} {l0 : Nat} {l1 : Int32} {h : TH} {K2 : Int32 → TH → Prop} {K35 : TH → Prop} {Q : TH → Prop} (C : Gd Y X cX0_chart 4 RX0 3) (R : Rv Y r X Q) (t0 : TO Y l0 0) (hK2 : ∀ (k1 : Int32) (hh : TH), K2 k1 hh → G Y X 4 2 [(0, .ref l0), (1, .int k1)] [] r hh) (hK35 : ∀ (hh : TH), K35 hh → G Y X 4 35 [(0, .ref l0)] [] r hh) (hD : DB_Bay_chart_2 r l0 l1 h K2 K35 Q) : G Y X 4 2 [(0, .ref l0), (1, .int l1)] [] r h := by
  unfold DB_Bay_chart_2 at hD
  refine g_wt (fun hw => ?_)
  refine g_iload_n (pc := 2) rfl 1 rfl C dX0_chart_2 ?_
  refine g_bipush (pc := 3) (v := 40) (by decide) C dX0_chart_3 ?_
  refine g_icmp_ge (pc := 5) 35 C dX0_chart_5 (by decide) (fun c2 => ?_) (fun c2 => ?_)
  · have hD := hD.1 c2
    refine g_sub [0] rfl ?_
    exact hK35 h hD
  · have hD := hD.2 c2
    refine g_aload_n (pc := 8) rfl 0 rfl C dX0_chart_8 ?_
    have u3 : TA Y (r l0 6) 10 40 := wt_a hw t0 (by decide) (by decide) rfl
    refine g_getR (pc := 9) C fl_RX0_31 t0 rfl dX0_chart_9 ?_
    refine g_iload_n (pc := 12) rfl 1 rfl C dX0_chart_12 ?_
    refine g_aload_n (pc := 13) rfl 0 rfl C dX0_chart_13 ?_
    have u4 : TA Y (r l0 5) 10 40 := wt_a hw t0 (by decide) (by decide) rfl
    refine g_getR (pc := 14) C fl_RX0_27 t0 rfl dX0_chart_14 ?_
    refine g_iload_n (pc := 17) rfl 1 rfl C dX0_chart_17 ?_
    obtain ⟨hb, hD⟩ := hD
    refine g_iald (pc := 18) C u4 hb dX0_chart_18 ?_
    refine g_iconst (pc := 19) (v := 2) (by decide) C dX0_chart_19 ?_
    refine g_icmp_ne (pc := 20) 27 C dX0_chart_20 (by decide) (fun c5 => ?_) (fun c5 => ?_)
    · have hD := hD.1 c5
      refine g_iconst (pc := 27) (v := (-1)) (by decide) C dX0_chart_27 ?_
      obtain ⟨hb, hD⟩ := hD
      refine g_iast (pc := 28) C u3 hb dX0_chart_28 (fun h6 eh6 => ?_)
      have hD := hD h6 eh6
      refine g_iinc (pc := 29) (q := 1) (c := 1) (fun x7 => [(1, .int x7), (0, .ref l0)]) C dX0_chart_29 rfl (by decide) (by decide) rfl (fun x7 ex7 => ?_)
      have hD := hD x7 ex7
      refine g_goto (pc := 32) 2 C dX0_chart_32 (by decide) ?_
      refine g_sub [1, 0] rfl ?_
      exact hK2 x7 h6 hD
    · have hD := hD.2 c5
      refine g_iconst (pc := 23) (v := 0) (by decide) C dX0_chart_23 ?_
      refine g_goto (pc := 24) 28 C dX0_chart_24 (by decide) ?_
      obtain ⟨hb, hD⟩ := hD
      refine g_iast (pc := 28) C u3 hb dX0_chart_28 (fun h8 eh8 => ?_)
      have hD := hD h8 eh8
      refine g_iinc (pc := 29) (q := 1) (c := 1) (fun x9 => [(1, .int x9), (0, .ref l0)]) C dX0_chart_29 rfl (by decide) (by decide) rfl (fun x9 ex9 => ?_)
      have hD := hD x9 ex9
      refine g_goto (pc := 32) 2 C dX0_chart_32 (by decide) ?_
      refine g_sub [1, 0] rfl ?_
      exact hK2 x9 h8 hD
def DB_Bay_chart_53 (r : TR) (l0 : Nat) (l1 : Int32) (l2 : Int32) (l3 : Int32) (h : TH) (K39 : Int32 → Int32 → TH → Prop) (K53 : Int32 → Int32 → TH → Prop) (K105 : Int32 → TH → Prop) (K111 : TH → Prop) (Q : TH → Prop) : Prop :=
  ((40 ≤ l3 → K105 l1 h) ∧ (¬ 40 ≤ l3 → vp_in l3 40 ∧ ((¬ (h.1 (r l0 5) l3.toNatClampNeg) = 0 → ∀ x22 : Int32, x22 = l3 + 1 → K53 l1 x22 h) ∧ ((h.1 (r l0 5) l3.toNatClampNeg) = 0 → vp_in l3 40 ∧ ((¬ (h.1 (r l0 6) l3.toNatClampNeg) = (-1) → ∀ x25 : Int32, x25 = l3 + 1 → K53 l1 x25 h) ∧ ((h.1 (r l0 6) l3.toNatClampNeg) = (-1) → D_Bay_wayTo r l0 l3 (l2 - 1) h (fun x27 h26 => ((x27 = (-1) → ∀ x29 : Int32, x29 = l3 + 1 → K53 l1 x29 h26) ∧ (¬ x27 = (-1) → vp_in l3 40 ∧ ∀ h31, h31 = pI h26 (r l0 6) l3.toNatClampNeg l2 → ∀ x33 : Int32, x33 = l3 + 1 → K53 1 x33 h31)))))))))
set_option maxRecDepth 100000 in
set_option maxHeartbeats 4000000 in
theorem WB_Bay_chart_53 {Y : CG} {X : CX} {r : TR} {l0 : Nat} {l1 : Int32} {l2 : Int32} {l3 : Int32} {h : TH} {K39 : Int32 → Int32 → TH → Prop} {K53 : Int32 → Int32 → TH → Prop} {K105 : Int32 → TH → Prop} {K111 : TH → Prop} {Q : TH → Prop} (C : Gd Y X cX0_chart 4 RX0 3) (R : Rv Y r X Q) (t0 : TO Y l0 0) (hK39 : ∀ (k1 : Int32) (k2 : Int32) (hh : TH), K39 k1 k2 hh → G Y X 4 39 [(0, .ref l0), (1, .int k1), (2, .int k2)] [] r hh) (hK53 : ∀ (k1 : Int32) (k3 : Int32) (hh : TH), K53 k1 k3 hh → G Y X 4 53 [(0, .ref l0), (1, .int k1), (2, .int l2), (3, .int k3)] [] r hh) (hK105 : ∀ (k1 : Int32) (hh : TH), K105 k1 hh → G Y X 4 105 [(0, .ref l0), (1, .int k1), (2, .int l2)] [] r hh) (hK111 : ∀ (hh : TH), K111 hh → G Y X 4 111 [] [] r hh) (hD : DB_Bay_chart_53 r l0 l1 l2 l3 h K39 K53 K105 K111 Q) : G Y X 4 53 [(0, .ref l0), (1, .int l1), (2, .int l2), (3, .int l3)] [] r h := by
  unfold DB_Bay_chart_53 at hD
  refine g_wt (fun hw => ?_)
  refine g_iload_n (pc := 53) rfl 3 rfl C dX0_chart_53 ?_
  refine g_bipush (pc := 54) (v := 40) (by decide) C dX0_chart_54 ?_
  refine g_icmp_ge (pc := 56) 105 C dX0_chart_56 (by decide) (fun c19 => ?_) (fun c19 => ?_)
  · have hD := hD.1 c19
    refine g_sub [0, 1, 2] rfl ?_
    exact hK105 l1 h hD
  · have hD := hD.2 c19
    refine g_aload_n (pc := 59) rfl 0 rfl C dX0_chart_59 ?_
    have u20 : TA Y (r l0 5) 10 40 := wt_a hw t0 (by decide) (by decide) rfl
    refine g_getR (pc := 60) C fl_RX0_27 t0 rfl dX0_chart_60 ?_
    refine g_iload_n (pc := 63) rfl 3 rfl C dX0_chart_63 ?_
    obtain ⟨hb, hD⟩ := hD
    refine g_iald (pc := 64) C u20 hb dX0_chart_64 ?_
    refine g_if_ne (pc := 65) 99 C dX0_chart_65 (by decide) (fun c21 => ?_) (fun c21 => ?_)
    · have hD := hD.1 c21
      refine g_iinc (pc := 99) (q := 3) (c := 1) (fun x22 => [(3, .int x22), (0, .ref l0), (1, .int l1), (2, .int l2)]) C dX0_chart_99 rfl (by decide) (by decide) rfl (fun x22 ex22 => ?_)
      have hD := hD x22 ex22
      refine g_goto (pc := 102) 53 C dX0_chart_102 (by decide) ?_
      refine g_sub [1, 2, 3, 0] rfl ?_
      exact hK53 l1 x22 h hD
    · have hD := hD.2 c21
      refine g_aload_n (pc := 68) rfl 0 rfl C dX0_chart_68 ?_
      have u23 : TA Y (r l0 6) 10 40 := wt_a hw t0 (by decide) (by decide) rfl
      refine g_getR (pc := 69) C fl_RX0_31 t0 rfl dX0_chart_69 ?_
      refine g_iload_n (pc := 72) rfl 3 rfl C dX0_chart_72 ?_
      obtain ⟨hb, hD⟩ := hD
      refine g_iald (pc := 73) C u23 hb dX0_chart_73 ?_
      refine g_iconst (pc := 74) (v := (-1)) (by decide) C dX0_chart_74 ?_
      refine g_icmp_ne (pc := 75) 99 C dX0_chart_75 (by decide) (fun c24 => ?_) (fun c24 => ?_)
      · have hD := hD.1 c24
        refine g_iinc (pc := 99) (q := 3) (c := 1) (fun x25 => [(3, .int x25), (0, .ref l0), (1, .int l1), (2, .int l2)]) C dX0_chart_99 rfl (by decide) (by decide) rfl (fun x25 ex25 => ?_)
        have hD := hD x25 ex25
        refine g_goto (pc := 102) 53 C dX0_chart_102 (by decide) ?_
        refine g_sub [1, 2, 3, 0] rfl ?_
        exact hK53 l1 x25 h hD
      · have hD := hD.2 c24
        refine g_aload_n (pc := 78) rfl 0 rfl C dX0_chart_78 ?_
        refine g_iload_n (pc := 79) rfl 3 rfl C dX0_chart_79 ?_
        refine g_iload_n (pc := 80) rfl 2 rfl C dX0_chart_80 ?_
        refine g_iconst (pc := 81) (v := 1) (by decide) C dX0_chart_81 ?_
        refine g_isub (pc := 82) C dX0_chart_82 ?_
        refine g_callVi (pc := 83) (As := [.int l3, .int (l2 - 1)]) C mv_RX0_96 (M_Bay_wayTo t0 hD) t0 (by decide) rfl rfl (Nat.le_of_ble_eq_true rfl) dX0_chart_83 (fun x27 h26 hD => ?_)
        refine g_iconst (pc := 86) (v := (-1)) (by decide) C dX0_chart_86 ?_
        refine g_icmp_eq (pc := 87) 99 C dX0_chart_87 (by decide) (fun c28 => ?_) (fun c28 => ?_)
        · have hD := hD.1 c28
          refine g_iinc (pc := 99) (q := 3) (c := 1) (fun x29 => [(3, .int x29), (0, .ref l0), (1, .int l1), (2, .int l2)]) C dX0_chart_99 rfl (by decide) (by decide) rfl (fun x29 ex29 => ?_)
          have hD := hD x29 ex29
          refine g_goto (pc := 102) 53 C dX0_chart_102 (by decide) ?_
          refine g_sub [1, 2, 3, 0] rfl ?_
          exact hK53 l1 x29 h26 hD
        · have hD := hD.2 c28
          refine g_aload_n (pc := 90) rfl 0 rfl C dX0_chart_90 ?_
          have u30 : TA Y (r l0 6) 10 40 := wt_a hw t0 (by decide) (by decide) rfl
          refine g_getR (pc := 91) C fl_RX0_31 t0 rfl dX0_chart_91 ?_
          refine g_iload_n (pc := 94) rfl 3 rfl C dX0_chart_94 ?_
          refine g_iload_n (pc := 95) rfl 2 rfl C dX0_chart_95 ?_
          obtain ⟨hb, hD⟩ := hD
          refine g_iast (pc := 96) C u30 hb dX0_chart_96 (fun h31 eh31 => ?_)
          have hD := hD h31 eh31
          refine g_iconst (pc := 97) (v := 1) (by decide) C dX0_chart_97 ?_
          refine g_istore_n (pc := 98) (fun _ => [(1, .int 1), (0, .ref l0), (2, .int l2), (3, .int l3)]) C dX0_chart_98 rfl (by decide) rfl (fun _ _ => ?_)
          refine g_iinc (pc := 99) (q := 3) (c := 1) (fun x33 => [(3, .int x33), (1, .int 1), (0, .ref l0), (2, .int l2)]) C dX0_chart_99 rfl (by decide) (by decide) rfl (fun x33 ex33 => ?_)
          have hD := hD x33 ex33
          refine g_goto (pc := 102) 53 C dX0_chart_102 (by decide) ?_
          refine g_sub [2, 1, 3, 0] rfl ?_
          exact hK53 1 x33 h31 hD
def DB_Bay_chart_39 (r : TR) (l0 : Nat) (l1 : Int32) (l2 : Int32) (h : TH) (K39 : Int32 → Int32 → TH → Prop) (K111 : TH → Prop) (Q : TH → Prop) : Prop :=
  ((40 < l2 → K111 h) ∧ (¬ 40 < l2 → ((l1 = 0 → K111 h) ∧ (¬ l1 = 0 → ∃ n, lp (fun (K : Int32 × Int32 × TH → Prop) (s : Int32 × Int32 × TH) => DB_Bay_chart_53 r l0 s.1 l2 s.2.1 s.2.2 K39 (fun y34 y35 h36 => K (y34, y35, h36)) (fun x37 h38 => ∀ x39 : Int32, x39 = l2 + 1 → K39 x37 x39 h38) K111 Q) n (0, 0, h)))))
set_option maxRecDepth 100000 in
set_option maxHeartbeats 4000000 in
theorem WB_Bay_chart_39 {Y : CG} {X : CX} {r : TR} {l0 : Nat} {l1 : Int32} {l2 : Int32} {h : TH} {K39 : Int32 → Int32 → TH → Prop} {K111 : TH → Prop} {Q : TH → Prop} (C : Gd Y X cX0_chart 4 RX0 3) (R : Rv Y r X Q) (t0 : TO Y l0 0) (hK39 : ∀ (k1 : Int32) (k2 : Int32) (hh : TH), K39 k1 k2 hh → G Y X 4 39 [(0, .ref l0), (1, .int k1), (2, .int k2)] [] r hh) (hK111 : ∀ (hh : TH), K111 hh → G Y X 4 111 [] [] r hh) (hD : DB_Bay_chart_39 r l0 l1 l2 h K39 K111 Q) : G Y X 4 39 [(0, .ref l0), (1, .int l1), (2, .int l2)] [] r h := by
  unfold DB_Bay_chart_39 at hD
  refine g_wt (fun hw => ?_)
  refine g_iload_n (pc := 39) rfl 2 rfl C dX0_chart_39 ?_
  refine g_bipush (pc := 40) (v := 40) (by decide) C dX0_chart_40 ?_
  refine g_icmp_gt (pc := 42) 111 C dX0_chart_42 (by decide) (fun c15 => ?_) (fun c15 => ?_)
  · have hD := hD.1 c15
    refine g_sub [] rfl ?_
    exact hK111 h hD
  · have hD := hD.2 c15
    refine g_iload_n (pc := 45) rfl 1 rfl C dX0_chart_45 ?_
    refine g_if_eq (pc := 46) 111 C dX0_chart_46 (by decide) (fun c16 => ?_) (fun c16 => ?_)
    · have hD := hD.1 c16
      refine g_sub [] rfl ?_
      exact hK111 h hD
    · have hD := hD.2 c16
      refine g_iconst (pc := 49) (v := 0) (by decide) C dX0_chart_49 ?_
      refine g_istore_n (pc := 50) (fun _ => [(1, .int 0), (0, .ref l0), (2, .int l2)]) C dX0_chart_50 rfl (by decide) rfl (fun _ _ => ?_)
      refine g_iconst (pc := 51) (v := 0) (by decide) C dX0_chart_51 ?_
      refine g_istore_n (pc := 52) (fun _ => [(3, .int 0), (1, .int 0), (0, .ref l0), (2, .int l2)]) C dX0_chart_52 rfl (by decide) rfl (fun _ _ => ?_)
      obtain ⟨n, hD⟩ := hD
      refine g_sub [2, 1, 3, 0] rfl ?_
      refine lp_run (fun s : Int32 × Int32 × TH => G Y X 4 53 [(0, .ref l0), (1, .int s.1), (2, .int l2), (3, .int s.2.1)] [] r s.2.2) (fun K s hB hK => ?_) n (0, 0, h) hD
      refine WB_Bay_chart_53 C R t0 hK39 (fun y34 y35 h36 hk => hK _ hk) (fun x37 h38 hD => ?_) hK111 hB
      · refine g_iinc (pc := 105) (q := 2) (c := 1) (fun x39 => [(2, .int x39), (0, .ref l0), (1, .int x37)]) C dX0_chart_105 rfl (by decide) (by decide) rfl (fun x39 ex39 => ?_)
        have hD := hD x39 ex39
        refine g_goto (pc := 108) 39 C dX0_chart_108 (by decide) ?_
        refine g_sub [1, 2, 0] rfl ?_
        exact hK39 x37 x39 h38 hD
def D_Bay_chart (r : TR) (o : Nat) (h : TH) (Q : TH → Prop) : Prop :=
  ∃ n, lp (fun (K : Int32 × TH → Prop) (s : Int32 × TH) => DB_Bay_chart_2 r o s.1 s.2 (fun y10 h11 => K (y10, h11)) (fun h12 => ∃ n, lp (fun (K : Int32 × Int32 × TH → Prop) (s : Int32 × Int32 × TH) => DB_Bay_chart_39 r o s.1 s.2.1 s.2.2 (fun y40 y41 h42 => K (y40, y41, h42)) (fun h43 => Q h43) Q) n (1, 1, h12)) Q) n (0, h)
set_option maxRecDepth 100000 in
set_option maxHeartbeats 4000000 in
theorem M_Bay_chart {Y : CG} {r : TR} {l : Launch} {o : Nat} {h : TH} {Q : TH → Prop} (t0 : TO Y o 0) (hD : D_Bay_chart r o h Q) : Mv Y r l yX0_chart cX0_chart 4 3 [.ref o] h Q := by
  unfold D_Bay_chart at hD
  refine Mv.of RX0 rfl (by decide) (by simp [lg_sl, Value.category]) [(0, .ref o)] rfl (fun X hXl C R => ?_)
  subst hXl
  refine g_wt (fun hw => ?_)
  refine g_iconst (pc := 0) (v := 0) (by decide) C dX0_chart_0 ?_
  refine g_istore_n (pc := 1) (fun _ => [(1, .int 0), (0, .ref o)]) C dX0_chart_1 rfl (by decide) rfl (fun _ _ => ?_)
  obtain ⟨n, hD⟩ := hD
  refine g_sub [1, 0] rfl ?_
  refine lp_run (fun s : Int32 × TH => G Y X 4 2 [(0, .ref o), (1, .int s.1)] [] r s.2) (fun K s hB hK => ?_) n (0, h) hD
  refine WB_Bay_chart_2 C R t0 (fun y10 h11 hk => hK _ hk) (fun h12 hD => ?_) hB
  · refine g_iconst (pc := 35) (v := 1) (by decide) C dX0_chart_35 ?_
    refine g_istore_n (pc := 36) (fun _ => [(1, .int 1), (0, .ref o)]) C dX0_chart_36 rfl (by decide) rfl (fun _ _ => ?_)
    refine g_iconst (pc := 37) (v := 1) (by decide) C dX0_chart_37 ?_
    refine g_istore_n (pc := 38) (fun _ => [(2, .int 1), (1, .int 1), (0, .ref o)]) C dX0_chart_38 rfl (by decide) rfl (fun _ _ => ?_)
    obtain ⟨n, hD⟩ := hD
    refine g_sub [2, 1, 0] rfl ?_
    refine lp_run (fun s : Int32 × Int32 × TH => G Y X 4 39 [(0, .ref o), (1, .int s.1), (2, .int s.2.1)] [] r s.2.2) (fun K s hB hK => ?_) n (1, 1, h12) hD
    refine WB_Bay_chart_39 C R t0 (fun y40 y41 h42 hk => hK _ hk) (fun h43 hD => ?_) hB
    · exact g_vret (pc := 111) C R dX0_chart_111 hD
def DJ_Bay_lot_23 (r : TR) (l0 : Int32) (l2 : Int32) (l4 : Int32) (s0 : Int32) (s1 : Int32) (h : TH) (K5 : Int32 → Int32 → TH → Prop) (K45 : Int32 → TH → Prop) (Q : Int32 → TH → Prop) : Prop :=
  ∀ x5 : Int32, x5 = ((s1 ^^^ s0) * 1103515245) + 12345 → ∀ x6 : Int32, x6 = x5 ^^^ (jushr x5 15) → ∀ x7 : Int32, x7 = l4 + 1 → K5 x6 x7 h
set_option maxRecDepth 100000 in
set_option maxHeartbeats 4000000 in
theorem WJ_Bay_lot_23 {Y : CG} {X : CX} {r : TR} {l0 : Int32} {l2 : Int32} {l4 : Int32} {s0 : Int32} {s1 : Int32} {h : TH} {K5 : Int32 → Int32 → TH → Prop} {K45 : Int32 → TH → Prop} {Q : Int32 → TH → Prop} (C : Gd Y X cX0_lot 5 RX0 1) (R : Ri Y r X .int Q) (hK5 : ∀ (k3 : Int32) (k4 : Int32) (hh : TH), K5 k3 k4 hh → G Y X 5 5 [(0, .int l0), (2, .int l2), (3, .int k3), (4, .int k4)] [] r hh) (hK45 : ∀ (k3 : Int32) (hh : TH), K45 k3 hh → G Y X 5 45 [(0, .int l0), (3, .int k3)] [] r hh) (hD : DJ_Bay_lot_23 r l0 l2 l4 s0 s1 h K5 K45 Q) : G Y X 5 23 [(0, .int l0), (2, .int l2), (4, .int l4)] [.int s0, .int s1] r h := by
  unfold DJ_Bay_lot_23 at hD
  refine g_wt (fun hw => ?_)
  refine g_ixor (pc := 23) C dX0_lot_23 ?_
  refine g_ldc (pc := 24) cn_RX0_133 C dX0_lot_24 ?_
  refine g_imul (pc := 26) C dX0_lot_26 ?_
  refine g_sipush (pc := 27) (v := 12345) (by decide) C dX0_lot_27 ?_
  refine g_iadd (pc := 30) C dX0_lot_30 ?_
  refine g_istore_n (pc := 31) (fun x5 => [(3, .int x5), (0, .int l0), (2, .int l2), (4, .int l4)]) C dX0_lot_31 rfl (by decide) rfl (fun x5 ex5 => ?_)
  have hD := hD x5 ex5
  refine g_iload_n (pc := 32) rfl 0 rfl C dX0_lot_32 ?_
  refine g_iload_n (pc := 33) rfl 0 rfl C dX0_lot_33 ?_
  refine g_bipush (pc := 34) (v := 15) (by decide) C dX0_lot_34 ?_
  refine g_iushr (pc := 36) C dX0_lot_36 ?_
  refine g_ixor (pc := 37) C dX0_lot_37 ?_
  refine g_istore_n (pc := 38) (fun x6 => [(3, .int x6), (0, .int l0), (2, .int l2), (4, .int l4)]) C dX0_lot_38 rfl (by decide) rfl (fun x6 ex6 => ?_)
  have hD := hD x6 ex6
  refine g_iinc (pc := 39) (q := 3) (c := 1) (fun x7 => [(4, .int x7), (3, .int x6), (0, .int l0), (2, .int l2)]) C dX0_lot_39 rfl (by decide) (by decide) rfl (fun x7 ex7 => ?_)
  have hD := hD x7 ex7
  refine g_goto (pc := 42) 5 C dX0_lot_42 (by decide) ?_
  refine g_sub [2, 3, 1, 0] rfl ?_
  exact hK5 x6 x7 h hD
def DB_Bay_lot_5 (r : TR) (l0 : Int32) (l2 : Int32) (l3 : Int32) (l4 : Int32) (h : TH) (K5 : Int32 → Int32 → TH → Prop) (K45 : Int32 → TH → Prop) (Q : Int32 → TH → Prop) : Prop :=
  ((2 ≤ l4 → K45 l3 h) ∧ (¬ 2 ≤ l4 → ((¬ l4 = 0 → DJ_Bay_lot_23 r l0 l2 l4 l2 l3 h (K5) (K45) Q) ∧ (l4 = 0 → DJ_Bay_lot_23 r l0 l2 l4 69 l3 h (K5) (K45) Q))))
set_option maxRecDepth 100000 in
set_option maxHeartbeats 4000000 in
theorem WB_Bay_lot_5 {Y : CG} {X : CX} {r : TR} {l0 : Int32} {l2 : Int32} {l3 : Int32} {l4 : Int32} {h : TH} {K5 : Int32 → Int32 → TH → Prop} {K45 : Int32 → TH → Prop} {Q : Int32 → TH → Prop} (C : Gd Y X cX0_lot 5 RX0 1) (R : Ri Y r X .int Q) (hK5 : ∀ (k3 : Int32) (k4 : Int32) (hh : TH), K5 k3 k4 hh → G Y X 5 5 [(0, .int l0), (2, .int l2), (3, .int k3), (4, .int k4)] [] r hh) (hK45 : ∀ (k3 : Int32) (hh : TH), K45 k3 hh → G Y X 5 45 [(0, .int l0), (3, .int k3)] [] r hh) (hD : DB_Bay_lot_5 r l0 l2 l3 l4 h K5 K45 Q) : G Y X 5 5 [(0, .int l0), (2, .int l2), (3, .int l3), (4, .int l4)] [] r h := by
  unfold DB_Bay_lot_5 at hD
  refine g_wt (fun hw => ?_)
  refine g_iload (pc := 5) 3 rfl C dX0_lot_5 ?_
  refine g_iconst (pc := 7) (v := 2) (by decide) C dX0_lot_7 ?_
  refine g_icmp_ge (pc := 8) 45 C dX0_lot_8 (by decide) (fun c3 => ?_) (fun c3 => ?_)
  · have hD := hD.1 c3
    refine g_sub [0, 2] rfl ?_
    exact hK45 l3 h hD
  · have hD := hD.2 c3
    refine g_iload_n (pc := 11) rfl 2 rfl C dX0_lot_11 ?_
    refine g_iload (pc := 12) 3 rfl C dX0_lot_12 ?_
    refine g_if_ne (pc := 14) 22 C dX0_lot_14 (by decide) (fun c4 => ?_) (fun c4 => ?_)
    · have hD := hD.1 c4
      refine g_iload_n (pc := 22) rfl 1 rfl C dX0_lot_22 ?_
      refine g_sub [0, 1, 3] rfl ?_
      exact WJ_Bay_lot_23 C R  (hK5) (hK45) hD
    · have hD := hD.2 c4
      refine g_bipush (pc := 17) (v := 69) (by decide) C dX0_lot_17 ?_
      refine g_goto (pc := 19) 23 C dX0_lot_19 (by decide) ?_
      refine g_sub [0, 1, 3] rfl ?_
      exact WJ_Bay_lot_23 C R  (hK5) (hK45) hD
def D_Bay_lot (r : TR) (a0 : Int32) (a1 : Int32) (a2 : Int32) (h : TH) (Q : Int32 → TH → Prop) : Prop :=
  ∃ n, lp (fun (K : Int32 × Int32 × TH → Prop) (s : Int32 × Int32 × TH) => DB_Bay_lot_5 r a0 a2 s.1 s.2.1 s.2.2 (fun y8 y9 h10 => K (y8, y9, h10)) (fun x11 h12 => ((0 < a0 → ¬ a0 = 0 ∧ Q (jrem (jushr x11 1) a0) h12) ∧ (¬ 0 < a0 → Q 0 h12))) Q) n (a1, 0, h)
set_option maxRecDepth 100000 in
set_option maxHeartbeats 4000000 in
theorem M_Bay_lot {Y : CG} {r : TR} {l : Launch} {a0 : Int32} {a1 : Int32} {a2 : Int32} {h : TH} {Q : Int32 → TH → Prop} (hD : D_Bay_lot r a0 a1 a2 h Q) : Mi Y r l yX0_lot cX0_lot 5 .int 1 [.int a0, .int a1, .int a2] h Q := by
  unfold D_Bay_lot at hD
  refine Mi.of RX0 rfl (by decide) (by simp [lg_sl, Value.category]) [(0, .int a0), (1, .int a1), (2, .int a2)] rfl (fun X hXl C R => ?_)
  subst hXl
  refine g_wt (fun hw => ?_)
  refine g_iload_n (pc := 0) rfl 1 rfl C dX0_lot_0 ?_
  refine g_istore_n (pc := 1) (fun _ => [(3, .int a1), (0, .int a0), (1, .int a1), (2, .int a2)]) C dX0_lot_1 rfl (by decide) rfl (fun _ _ => ?_)
  refine g_iconst (pc := 2) (v := 0) (by decide) C dX0_lot_2 ?_
  refine g_istore (pc := 3) (fun _ => [(4, .int 0), (3, .int a1), (0, .int a0), (1, .int a1), (2, .int a2)]) C dX0_lot_3 (by decide) rfl (fun _ _ => ?_)
  obtain ⟨n, hD⟩ := hD
  refine g_sub [2, 4, 1, 0] rfl ?_
  refine lp_run (fun s : Int32 × Int32 × TH => G Y X 5 5 [(0, .int a0), (2, .int a2), (3, .int s.1), (4, .int s.2.1)] [] r s.2.2) (fun K s hB hK => ?_) n (a1, 0, h) hD
  refine WB_Bay_lot_5 C R (fun y8 y9 h10 hk => hK _ hk) (fun x11 h12 hD => ?_) hB
  · refine g_iload_n (pc := 45) rfl 0 rfl C dX0_lot_45 ?_
    refine g_if_gt (pc := 46) 53 C dX0_lot_46 (by decide) (fun c13 => ?_) (fun c13 => ?_)
    · have hD := hD.1 c13
      refine g_iload_n (pc := 53) rfl 1 rfl C dX0_lot_53 ?_
      refine g_iconst (pc := 54) (v := 1) (by decide) C dX0_lot_54 ?_
      refine g_iushr (pc := 55) C dX0_lot_55 ?_
      refine g_iload_n (pc := 56) rfl 0 rfl C dX0_lot_56 ?_
      obtain ⟨hz, hD⟩ := hD
      refine g_irem (pc := 57) hz C dX0_lot_57 ?_
      exact g_iret (pc := 58) C R dX0_lot_58 hD
    · have hD := hD.2 c13
      refine g_iconst (pc := 49) (v := 0) (by decide) C dX0_lot_49 ?_
      refine g_goto (pc := 50) 58 C dX0_lot_50 (by decide) ?_
      exact g_iret (pc := 58) C R dX0_lot_58 hD
def D_Bay_hasCold (r : TR) (o : Nat) (a1 : Int32) (a2 : Int32) (a3 : Int32) (h : TH) (Q : Int32 → TH → Prop) : Prop :=
  (((h.1 o 3) ≤ 0 → Q 0 h) ∧ (¬ (h.1 o 3) ≤ 0 → D_Bay_lot r 100 a3 ((16 * a2) + a1) h (fun x3 h2 => (((h2.1 o 3) ≤ x3 → Q 0 h2) ∧ (¬ (h2.1 o 3) ≤ x3 → Q 1 h2)))))
set_option maxRecDepth 100000 in
set_option maxHeartbeats 4000000 in
theorem M_Bay_hasCold {Y : CG} {r : TR} {l : Launch} {o : Nat} {a1 : Int32} {a2 : Int32} {a3 : Int32} {h : TH} {Q : Int32 → TH → Prop} (t0 : TO Y o 0) (hD : D_Bay_hasCold r o a1 a2 a3 h Q) : Mi Y r l yX0_hasCold cX0_hasCold 4 .boolean 2 [.ref o, .int a1, .int a2, .int a3] h Q := by
  unfold D_Bay_hasCold at hD
  refine Mi.of RX0 rfl (by decide) (by simp [lg_sl, Value.category]) [(0, .ref o), (1, .int a1), (2, .int a2), (3, .int a3)] rfl (fun X hXl C R => ?_)
  subst hXl
  refine g_wt (fun hw => ?_)
  refine g_aload_n (pc := 0) rfl 0 rfl C dX0_hasCold_0 ?_
  refine g_getI (pc := 1) C fl_RX0_21 t0 rfl dX0_hasCold_1 ?_
  refine g_if_le (pc := 4) 30 C dX0_hasCold_4 (by decide) (fun c1 => ?_) (fun c1 => ?_)
  · have hD := hD.1 c1
    refine g_iconst (pc := 30) (v := 0) (by decide) C dX0_hasCold_30 ?_
    exact g_zret (pc := 31) C R nz_0 dX0_hasCold_31 hD
  · have hD := hD.2 c1
    refine g_bipush (pc := 7) (v := 100) (by decide) C dX0_hasCold_7 ?_
    refine g_iload_n (pc := 9) rfl 3 rfl C dX0_hasCold_9 ?_
    refine g_bipush (pc := 10) (v := 16) (by decide) C dX0_hasCold_10 ?_
    refine g_iload_n (pc := 12) rfl 2 rfl C dX0_hasCold_12 ?_
    refine g_imul (pc := 13) C dX0_hasCold_13 ?_
    refine g_iload_n (pc := 14) rfl 1 rfl C dX0_hasCold_14 ?_
    refine g_iadd (pc := 15) C dX0_hasCold_15 ?_
    refine g_callSi (pc := 16) (As := [.int 100, .int a3, .int ((16 * a2) + a1)]) C ms_RX0_129 (M_Bay_lot  hD) (by decide) rfl rfl (Nat.le_of_ble_eq_true rfl) dX0_hasCold_16 (fun x3 h2 hD => ?_)
    refine g_aload_n (pc := 19) rfl 0 rfl C dX0_hasCold_19 ?_
    refine g_getI (pc := 20) C fl_RX0_21 t0 rfl dX0_hasCold_20 ?_
    refine g_icmp_ge (pc := 23) 30 C dX0_hasCold_23 (by decide) (fun c4 => ?_) (fun c4 => ?_)
    · have hD := hD.1 c4
      refine g_iconst (pc := 30) (v := 0) (by decide) C dX0_hasCold_30 ?_
      exact g_zret (pc := 31) C R nz_0 dX0_hasCold_31 hD
    · have hD := hD.2 c4
      refine g_iconst (pc := 26) (v := 1) (by decide) C dX0_hasCold_26 ?_
      refine g_goto (pc := 27) 31 C dX0_hasCold_27 (by decide) ?_
      exact g_zret (pc := 31) C R nz_1 dX0_hasCold_31 hD
def D_Sc_isSailing (r : TR) (o : Nat) (a1 : Int32) (h : TH) (Q : Int32 → TH → Prop) : Prop :=
  ((¬ ((((h.1 o 2) ||| (h.1 o 3)) >>> (a1 &&& 31)) &&& 1) = 0 → Q 0 h) ∧ (((((h.1 o 2) ||| (h.1 o 3)) >>> (a1 &&& 31)) &&& 1) = 0 → Q 1 h))
set_option maxRecDepth 100000 in
set_option maxHeartbeats 4000000 in
theorem M_Sc_isSailing {Y : CG} {r : TR} {l : Launch} {o : Nat} {a1 : Int32} {h : TH} {Q : Int32 → TH → Prop} (t0 : TO Y o 5) (hD : D_Sc_isSailing r o a1 h Q) : Mi Y r l yX5_isSailing cX5_isSailing 2 .boolean 1 [.ref o, .int a1] h Q := by
  unfold D_Sc_isSailing at hD
  refine Mi.of RX5 rfl (by decide) (by simp [lg_sl, Value.category]) [(0, .ref o), (1, .int a1)] rfl (fun X hXl C R => ?_)
  subst hXl
  refine g_wt (fun hw => ?_)
  refine g_aload_n (pc := 0) rfl 0 rfl C dX5_isSailing_0 ?_
  refine g_getI (pc := 1) C fl_RX5_18 t0 rfl dX5_isSailing_1 ?_
  refine g_aload_n (pc := 4) rfl 0 rfl C dX5_isSailing_4 ?_
  refine g_getI (pc := 5) C fl_RX5_21 t0 rfl dX5_isSailing_5 ?_
  refine g_ior (pc := 8) C dX5_isSailing_8 ?_
  refine g_iload_n (pc := 9) rfl 1 rfl C dX5_isSailing_9 ?_
  refine g_ishr (pc := 10) C dX5_isSailing_10 ?_
  refine g_iconst (pc := 11) (v := 1) (by decide) C dX5_isSailing_11 ?_
  refine g_iand (pc := 12) C dX5_isSailing_12 ?_
  refine g_if_ne (pc := 13) 20 C dX5_isSailing_13 (by decide) (fun c1 => ?_) (fun c1 => ?_)
  · have hD := hD.1 c1
    refine g_iconst (pc := 20) (v := 0) (by decide) C dX5_isSailing_20 ?_
    exact g_zret (pc := 21) C R nz_0 dX5_isSailing_21 hD
  · have hD := hD.2 c1
    refine g_iconst (pc := 16) (v := 1) (by decide) C dX5_isSailing_16 ?_
    refine g_goto (pc := 17) 21 C dX5_isSailing_17 (by decide) ?_
    exact g_zret (pc := 21) C R nz_1 dX5_isSailing_21 hD
def D_Sc_laidHour (r : TR) (o : Nat) (a1 : Int32) (h : TH) (Q : Int32 → TH → Prop) : Prop :=
  vp_in a1 240 ∧ Q (((h.1 (r o 6) a1.toNatClampNeg) / 16) - 1) h
set_option maxRecDepth 100000 in
set_option maxHeartbeats 4000000 in
theorem M_Sc_laidHour {Y : CG} {r : TR} {l : Launch} {o : Nat} {a1 : Int32} {h : TH} {Q : Int32 → TH → Prop} (t0 : TO Y o 5) (hD : D_Sc_laidHour r o a1 h Q) : Mi Y r l yX5_laidHour cX5_laidHour 2 .int 1 [.ref o, .int a1] h Q := by
  unfold D_Sc_laidHour at hD
  refine Mi.of RX5 rfl (by decide) (by simp [lg_sl, Value.category]) [(0, .ref o), (1, .int a1)] rfl (fun X hXl C R => ?_)
  subst hXl
  refine g_wt (fun hw => ?_)
  refine g_aload_n (pc := 0) rfl 0 rfl C dX5_laidHour_0 ?_
  have u1 : TA Y (r o 6) 10 240 := wt_a hw t0 (by decide) (by decide) rfl
  refine g_getR (pc := 1) C fl_RX5_31 t0 rfl dX5_laidHour_1 ?_
  refine g_iload_n (pc := 4) rfl 1 rfl C dX5_laidHour_4 ?_
  obtain ⟨hb, hD⟩ := hD
  refine g_iald (pc := 5) C u1 hb dX5_laidHour_5 ?_
  refine g_bipush (pc := 6) (v := 16) (by decide) C dX5_laidHour_6 ?_
  refine g_idiv (pc := 8) (by decide) C dX5_laidHour_8 ?_
  refine g_iconst (pc := 9) (v := 1) (by decide) C dX5_laidHour_9 ?_
  refine g_isub (pc := 10) C dX5_laidHour_10 ?_
  exact g_iret (pc := 11) C R dX5_laidHour_11 hD
def D_Sc_liesTill (r : TR) (o : Nat) (a1 : Int32) (h : TH) (Q : Int32 → TH → Prop) : Prop :=
  vp_in a1 240 ∧ vp_in a1 240 ∧ Q ((((h.1 (r o 6) a1.toNatClampNeg) / 16) - 1) + (jrem (h.1 (r o 6) a1.toNatClampNeg) 16)) h
set_option maxRecDepth 100000 in
set_option maxHeartbeats 4000000 in
theorem M_Sc_liesTill {Y : CG} {r : TR} {l : Launch} {o : Nat} {a1 : Int32} {h : TH} {Q : Int32 → TH → Prop} (t0 : TO Y o 5) (hD : D_Sc_liesTill r o a1 h Q) : Mi Y r l yX5_liesTill cX5_liesTill 2 .int 1 [.ref o, .int a1] h Q := by
  unfold D_Sc_liesTill at hD
  refine Mi.of RX5 rfl (by decide) (by simp [lg_sl, Value.category]) [(0, .ref o), (1, .int a1)] rfl (fun X hXl C R => ?_)
  subst hXl
  refine g_wt (fun hw => ?_)
  refine g_aload_n (pc := 0) rfl 0 rfl C dX5_liesTill_0 ?_
  have u1 : TA Y (r o 6) 10 240 := wt_a hw t0 (by decide) (by decide) rfl
  refine g_getR (pc := 1) C fl_RX5_31 t0 rfl dX5_liesTill_1 ?_
  refine g_iload_n (pc := 4) rfl 1 rfl C dX5_liesTill_4 ?_
  obtain ⟨hb, hD⟩ := hD
  refine g_iald (pc := 5) C u1 hb dX5_liesTill_5 ?_
  refine g_bipush (pc := 6) (v := 16) (by decide) C dX5_liesTill_6 ?_
  refine g_idiv (pc := 8) (by decide) C dX5_liesTill_8 ?_
  refine g_iconst (pc := 9) (v := 1) (by decide) C dX5_liesTill_9 ?_
  refine g_isub (pc := 10) C dX5_liesTill_10 ?_
  refine g_aload_n (pc := 11) rfl 0 rfl C dX5_liesTill_11 ?_
  have u2 : TA Y (r o 6) 10 240 := wt_a hw t0 (by decide) (by decide) rfl
  refine g_getR (pc := 12) C fl_RX5_31 t0 rfl dX5_liesTill_12 ?_
  refine g_iload_n (pc := 15) rfl 1 rfl C dX5_liesTill_15 ?_
  obtain ⟨hb, hD⟩ := hD
  refine g_iald (pc := 16) C u2 hb dX5_liesTill_16 ?_
  refine g_bipush (pc := 17) (v := 16) (by decide) C dX5_liesTill_17 ?_
  refine g_irem (pc := 19) (by decide) C dX5_liesTill_19 ?_
  refine g_iadd (pc := 20) C dX5_liesTill_20 ?_
  exact g_iret (pc := 21) C R dX5_liesTill_21 hD
def D_Sc_wasLaid (r : TR) (o : Nat) (a1 : Int32) (h : TH) (Q : Int32 → TH → Prop) : Prop :=
  vp_in a1 240 ∧ (((h.1 (r o 6) a1.toNatClampNeg) = 0 → Q 0 h) ∧ (¬ (h.1 (r o 6) a1.toNatClampNeg) = 0 → Q 1 h))
set_option maxRecDepth 100000 in
set_option maxHeartbeats 4000000 in
theorem M_Sc_wasLaid {Y : CG} {r : TR} {l : Launch} {o : Nat} {a1 : Int32} {h : TH} {Q : Int32 → TH → Prop} (t0 : TO Y o 5) (hD : D_Sc_wasLaid r o a1 h Q) : Mi Y r l yX5_wasLaid cX5_wasLaid 2 .boolean 1 [.ref o, .int a1] h Q := by
  unfold D_Sc_wasLaid at hD
  refine Mi.of RX5 rfl (by decide) (by simp [lg_sl, Value.category]) [(0, .ref o), (1, .int a1)] rfl (fun X hXl C R => ?_)
  subst hXl
  refine g_wt (fun hw => ?_)
  refine g_aload_n (pc := 0) rfl 0 rfl C dX5_wasLaid_0 ?_
  have u1 : TA Y (r o 6) 10 240 := wt_a hw t0 (by decide) (by decide) rfl
  refine g_getR (pc := 1) C fl_RX5_31 t0 rfl dX5_wasLaid_1 ?_
  refine g_iload_n (pc := 4) rfl 1 rfl C dX5_wasLaid_4 ?_
  obtain ⟨hb, hD⟩ := hD
  refine g_iald (pc := 5) C u1 hb dX5_wasLaid_5 ?_
  refine g_if_eq (pc := 6) 13 C dX5_wasLaid_6 (by decide) (fun c2 => ?_) (fun c2 => ?_)
  · have hD := hD.1 c2
    refine g_iconst (pc := 13) (v := 0) (by decide) C dX5_wasLaid_13 ?_
    exact g_zret (pc := 14) C R nz_0 dX5_wasLaid_14 hD
  · have hD := hD.2 c2
    refine g_iconst (pc := 9) (v := 1) (by decide) C dX5_wasLaid_9 ?_
    refine g_goto (pc := 10) 14 C dX5_wasLaid_10 (by decide) ?_
    exact g_zret (pc := 14) C R nz_1 dX5_wasLaid_14 hD
def D_Sc_lies (r : TR) (o : Nat) (a1 : Int32) (h : TH) (Q : Int32 → TH → Prop) : Prop :=
  D_Sc_wasLaid r o a1 h (fun x2 h1 => ((x2 = 0 → Q 0 h1) ∧ (¬ x2 = 0 → D_Sc_liesTill r o a1 h1 (fun x5 h4 => ((x5 < (h1.1 o 0) → Q 0 h4) ∧ (¬ x5 < (h1.1 o 0) → Q 1 h4))))))
set_option maxRecDepth 100000 in
set_option maxHeartbeats 4000000 in
theorem M_Sc_lies {Y : CG} {r : TR} {l : Launch} {o : Nat} {a1 : Int32} {h : TH} {Q : Int32 → TH → Prop} (t0 : TO Y o 5) (hD : D_Sc_lies r o a1 h Q) : Mi Y r l yX5_lies cX5_lies 2 .boolean 2 [.ref o, .int a1] h Q := by
  unfold D_Sc_lies at hD
  refine Mi.of RX5 rfl (by decide) (by simp [lg_sl, Value.category]) [(0, .ref o), (1, .int a1)] rfl (fun X hXl C R => ?_)
  subst hXl
  refine g_wt (fun hw => ?_)
  refine g_aload_n (pc := 0) rfl 0 rfl C dX5_lies_0 ?_
  refine g_iload_n (pc := 1) rfl 1 rfl C dX5_lies_1 ?_
  refine g_callVi (pc := 2) (As := [.int a1]) C mv_RX5_72 (M_Sc_wasLaid t0 hD) t0 (by decide) rfl rfl (Nat.le_of_ble_eq_true rfl) dX5_lies_2 (fun x2 h1 hD => ?_)
  refine g_if_eq (pc := 5) 24 C dX5_lies_5 (by decide) (fun c3 => ?_) (fun c3 => ?_)
  · have hD := hD.1 c3
    refine g_iconst (pc := 24) (v := 0) (by decide) C dX5_lies_24 ?_
    exact g_zret (pc := 25) C R nz_0 dX5_lies_25 hD
  · have hD := hD.2 c3
    refine g_aload_n (pc := 8) rfl 0 rfl C dX5_lies_8 ?_
    refine g_getI (pc := 9) C fl_RX5_9 t0 rfl dX5_lies_9 ?_
    refine g_aload_n (pc := 12) rfl 0 rfl C dX5_lies_12 ?_
    refine g_iload_n (pc := 13) rfl 1 rfl C dX5_lies_13 ?_
    refine g_callVi (pc := 14) (As := [.int a1]) C mv_RX5_75 (M_Sc_liesTill t0 hD) t0 (by decide) rfl rfl (Nat.le_of_ble_eq_true rfl) dX5_lies_14 (fun x5 h4 hD => ?_)
    refine g_icmp_gt (pc := 17) 24 C dX5_lies_17 (by decide) (fun c6 => ?_) (fun c6 => ?_)
    · have hD := hD.1 c6
      refine g_iconst (pc := 24) (v := 0) (by decide) C dX5_lies_24 ?_
      exact g_zret (pc := 25) C R nz_0 dX5_lies_25 hD
    · have hD := hD.2 c6
      refine g_iconst (pc := 20) (v := 1) (by decide) C dX5_lies_20 ?_
      refine g_goto (pc := 21) 25 C dX5_lies_21 (by decide) ?_
      exact g_zret (pc := 25) C R nz_1 dX5_lies_25 hD
def DJ_Bay_dishesSmelledBy_77 (r : TR) (l0 : Nat) (l1 : Nat) (l2 : Int32) (l4 : Int32) (l5 : Int32) (l6 : Int32) (s0 : Int32) (h : TH) (K29 : Int32 → Int32 → TH → Prop) (K114 : Int32 → TH → Prop) (Q : Int32 → TH → Prop) : Prop :=
  ((l5 = l2 → ∀ x18 : Int32, x18 = l5 + 1 → K29 l4 x18 h) ∧ (¬ l5 = l2 → D_Sc_lies r l1 l6 h (fun x20 h19 => ((x20 = 0 → ∀ x22 : Int32, x22 = l5 + 1 → K29 l4 x22 h19) ∧ (¬ x20 = 0 → ((s0 = 0 → ∀ x24 : Int32, x24 = l5 + 1 → K29 l4 x24 h19) ∧ (¬ s0 = 0 → ∀ x25 : Int32, x25 = l4 ||| ((1 : Int32) <<< (l5 &&& 31)) → ∀ x26 : Int32, x26 = l5 + 1 → K29 x25 x26 h19)))))))
set_option maxRecDepth 100000 in
set_option maxHeartbeats 4000000 in
theorem WJ_Bay_dishesSmelledBy_77 {Y : CG} {X : CX} {r : TR} {l0 : Nat} {l1 : Nat} {l2 : Int32} {l4 : Int32} {l5 : Int32} {l6 : Int32} {s0 : Int32} {h : TH} {K29 : Int32 → Int32 → TH → Prop} {K114 : Int32 → TH → Prop} {Q : Int32 → TH → Prop} (C : Gd Y X cX0_dishesSmelledBy 8 RX0 3) (R : Ri Y r X .int Q) (t0 : TO Y l0 0) (t1 : TO Y l1 5) (hK29 : ∀ (k4 : Int32) (k5 : Int32) (hh : TH), K29 k4 k5 hh → G Y X 8 29 [(0, .ref l0), (1, .ref l1), (2, .int l2), (4, .int k4), (5, .int k5)] [] r hh) (hK114 : ∀ (k4 : Int32) (hh : TH), K114 k4 hh → G Y X 8 114 [(4, .int k4)] [] r hh) (hD : DJ_Bay_dishesSmelledBy_77 r l0 l1 l2 l4 l5 l6 s0 h K29 K114 Q) : G Y X 8 77 [(0, .ref l0), (1, .ref l1), (2, .int l2), (4, .int l4), (5, .int l5), (6, .int l6)] [.int s0] r h := by
  unfold DJ_Bay_dishesSmelledBy_77 at hD
  refine g_wt (fun hw => ?_)
  refine g_istore (pc := 77) (fun _ => [(7, .int s0), (0, .ref l0), (1, .ref l1), (2, .int l2), (4, .int l4), (5, .int l5), (6, .int l6)]) C dX0_dishesSmelledBy_77 (by decide) rfl (fun _ _ => ?_)
  refine g_iload (pc := 79) 5 rfl C dX0_dishesSmelledBy_79 ?_
  refine g_iload_n (pc := 81) rfl 3 rfl C dX0_dishesSmelledBy_81 ?_
  refine g_icmp_eq (pc := 82) 108 C dX0_dishesSmelledBy_82 (by decide) (fun c17 => ?_) (fun c17 => ?_)
  · have hD := hD.1 c17
    refine g_iinc (pc := 108) (q := 5) (c := 1) (fun x18 => [(5, .int x18), (7, .int s0), (0, .ref l0), (1, .ref l1), (2, .int l2), (4, .int l4), (6, .int l6)]) C dX0_dishesSmelledBy_108 rfl (by decide) (by decide) rfl (fun x18 ex18 => ?_)
    have hD := hD x18 ex18
    refine g_goto (pc := 111) 29 C dX0_dishesSmelledBy_111 (by decide) ?_
    refine g_sub [2, 3, 4, 5, 0] rfl ?_
    exact hK29 l4 x18 h hD
  · have hD := hD.2 c17
    refine g_aload_n (pc := 85) rfl 2 rfl C dX0_dishesSmelledBy_85 ?_
    refine g_iload (pc := 86) 6 rfl C dX0_dishesSmelledBy_86 ?_
    refine g_callVi (pc := 88) (As := [.int l6]) C mv_RX0_141 (M_Sc_lies t1 hD) t1 (by decide) rfl rfl (Nat.le_of_ble_eq_true rfl) dX0_dishesSmelledBy_88 (fun x20 h19 hD => ?_)
    refine g_if_eq (pc := 91) 108 C dX0_dishesSmelledBy_91 (by decide) (fun c21 => ?_) (fun c21 => ?_)
    · have hD := hD.1 c21
      refine g_iinc (pc := 108) (q := 5) (c := 1) (fun x22 => [(5, .int x22), (7, .int s0), (0, .ref l0), (1, .ref l1), (2, .int l2), (4, .int l4), (6, .int l6)]) C dX0_dishesSmelledBy_108 rfl (by decide) (by decide) rfl (fun x22 ex22 => ?_)
      have hD := hD x22 ex22
      refine g_goto (pc := 111) 29 C dX0_dishesSmelledBy_111 (by decide) ?_
      refine g_sub [2, 3, 4, 5, 0] rfl ?_
      exact hK29 l4 x22 h19 hD
    · have hD := hD.2 c21
      refine g_iload (pc := 94) 0 rfl C dX0_dishesSmelledBy_94 ?_
      refine g_if_eq (pc := 96) 108 C dX0_dishesSmelledBy_96 (by decide) (fun c23 => ?_) (fun c23 => ?_)
      · have hD := hD.1 c23
        refine g_iinc (pc := 108) (q := 5) (c := 1) (fun x24 => [(5, .int x24), (7, .int s0), (0, .ref l0), (1, .ref l1), (2, .int l2), (4, .int l4), (6, .int l6)]) C dX0_dishesSmelledBy_108 rfl (by decide) (by decide) rfl (fun x24 ex24 => ?_)
        have hD := hD x24 ex24
        refine g_goto (pc := 111) 29 C dX0_dishesSmelledBy_111 (by decide) ?_
        refine g_sub [2, 3, 4, 5, 0] rfl ?_
        exact hK29 l4 x24 h19 hD
      · have hD := hD.2 c23
        refine g_iload (pc := 99) 4 rfl C dX0_dishesSmelledBy_99 ?_
        refine g_iconst (pc := 101) (v := 1) (by decide) C dX0_dishesSmelledBy_101 ?_
        refine g_iload (pc := 102) 5 rfl C dX0_dishesSmelledBy_102 ?_
        refine g_ishl (pc := 104) C dX0_dishesSmelledBy_104 ?_
        refine g_ior (pc := 105) C dX0_dishesSmelledBy_105 ?_
        refine g_istore (pc := 106) (fun x25 => [(4, .int x25), (7, .int s0), (0, .ref l0), (1, .ref l1), (2, .int l2), (5, .int l5), (6, .int l6)]) C dX0_dishesSmelledBy_106 (by decide) rfl (fun x25 ex25 => ?_)
        have hD := hD x25 ex25
        refine g_iinc (pc := 108) (q := 5) (c := 1) (fun x26 => [(5, .int x26), (4, .int x25), (7, .int s0), (0, .ref l0), (1, .ref l1), (2, .int l2), (6, .int l6)]) C dX0_dishesSmelledBy_108 rfl (by decide) (by decide) rfl (fun x26 ex26 => ?_)
        have hD := hD x26 ex26
        refine g_goto (pc := 111) 29 C dX0_dishesSmelledBy_111 (by decide) ?_
        refine g_sub [3, 4, 5, 1, 0] rfl ?_
        exact hK29 x25 x26 h19 hD
def DB_Bay_dishesSmelledBy_29 (r : TR) (l0 : Nat) (l1 : Nat) (l2 : Int32) (l4 : Int32) (l5 : Int32) (h : TH) (K29 : Int32 → Int32 → TH → Prop) (K114 : Int32 → TH → Prop) (Q : Int32 → TH → Prop) : Prop :=
  (((h.1 l0 2) ≤ l5 → K114 l4 h) ∧ (¬ (h.1 l0 2) ≤ l5 → vp_in l2 6 ∧ ∀ x11 : Int32, x11 = (40 * l5) + (h.1 (r l1 4) l2.toNatClampNeg) → D_Sc_laidHour r l1 x11 h (fun x13 h12 => vp_in l2 6 ∧ (((h12.1 (r l0 11) l2.toNatClampNeg) < ((h.1 l1 0) - x13) → DJ_Bay_dishesSmelledBy_77 r l0 l1 l2 l4 l5 x11 0 h12 (K29) (K114) Q) ∧ (¬ (h12.1 (r l0 11) l2.toNatClampNeg) < ((h.1 l1 0) - x13) → DJ_Bay_dishesSmelledBy_77 r l0 l1 l2 l4 l5 x11 1 h12 (K29) (K114) Q)))))
set_option maxRecDepth 100000 in
set_option maxHeartbeats 4000000 in
theorem WB_Bay_dishesSmelledBy_29 {Y : CG} {X : CX} {r : TR} {l0 : Nat} {l1 : Nat} {l2 : Int32} {l4 : Int32} {l5 : Int32} {h : TH} {K29 : Int32 → Int32 → TH → Prop} {K114 : Int32 → TH → Prop} {Q : Int32 → TH → Prop} (C : Gd Y X cX0_dishesSmelledBy 8 RX0 3) (R : Ri Y r X .int Q) (t0 : TO Y l0 0) (t1 : TO Y l1 5) (hK29 : ∀ (k4 : Int32) (k5 : Int32) (hh : TH), K29 k4 k5 hh → G Y X 8 29 [(0, .ref l0), (1, .ref l1), (2, .int l2), (4, .int k4), (5, .int k5)] [] r hh) (hK114 : ∀ (k4 : Int32) (hh : TH), K114 k4 hh → G Y X 8 114 [(4, .int k4)] [] r hh) (hD : DB_Bay_dishesSmelledBy_29 r l0 l1 l2 l4 l5 h K29 K114 Q) : G Y X 8 29 [(0, .ref l0), (1, .ref l1), (2, .int l2), (4, .int l4), (5, .int l5)] [] r h := by
  unfold DB_Bay_dishesSmelledBy_29 at hD
  refine g_wt (fun hw => ?_)
  refine g_iload (pc := 29) 4 rfl C dX0_dishesSmelledBy_29 ?_
  refine g_aload_n (pc := 31) rfl 0 rfl C dX0_dishesSmelledBy_31 ?_
  refine g_getI (pc := 32) C fl_RX0_18 t0 rfl dX0_dishesSmelledBy_32 ?_
  refine g_icmp_ge (pc := 35) 114 C dX0_dishesSmelledBy_35 (by decide) (fun c9 => ?_) (fun c9 => ?_)
  · have hD := hD.1 c9
    refine g_sub [3] rfl ?_
    exact hK114 l4 h hD
  · have hD := hD.2 c9
    refine g_bipush (pc := 38) (v := 40) (by decide) C dX0_dishesSmelledBy_38 ?_
    refine g_iload (pc := 40) 4 rfl C dX0_dishesSmelledBy_40 ?_
    refine g_imul (pc := 42) C dX0_dishesSmelledBy_42 ?_
    refine g_aload_n (pc := 43) rfl 1 rfl C dX0_dishesSmelledBy_43 ?_
    have u10 : TA Y (r l1 4) 10 6 := wt_a hw t1 (by decide) (by decide) rfl
    refine g_getR (pc := 44) C fl_RX0_113 t1 rfl dX0_dishesSmelledBy_44 ?_
    refine g_iload_n (pc := 47) rfl 2 rfl C dX0_dishesSmelledBy_47 ?_
    obtain ⟨hb, hD⟩ := hD
    refine g_iald (pc := 48) C u10 hb dX0_dishesSmelledBy_48 ?_
    refine g_iadd (pc := 49) C dX0_dishesSmelledBy_49 ?_
    refine g_istore (pc := 50) (fun x11 => [(6, .int x11), (0, .ref l0), (1, .ref l1), (2, .int l2), (4, .int l4), (5, .int l5)]) C dX0_dishesSmelledBy_50 (by decide) rfl (fun x11 ex11 => ?_)
    have hD := hD x11 ex11
    refine g_aload_n (pc := 52) rfl 2 rfl C dX0_dishesSmelledBy_52 ?_
    refine g_getI (pc := 53) C fl_RX0_103 t1 rfl dX0_dishesSmelledBy_53 ?_
    refine g_aload_n (pc := 56) rfl 2 rfl C dX0_dishesSmelledBy_56 ?_
    refine g_iload (pc := 57) 0 rfl C dX0_dishesSmelledBy_57 ?_
    refine g_callVi (pc := 59) (As := [.int x11]) C mv_RX0_138 (M_Sc_laidHour t1 hD) t1 (by decide) rfl rfl (Nat.le_of_ble_eq_true rfl) dX0_dishesSmelledBy_59 (fun x13 h12 hD => ?_)
    refine g_isub (pc := 62) C dX0_dishesSmelledBy_62 ?_
    refine g_aload_n (pc := 63) rfl 1 rfl C dX0_dishesSmelledBy_63 ?_
    have u14 : TA Y (r l0 11) 10 6 := wt_a hw t0 (by decide) (by decide) rfl
    refine g_getR (pc := 64) C fl_RX0_47 t0 rfl dX0_dishesSmelledBy_64 ?_
    refine g_iload_n (pc := 67) rfl 3 rfl C dX0_dishesSmelledBy_67 ?_
    obtain ⟨hb, hD⟩ := hD
    refine g_iald (pc := 68) C u14 hb dX0_dishesSmelledBy_68 ?_
    refine g_icmp_gt (pc := 69) 76 C dX0_dishesSmelledBy_69 (by decide) (fun c15 => ?_) (fun c15 => ?_)
    · have hD := hD.1 c15
      refine g_iconst (pc := 76) (v := 0) (by decide) C dX0_dishesSmelledBy_76 ?_
      refine g_sub [1, 2, 3, 4, 5, 0] rfl ?_
      exact WJ_Bay_dishesSmelledBy_77 C R t0 t1 (hK29) (hK114) hD
    · have hD := hD.2 c15
      refine g_iconst (pc := 72) (v := 1) (by decide) C dX0_dishesSmelledBy_72 ?_
      refine g_goto (pc := 73) 77 C dX0_dishesSmelledBy_73 (by decide) ?_
      refine g_sub [1, 2, 3, 4, 5, 0] rfl ?_
      exact WJ_Bay_dishesSmelledBy_77 C R t0 t1 (hK29) (hK114) hD
def D_Bay_dishesSmelledBy (r : TR) (o : Nat) (a1 : Nat) (a2 : Int32) (a3 : Int32) (h : TH) (Q : Int32 → TH → Prop) : Prop :=
  D_Sc_isSailing r a1 a2 h (fun x2 h1 => ((x2 = 0 → Q 0 h1) ∧ (¬ x2 = 0 → D_Bay_hasCold r o a2 (h1.1 a1 0) a3 h1 (fun x5 h4 => ((x5 = 0 → ∃ n, lp (fun (K : Int32 × Int32 × TH → Prop) (s : Int32 × Int32 × TH) => DB_Bay_dishesSmelledBy_29 r o a1 a2 s.1 s.2.1 s.2.2 (fun y27 y28 h29 => K (y27, y28, h29)) (fun x30 h31 => Q x30 h31) Q) n (0, 0, h4)) ∧ (¬ x5 = 0 → Q 0 h4))))))
set_option maxRecDepth 100000 in
set_option maxHeartbeats 4000000 in
theorem M_Bay_dishesSmelledBy {Y : CG} {r : TR} {l : Launch} {o : Nat} {a1 : Nat} {a2 : Int32} {a3 : Int32} {h : TH} {Q : Int32 → TH → Prop} (t0 : TO Y o 0) (t1 : TO Y a1 5) (hD : D_Bay_dishesSmelledBy r o a1 a2 a3 h Q) : Mi Y r l yX0_dishesSmelledBy cX0_dishesSmelledBy 8 .int 3 [.ref o, .ref a1, .int a2, .int a3] h Q := by
  unfold D_Bay_dishesSmelledBy at hD
  refine Mi.of RX0 rfl (by decide) (by simp [lg_sl, Value.category]) [(0, .ref o), (1, .ref a1), (2, .int a2), (3, .int a3)] rfl (fun X hXl C R => ?_)
  subst hXl
  refine g_wt (fun hw => ?_)
  refine g_aload_n (pc := 0) rfl 1 rfl C dX0_dishesSmelledBy_0 ?_
  refine g_iload_n (pc := 1) rfl 2 rfl C dX0_dishesSmelledBy_1 ?_
  refine g_callVi (pc := 2) (As := [.int a2]) C mv_RX0_109 (M_Sc_isSailing t1 hD) t1 (by decide) rfl rfl (Nat.le_of_ble_eq_true rfl) dX0_dishesSmelledBy_2 (fun x2 h1 hD => ?_)
  refine g_if_eq (pc := 5) 21 C dX0_dishesSmelledBy_5 (by decide) (fun c3 => ?_) (fun c3 => ?_)
  · have hD := hD.1 c3
    refine g_iconst (pc := 21) (v := 0) (by decide) C dX0_dishesSmelledBy_21 ?_
    exact g_iret (pc := 22) C R dX0_dishesSmelledBy_22 hD
  · have hD := hD.2 c3
    refine g_aload_n (pc := 8) rfl 0 rfl C dX0_dishesSmelledBy_8 ?_
    refine g_iload_n (pc := 9) rfl 2 rfl C dX0_dishesSmelledBy_9 ?_
    refine g_aload_n (pc := 10) rfl 1 rfl C dX0_dishesSmelledBy_10 ?_
    refine g_getI (pc := 11) C fl_RX0_103 t1 rfl dX0_dishesSmelledBy_11 ?_
    refine g_iload_n (pc := 14) rfl 3 rfl C dX0_dishesSmelledBy_14 ?_
    refine g_callVi (pc := 15) (As := [.int a2, .int (h1.1 a1 0), .int a3]) C mv_RX0_134 (M_Bay_hasCold t0 hD) t0 (by decide) rfl rfl (Nat.le_of_ble_eq_true rfl) dX0_dishesSmelledBy_15 (fun x5 h4 hD => ?_)
    refine g_if_eq (pc := 18) 23 C dX0_dishesSmelledBy_18 (by decide) (fun c6 => ?_) (fun c6 => ?_)
    · have hD := hD.1 c6
      refine g_iconst (pc := 23) (v := 0) (by decide) C dX0_dishesSmelledBy_23 ?_
      refine g_istore (pc := 24) (fun _ => [(4, .int 0), (0, .ref o), (1, .ref a1), (2, .int a2), (3, .int a3)]) C dX0_dishesSmelledBy_24 (by decide) rfl (fun _ _ => ?_)
      refine g_iconst (pc := 26) (v := 0) (by decide) C dX0_dishesSmelledBy_26 ?_
      refine g_istore (pc := 27) (fun _ => [(5, .int 0), (4, .int 0), (0, .ref o), (1, .ref a1), (2, .int a2), (3, .int a3)]) C dX0_dishesSmelledBy_27 (by decide) rfl (fun _ _ => ?_)
      obtain ⟨n, hD⟩ := hD
      refine g_sub [2, 3, 4, 1, 0] rfl ?_
      refine lp_run (fun s : Int32 × Int32 × TH => G Y X 8 29 [(0, .ref o), (1, .ref a1), (2, .int a2), (4, .int s.1), (5, .int s.2.1)] [] r s.2.2) (fun K s hB hK => ?_) n (0, 0, h4) hD
      refine WB_Bay_dishesSmelledBy_29 C R t0 t1 (fun y27 y28 h29 hk => hK _ hk) (fun x30 h31 hD => ?_) hB
      · refine g_iload (pc := 114) 0 rfl C dX0_dishesSmelledBy_114 ?_
        exact g_iret (pc := 116) C R dX0_dishesSmelledBy_116 hD
    · have hD := hD.2 c6
      refine g_iconst (pc := 21) (v := 0) (by decide) C dX0_dishesSmelledBy_21 ?_
      exact g_iret (pc := 22) C R dX0_dishesSmelledBy_22 hD
def DB_Bay_isNamed_2 (r : TR) (l0 : Nat) (l1 : Int64) (l3 : Int32) (h : TH) (K2 : Int32 → TH → Prop) (K29 : TH → Prop) (Q : Int32 → TH → Prop) : Prop :=
  (((h.1 l0 2) ≤ l3 → K29 h) ∧ (¬ (h.1 l0 2) ≤ l3 → vp_in l3 6 ∧ ((¬ (lg_cmp (h.2 (r l0 7) l3.toNatClampNeg) l1) = 0 → ∀ x5 : Int32, x5 = l3 + 1 → K2 x5 h) ∧ ((lg_cmp (h.2 (r l0 7) l3.toNatClampNeg) l1) = 0 → Q 1 h))))
set_option maxRecDepth 100000 in
set_option maxHeartbeats 4000000 in
theorem WB_Bay_isNamed_2 {Y : CG} {X : CX} {r : TR} {l0 : Nat} {l1 : Int64} {l3 : Int32} {h : TH} {K2 : Int32 → TH → Prop} {K29 : TH → Prop} {Q : Int32 → TH → Prop} (C : Gd Y X cX0_isNamed 4 RX0 1) (R : Ri Y r X .boolean Q) (t0 : TO Y l0 0) (hK2 : ∀ (k3 : Int32) (hh : TH), K2 k3 hh → G Y X 4 2 [(0, .ref l0), (1, .long l1), (3, .int k3)] [] r hh) (hK29 : ∀ (hh : TH), K29 hh → G Y X 4 29 [] [] r hh) (hD : DB_Bay_isNamed_2 r l0 l1 l3 h K2 K29 Q) : G Y X 4 2 [(0, .ref l0), (1, .long l1), (3, .int l3)] [] r h := by
  unfold DB_Bay_isNamed_2 at hD
  refine g_wt (fun hw => ?_)
  refine g_iload_n (pc := 2) rfl 2 rfl C dX0_isNamed_2 ?_
  refine g_aload_n (pc := 3) rfl 0 rfl C dX0_isNamed_3 ?_
  refine g_getI (pc := 4) C fl_RX0_18 t0 rfl dX0_isNamed_4 ?_
  refine g_icmp_ge (pc := 7) 29 C dX0_isNamed_7 (by decide) (fun c2 => ?_) (fun c2 => ?_)
  · have hD := hD.1 c2
    refine g_sub [] rfl ?_
    exact hK29 h hD
  · have hD := hD.2 c2
    refine g_aload_n (pc := 10) rfl 0 rfl C dX0_isNamed_10 ?_
    have u3 : TA Y (r l0 7) 11 6 := wt_a hw t0 (by decide) (by decide) rfl
    refine g_getR (pc := 11) C fl_RX0_34 t0 rfl dX0_isNamed_11 ?_
    refine g_iload_n (pc := 14) rfl 2 rfl C dX0_isNamed_14 ?_
    obtain ⟨hb, hD⟩ := hD
    refine g_lald (pc := 15) C u3 hb dX0_isNamed_15 ?_
    refine g_lload_n (pc := 16) rfl 1 rfl C dX0_isNamed_16 ?_
    refine g_lcmp (pc := 17) C dX0_isNamed_17 ?_
    refine g_if_ne (pc := 18) 23 C dX0_isNamed_18 (by decide) (fun c4 => ?_) (fun c4 => ?_)
    · have hD := hD.1 c4
      refine g_iinc (pc := 23) (q := 2) (c := 1) (fun x5 => [(3, .int x5), (0, .ref l0), (1, .long l1)]) C dX0_isNamed_23 rfl (by decide) (by decide) rfl (fun x5 ex5 => ?_)
      have hD := hD x5 ex5
      refine g_goto (pc := 26) 2 C dX0_isNamed_26 (by decide) ?_
      refine g_sub [1, 2, 0] rfl ?_
      exact hK2 x5 h hD
    · have hD := hD.2 c4
      refine g_iconst (pc := 21) (v := 1) (by decide) C dX0_isNamed_21 ?_
      exact g_zret (pc := 22) C R nz_1 dX0_isNamed_22 hD
def D_Bay_isNamed (r : TR) (o : Nat) (a1 : Int64) (h : TH) (Q : Int32 → TH → Prop) : Prop :=
  ∃ n, lp (fun (K : Int32 × TH → Prop) (s : Int32 × TH) => DB_Bay_isNamed_2 r o a1 s.1 s.2 (fun y6 h7 => K (y6, h7)) (fun h8 => Q 0 h8) Q) n (0, h)
set_option maxRecDepth 100000 in
set_option maxHeartbeats 4000000 in
theorem M_Bay_isNamed {Y : CG} {r : TR} {l : Launch} {o : Nat} {a1 : Int64} {h : TH} {Q : Int32 → TH → Prop} (t0 : TO Y o 0) (hD : D_Bay_isNamed r o a1 h Q) : Mi Y r l yX0_isNamed cX0_isNamed 4 .boolean 1 [.ref o, .long a1] h Q := by
  unfold D_Bay_isNamed at hD
  refine Mi.of RX0 rfl (by decide) (by simp [lg_sl, Value.category]) [(0, .ref o), (1, .long a1)] rfl (fun X hXl C R => ?_)
  subst hXl
  refine g_wt (fun hw => ?_)
  refine g_iconst (pc := 0) (v := 0) (by decide) C dX0_isNamed_0 ?_
  refine g_istore_n (pc := 1) (fun _ => [(3, .int 0), (0, .ref o), (1, .long a1)]) C dX0_isNamed_1 rfl (by decide) rfl (fun _ _ => ?_)
  obtain ⟨n, hD⟩ := hD
  refine g_sub [1, 2, 0] rfl ?_
  refine lp_run (fun s : Int32 × TH => G Y X 4 2 [(0, .ref o), (1, .long a1), (3, .int s.1)] [] r s.2) (fun K s hB hK => ?_) n (0, h) hD
  refine WB_Bay_isNamed_2 C R t0 (fun y6 h7 hk => hK _ hk) (fun h8 hD => ?_) hB
  · refine g_iconst (pc := 29) (v := 0) (by decide) C dX0_isNamed_29 ?_
    exact g_zret (pc := 30) C R nz_0 dX0_isNamed_30 hD
def D_Bay_move (r : TR) (o : Nat) (a1 : Nat) (a2 : Int32) (a3 : Int32) (h : TH) (Q : Int32 → TH → Prop) : Prop :=
  vp_in a2 6 ∧ D_Bay_beside r o (h.1 (r a1 4) a2.toNatClampNeg) a3 h (fun x3 h2 => ((x3 = (-1) → Q 3 h2) ∧ (¬ x3 = (-1) → ((¬ a3 = 0 → vp_in a2 6 ∧ ∀ h8, h8 = pI h2 (r a1 4) a2.toNatClampNeg x3 → vp_in x3 40 ∧ ((¬ (h8.1 (r o 5) x3.toNatClampNeg) = 1 → vp_in x3 40 ∧ ((¬ (h8.1 (r o 5) x3.toNatClampNeg) = 2 → Q 0 h8) ∧ ((h8.1 (r o 5) x3.toNatClampNeg) = 2 → D_Sc_bringHome r a1 a2 h8 (fun h13 => Q 1 h13)))) ∧ ((h8.1 (r o 5) x3.toNatClampNeg) = 1 → ∀ h15, h15 = pI h8 a1 2 ((h8.1 a1 2) ||| ((1 : Int32) <<< (a2 &&& 31))) → Q 2 h15))) ∧ (a3 = 0 → Q 3 h2)))))
set_option maxRecDepth 100000 in
set_option maxHeartbeats 4000000 in
theorem M_Bay_move {Y : CG} {r : TR} {l : Launch} {o : Nat} {a1 : Nat} {a2 : Int32} {a3 : Int32} {h : TH} {Q : Int32 → TH → Prop} (t0 : TO Y o 0) (t1 : TO Y a1 5) (hD : D_Bay_move r o a1 a2 a3 h Q) : Mi Y r l yX0_move cX0_move 5 .int 3 [.ref o, .ref a1, .int a2, .int a3] h Q := by
  unfold D_Bay_move at hD
  refine Mi.of RX0 rfl (by decide) (by simp [lg_sl, Value.category]) [(0, .ref o), (1, .ref a1), (2, .int a2), (3, .int a3)] rfl (fun X hXl C R => ?_)
  subst hXl
  refine g_wt (fun hw => ?_)
  refine g_aload_n (pc := 0) rfl 0 rfl C dX0_move_0 ?_
  refine g_aload_n (pc := 1) rfl 1 rfl C dX0_move_1 ?_
  have u1 : TA Y (r a1 4) 10 6 := wt_a hw t1 (by decide) (by decide) rfl
  refine g_getR (pc := 2) C fl_RX0_113 t1 rfl dX0_move_2 ?_
  refine g_iload_n (pc := 5) rfl 2 rfl C dX0_move_5 ?_
  obtain ⟨hb, hD⟩ := hD
  refine g_iald (pc := 6) C u1 hb dX0_move_6 ?_
  refine g_iload_n (pc := 7) rfl 3 rfl C dX0_move_7 ?_
  refine g_callVi (pc := 8) (As := [.int (h.1 (r a1 4) a2.toNatClampNeg), .int a3]) C mv_RX0_100 (M_Bay_beside t0 hD) t0 (by decide) rfl rfl (Nat.le_of_ble_eq_true rfl) dX0_move_8 (fun x3 h2 hD => ?_)
  refine g_istore (pc := 11) (fun _ => [(4, .int x3), (0, .ref o), (1, .ref a1), (2, .int a2), (3, .int a3)]) C dX0_move_11 (by decide) rfl (fun _ _ => ?_)
  refine g_iload (pc := 13) 0 rfl C dX0_move_13 ?_
  refine g_iconst (pc := 15) (v := (-1)) (by decide) C dX0_move_15 ?_
  refine g_icmp_eq (pc := 16) 23 C dX0_move_16 (by decide) (fun c5 => ?_) (fun c5 => ?_)
  · have hD := hD.1 c5
    refine g_iconst (pc := 23) (v := 3) (by decide) C dX0_move_23 ?_
    exact g_iret (pc := 24) C R dX0_move_24 hD
  · have hD := hD.2 c5
    refine g_iload_n (pc := 19) rfl 4 rfl C dX0_move_19 ?_
    refine g_if_ne (pc := 20) 25 C dX0_move_20 (by decide) (fun c6 => ?_) (fun c6 => ?_)
    · have hD := hD.1 c6
      refine g_aload_n (pc := 25) rfl 2 rfl C dX0_move_25 ?_
      have u7 : TA Y (r a1 4) 10 6 := wt_a hw t1 (by decide) (by decide) rfl
      refine g_getR (pc := 26) C fl_RX0_113 t1 rfl dX0_move_26 ?_
      refine g_iload_n (pc := 29) rfl 3 rfl C dX0_move_29 ?_
      refine g_iload (pc := 30) 0 rfl C dX0_move_30 ?_
      obtain ⟨hb, hD⟩ := hD
      refine g_iast (pc := 32) C u7 hb dX0_move_32 (fun h8 eh8 => ?_)
      have hD := hD h8 eh8
      refine g_aload_n (pc := 33) rfl 1 rfl C dX0_move_33 ?_
      have u9 : TA Y (r o 5) 10 40 := wt_a hw t0 (by decide) (by decide) rfl
      refine g_getR (pc := 34) C fl_RX0_27 t0 rfl dX0_move_34 ?_
      refine g_iload (pc := 37) 0 rfl C dX0_move_37 ?_
      obtain ⟨hb, hD⟩ := hD
      refine g_iald (pc := 39) C u9 hb dX0_move_39 ?_
      refine g_iconst (pc := 40) (v := 1) (by decide) C dX0_move_40 ?_
      refine g_icmp_ne (pc := 41) 58 C dX0_move_41 (by decide) (fun c10 => ?_) (fun c10 => ?_)
      · have hD := hD.1 c10
        refine g_aload_n (pc := 58) rfl 1 rfl C dX0_move_58 ?_
        have u11 : TA Y (r o 5) 10 40 := wt_a hw t0 (by decide) (by decide) rfl
        refine g_getR (pc := 59) C fl_RX0_27 t0 rfl dX0_move_59 ?_
        refine g_iload (pc := 62) 0 rfl C dX0_move_62 ?_
        obtain ⟨hb, hD⟩ := hD
        refine g_iald (pc := 64) C u11 hb dX0_move_64 ?_
        refine g_iconst (pc := 65) (v := 2) (by decide) C dX0_move_65 ?_
        refine g_icmp_ne (pc := 66) 76 C dX0_move_66 (by decide) (fun c12 => ?_) (fun c12 => ?_)
        · have hD := hD.1 c12
          refine g_iconst (pc := 76) (v := 0) (by decide) C dX0_move_76 ?_
          exact g_iret (pc := 77) C R dX0_move_77 hD
        · have hD := hD.2 c12
          refine g_aload_n (pc := 69) rfl 2 rfl C dX0_move_69 ?_
          refine g_iload_n (pc := 70) rfl 3 rfl C dX0_move_70 ?_
          refine g_callVv (pc := 71) (As := [.int a2]) C mv_RX0_168 (M_Sc_bringHome t1 hD) t1 (by decide) rfl rfl (Nat.le_of_ble_eq_true rfl) dX0_move_71 (fun h13 hD => ?_)
          refine g_iconst (pc := 74) (v := 1) (by decide) C dX0_move_74 ?_
          exact g_iret (pc := 75) C R dX0_move_75 hD
      · have hD := hD.2 c10
        refine g_aload_n (pc := 44) rfl 2 rfl C dX0_move_44 ?_
        refine g_dup (pc := 45) rfl C dX0_move_45 ?_
        refine g_getI (pc := 46) C fl_RX0_88 t1 rfl dX0_move_46 ?_
        refine g_iconst (pc := 49) (v := 1) (by decide) C dX0_move_49 ?_
        refine g_iload_n (pc := 50) rfl 3 rfl C dX0_move_50 ?_
        refine g_ishl (pc := 51) C dX0_move_51 ?_
        refine g_ior (pc := 52) C dX0_move_52 ?_
        refine g_putI (pc := 53) C fl_RX0_88 t1 rfl rfl rfl dX0_move_53 (fun h15 eh15 => ?_)
        have hD := hD h15 eh15
        refine g_iconst (pc := 56) (v := 2) (by decide) C dX0_move_56 ?_
        exact g_iret (pc := 57) C R dX0_move_57 hD
    · have hD := hD.2 c6
      refine g_iconst (pc := 23) (v := 3) (by decide) C dX0_move_23 ?_
      exact g_iret (pc := 24) C R dX0_move_24 hD
def D_Sc_isLost (r : TR) (o : Nat) (a1 : Int32) (h : TH) (Q : Int32 → TH → Prop) : Prop :=
  ((¬ (((h.1 o 2) >>> (a1 &&& 31)) &&& 1) = 1 → Q 0 h) ∧ ((((h.1 o 2) >>> (a1 &&& 31)) &&& 1) = 1 → Q 1 h))
set_option maxRecDepth 100000 in
set_option maxHeartbeats 4000000 in
theorem M_Sc_isLost {Y : CG} {r : TR} {l : Launch} {o : Nat} {a1 : Int32} {h : TH} {Q : Int32 → TH → Prop} (t0 : TO Y o 5) (hD : D_Sc_isLost r o a1 h Q) : Mi Y r l yX5_isLost cX5_isLost 2 .boolean 1 [.ref o, .int a1] h Q := by
  unfold D_Sc_isLost at hD
  refine Mi.of RX5 rfl (by decide) (by simp [lg_sl, Value.category]) [(0, .ref o), (1, .int a1)] rfl (fun X hXl C R => ?_)
  subst hXl
  refine g_wt (fun hw => ?_)
  refine g_aload_n (pc := 0) rfl 0 rfl C dX5_isLost_0 ?_
  refine g_getI (pc := 1) C fl_RX5_18 t0 rfl dX5_isLost_1 ?_
  refine g_iload_n (pc := 4) rfl 1 rfl C dX5_isLost_4 ?_
  refine g_ishr (pc := 5) C dX5_isLost_5 ?_
  refine g_iconst (pc := 6) (v := 1) (by decide) C dX5_isLost_6 ?_
  refine g_iand (pc := 7) C dX5_isLost_7 ?_
  refine g_iconst (pc := 8) (v := 1) (by decide) C dX5_isLost_8 ?_
  refine g_icmp_ne (pc := 9) 16 C dX5_isLost_9 (by decide) (fun c1 => ?_) (fun c1 => ?_)
  · have hD := hD.1 c1
    refine g_iconst (pc := 16) (v := 0) (by decide) C dX5_isLost_16 ?_
    exact g_zret (pc := 17) C R nz_0 dX5_isLost_17 hD
  · have hD := hD.2 c1
    refine g_iconst (pc := 12) (v := 1) (by decide) C dX5_isLost_12 ?_
    refine g_goto (pc := 13) 17 C dX5_isLost_13 (by decide) ?_
    exact g_zret (pc := 17) C R nz_1 dX5_isLost_17 hD
def D_Sc_eastOf (r : TR) (o : Nat) (a1 : Int32) (h : TH) (Q : Int32 → TH → Prop) : Prop :=
  D_Sc_isLost r o a1 h (fun x2 h1 => ((x2 = 0 → vp_in a1 6 ∧ Q (jrem (h1.1 (r o 4) a1.toNatClampNeg) 8) h1) ∧ (¬ x2 = 0 → Q (-2) h1)))
set_option maxRecDepth 100000 in
set_option maxHeartbeats 4000000 in
theorem M_Sc_eastOf {Y : CG} {r : TR} {l : Launch} {o : Nat} {a1 : Int32} {h : TH} {Q : Int32 → TH → Prop} (t0 : TO Y o 5) (hD : D_Sc_eastOf r o a1 h Q) : Mi Y r l yX5_eastOf cX5_eastOf 2 .int 2 [.ref o, .int a1] h Q := by
  unfold D_Sc_eastOf at hD
  refine Mi.of RX5 rfl (by decide) (by simp [lg_sl, Value.category]) [(0, .ref o), (1, .int a1)] rfl (fun X hXl C R => ?_)
  subst hXl
  refine g_wt (fun hw => ?_)
  refine g_aload_n (pc := 0) rfl 0 rfl C dX5_eastOf_0 ?_
  refine g_iload_n (pc := 1) rfl 1 rfl C dX5_eastOf_1 ?_
  refine g_callVi (pc := 2) (As := [.int a1]) C mv_RX5_50 (M_Sc_isLost t0 hD) t0 (by decide) rfl rfl (Nat.le_of_ble_eq_true rfl) dX5_eastOf_2 (fun x2 h1 hD => ?_)
  refine g_if_eq (pc := 5) 13 C dX5_eastOf_5 (by decide) (fun c3 => ?_) (fun c3 => ?_)
  · have hD := hD.1 c3
    refine g_aload_n (pc := 13) rfl 0 rfl C dX5_eastOf_13 ?_
    have u4 : TA Y (r o 4) 10 6 := wt_a hw t0 (by decide) (by decide) rfl
    refine g_getR (pc := 14) C fl_RX5_24 t0 rfl dX5_eastOf_14 ?_
    refine g_iload_n (pc := 17) rfl 1 rfl C dX5_eastOf_17 ?_
    obtain ⟨hb, hD⟩ := hD
    refine g_iald (pc := 18) C u4 hb dX5_eastOf_18 ?_
    refine g_bipush (pc := 19) (v := 8) (by decide) C dX5_eastOf_19 ?_
    refine g_irem (pc := 21) (by decide) C dX5_eastOf_21 ?_
    exact g_iret (pc := 22) C R dX5_eastOf_22 hD
  · have hD := hD.2 c3
    refine g_bipush (pc := 8) (v := (-2)) (by decide) C dX5_eastOf_8 ?_
    refine g_goto (pc := 10) 22 C dX5_eastOf_10 (by decide) ?_
    exact g_iret (pc := 22) C R dX5_eastOf_22 hD
def D_Sc_southOf (r : TR) (o : Nat) (a1 : Int32) (h : TH) (Q : Int32 → TH → Prop) : Prop :=
  D_Sc_isLost r o a1 h (fun x2 h1 => ((x2 = 0 → vp_in a1 6 ∧ Q ((h1.1 (r o 4) a1.toNatClampNeg) / 8) h1) ∧ (¬ x2 = 0 → Q (-2) h1)))
set_option maxRecDepth 100000 in
set_option maxHeartbeats 4000000 in
theorem M_Sc_southOf {Y : CG} {r : TR} {l : Launch} {o : Nat} {a1 : Int32} {h : TH} {Q : Int32 → TH → Prop} (t0 : TO Y o 5) (hD : D_Sc_southOf r o a1 h Q) : Mi Y r l yX5_southOf cX5_southOf 2 .int 2 [.ref o, .int a1] h Q := by
  unfold D_Sc_southOf at hD
  refine Mi.of RX5 rfl (by decide) (by simp [lg_sl, Value.category]) [(0, .ref o), (1, .int a1)] rfl (fun X hXl C R => ?_)
  subst hXl
  refine g_wt (fun hw => ?_)
  refine g_aload_n (pc := 0) rfl 0 rfl C dX5_southOf_0 ?_
  refine g_iload_n (pc := 1) rfl 1 rfl C dX5_southOf_1 ?_
  refine g_callVi (pc := 2) (As := [.int a1]) C mv_RX5_50 (M_Sc_isLost t0 hD) t0 (by decide) rfl rfl (Nat.le_of_ble_eq_true rfl) dX5_southOf_2 (fun x2 h1 hD => ?_)
  refine g_if_eq (pc := 5) 13 C dX5_southOf_5 (by decide) (fun c3 => ?_) (fun c3 => ?_)
  · have hD := hD.1 c3
    refine g_aload_n (pc := 13) rfl 0 rfl C dX5_southOf_13 ?_
    have u4 : TA Y (r o 4) 10 6 := wt_a hw t0 (by decide) (by decide) rfl
    refine g_getR (pc := 14) C fl_RX5_24 t0 rfl dX5_southOf_14 ?_
    refine g_iload_n (pc := 17) rfl 1 rfl C dX5_southOf_17 ?_
    obtain ⟨hb, hD⟩ := hD
    refine g_iald (pc := 18) C u4 hb dX5_southOf_18 ?_
    refine g_bipush (pc := 19) (v := 8) (by decide) C dX5_southOf_19 ?_
    refine g_idiv (pc := 21) (by decide) C dX5_southOf_21 ?_
    exact g_iret (pc := 22) C R dX5_southOf_22 hD
  · have hD := hD.2 c3
    refine g_bipush (pc := 8) (v := (-2)) (by decide) C dX5_southOf_8 ?_
    refine g_goto (pc := 10) 22 C dX5_southOf_10 (by decide) ?_
    exact g_iret (pc := 22) C R dX5_southOf_22 hD
def DB_SR_leastOf_2 (r : TR) (l0 : Int32) (l1 : Int32) (h : TH) (K2 : Int32 → TH → Prop) (K25 : TH → Prop) (Q : Int32 → TH → Prop) : Prop :=
  ((6 ≤ l1 → K25 h) ∧ (¬ 6 ≤ l1 → ((¬ ((l0 >>> (l1 &&& 31)) &&& 1) = 1 → ∀ x4 : Int32, x4 = l1 + 1 → K2 x4 h) ∧ (((l0 >>> (l1 &&& 31)) &&& 1) = 1 → Q l1 h))))
set_option maxRecDepth 100000 in
set_option maxHeartbeats 4000000 in
theorem WB_SR_leastOf_2 {Y : CG} {X : CX} {r : TR} {l0 : Int32} {l1 : Int32} {h : TH} {K2 : Int32 → TH → Prop} {K25 : TH → Prop} {Q : Int32 → TH → Prop} (C : Gd Y X cX7_leastOf 2 RX7 1) (R : Ri Y r X .int Q) (hK2 : ∀ (k1 : Int32) (hh : TH), K2 k1 hh → G Y X 2 2 [(0, .int l0), (1, .int k1)] [] r hh) (hK25 : ∀ (hh : TH), K25 hh → G Y X 2 25 [] [] r hh) (hD : DB_SR_leastOf_2 r l0 l1 h K2 K25 Q) : G Y X 2 2 [(0, .int l0), (1, .int l1)] [] r h := by
  unfold DB_SR_leastOf_2 at hD
  refine g_wt (fun hw => ?_)
  refine g_iload_n (pc := 2) rfl 1 rfl C dX7_leastOf_2 ?_
  refine g_bipush (pc := 3) (v := 6) (by decide) C dX7_leastOf_3 ?_
  refine g_icmp_ge (pc := 5) 25 C dX7_leastOf_5 (by decide) (fun c2 => ?_) (fun c2 => ?_)
  · have hD := hD.1 c2
    refine g_sub [] rfl ?_
    exact hK25 h hD
  · have hD := hD.2 c2
    refine g_iload_n (pc := 8) rfl 0 rfl C dX7_leastOf_8 ?_
    refine g_iload_n (pc := 9) rfl 1 rfl C dX7_leastOf_9 ?_
    refine g_ishr (pc := 10) C dX7_leastOf_10 ?_
    refine g_iconst (pc := 11) (v := 1) (by decide) C dX7_leastOf_11 ?_
    refine g_iand (pc := 12) C dX7_leastOf_12 ?_
    refine g_iconst (pc := 13) (v := 1) (by decide) C dX7_leastOf_13 ?_
    refine g_icmp_ne (pc := 14) 19 C dX7_leastOf_14 (by decide) (fun c3 => ?_) (fun c3 => ?_)
    · have hD := hD.1 c3
      refine g_iinc (pc := 19) (q := 1) (c := 1) (fun x4 => [(1, .int x4), (0, .int l0)]) C dX7_leastOf_19 rfl (by decide) (by decide) rfl (fun x4 ex4 => ?_)
      have hD := hD x4 ex4
      refine g_goto (pc := 22) 2 C dX7_leastOf_22 (by decide) ?_
      refine g_sub [1, 0] rfl ?_
      exact hK2 x4 h hD
    · have hD := hD.2 c3
      refine g_iload_n (pc := 17) rfl 1 rfl C dX7_leastOf_17 ?_
      exact g_iret (pc := 18) C R dX7_leastOf_18 hD
def D_SR_leastOf (r : TR) (a0 : Int32) (h : TH) (Q : Int32 → TH → Prop) : Prop :=
  ∃ n, lp (fun (K : Int32 × TH → Prop) (s : Int32 × TH) => DB_SR_leastOf_2 r a0 s.1 s.2 (fun y5 h6 => K (y5, h6)) (fun h7 => Q (-1) h7) Q) n (0, h)
set_option maxRecDepth 100000 in
set_option maxHeartbeats 4000000 in
theorem M_SR_leastOf {Y : CG} {r : TR} {l : Launch} {a0 : Int32} {h : TH} {Q : Int32 → TH → Prop} (hD : D_SR_leastOf r a0 h Q) : Mi Y r l yX7_leastOf cX7_leastOf 2 .int 1 [.int a0] h Q := by
  unfold D_SR_leastOf at hD
  refine Mi.of RX7 rfl (by decide) (by simp [lg_sl, Value.category]) [(0, .int a0)] rfl (fun X hXl C R => ?_)
  subst hXl
  refine g_wt (fun hw => ?_)
  refine g_iconst (pc := 0) (v := 0) (by decide) C dX7_leastOf_0 ?_
  refine g_istore_n (pc := 1) (fun _ => [(1, .int 0), (0, .int a0)]) C dX7_leastOf_1 rfl (by decide) rfl (fun _ _ => ?_)
  obtain ⟨n, hD⟩ := hD
  refine g_sub [1, 0] rfl ?_
  refine lp_run (fun s : Int32 × TH => G Y X 2 2 [(0, .int a0), (1, .int s.1)] [] r s.2) (fun K s hB hK => ?_) n (0, h) hD
  refine WB_SR_leastOf_2 C R (fun y5 h6 hk => hK _ hk) (fun h7 hD => ?_) hB
  · refine g_iconst (pc := 25) (v := (-1)) (by decide) C dX7_leastOf_25 ?_
    exact g_iret (pc := 26) C R dX7_leastOf_26 hD
