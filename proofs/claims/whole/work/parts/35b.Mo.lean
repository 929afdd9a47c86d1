def D_Mo_boat (r : TR) (o : Nat) (a1 : Int32) (a2 : Int32) (h : TH) (Q : Int32 → TH → Prop) : Prop :=
  D_Mo_isBoat r o a1 h (fun x2 h1 => ((¬ x2 = 0 → D_Mo_copies r o h1 (fun h4 => ((a2 = 0 → D_Mo_isLost r o a1 h4 (fun x8 h7 => ((x8 = 0 → ∀ i11 : Int32, i11 = (6 * a2) + a1 → vp_in i11 512 ∧ Q (h7.1 (r o 49) i11.toNatClampNeg) h7) ∧ (¬ x8 = 0 → Q (-2) h7)))) ∧ (¬ a2 = 0 → ((a2 = 1 → D_Mo_isLost r o a1 h4 (fun x14 h13 => ((x14 = 0 → ∀ i17 : Int32, i17 = (6 * a2) + a1 → vp_in i17 512 ∧ Q (h13.1 (r o 49) i17.toNatClampNeg) h13) ∧ (¬ x14 = 0 → Q (-2) h13)))) ∧ (¬ a2 = 1 → ((a2 = 2 → ∀ i20 : Int32, i20 = 12 + a1 → vp_in i20 512 ∧ ((¬ (h4.1 (r o 49) i20.toNatClampNeg) = 0 → ∀ i23 : Int32, i23 = 12 + a1 → vp_in i23 512 ∧ Q (h4.1 (r o 49) i23.toNatClampNeg) h4) ∧ ((h4.1 (r o 49) i20.toNatClampNeg) = 0 → Q (-2) h4))) ∧ (¬ a2 = 2 → ((a2 = 3 → ∀ i26 : Int32, i26 = (6 * a2) + a1 → vp_in i26 512 ∧ Q (h4.1 (r o 49) i26.toNatClampNeg) h4) ∧ (¬ a2 = 3 → ((a2 = 4 → ∀ i29 : Int32, i29 = (6 * a2) + a1 → vp_in i29 512 ∧ Q (h4.1 (r o 49) i29.toNatClampNeg) h4) ∧ (¬ a2 = 4 → ((a2 = 5 → D_Mo_smellsOf r o a1 h4 (fun x32 h31 => Q x32 h31)) ∧ (¬ a2 = 5 → ((a2 = 6 → D_Mo_hasCold r o a1 h4 (fun x35 h34 => ((x35 = 0 → Q 0 h34) ∧ (¬ x35 = 0 → Q 1 h34)))) ∧ (¬ a2 = 6 → ((a2 = 7 → D_Mo_rankOf r o a1 h4 (fun x39 h38 => Q x39 h38)) ∧ (¬ a2 = 7 → Q (-1) h4)))))))))))))))))) ∧ (x2 = 0 → Q (-1) h1)))
set_option maxRecDepth 100000 in
set_option maxHeartbeats 4000000 in
theorem M_Mo_boat {Y : CG} {r : TR} {l : Launch} {o : Nat} {a1 : Int32} {a2 : Int32} {h : TH} {Q : Int32 → TH → Prop} (t0 : TO Y o 8) (hD : D_Mo_boat r o a1 a2 h Q) : Mi Y r l yX8_boat cX8_boat 3 .int 4 [.ref o, .int a1, .int a2] h Q := by
  unfold D_Mo_boat at hD
  refine Mi.of RX8 rfl (by decide) (by simp [lg_sl, Value.category]) [(0, .ref o), (1, .int a1), (2, .int a2)] rfl (fun X hXl C R => ?_)
  subst hXl
  refine g_wt (fun hw => ?_)
  refine g_aload_n (pc := 0) rfl 0 rfl C dX8_boat_0 ?_
  refine g_iload_n (pc := 1) rfl 1 rfl C dX8_boat_1 ?_
  refine g_callVi (pc := 2) (As := [.int a1]) C mv_RX8_394 (M_Mo_isBoat t0 hD) t0 (by decide) rfl rfl (Nat.le_of_ble_eq_true rfl) dX8_boat_2 (fun x2 h1 hD => ?_)
  refine g_if_ne (pc := 5) 10 C dX8_boat_5 (by decide) (fun c3 => ?_) (fun c3 => ?_)
  · have hD := hD.1 c3
    refine g_aload_n (pc := 10) rfl 0 rfl C dX8_boat_10 ?_
    refine g_callVv (pc := 11) (As := []) C mv_RX8_397 (M_Mo_copies t0 hD) t0 (by decide) rfl rfl (Nat.le_of_ble_eq_true rfl) dX8_boat_11 (fun h4 hD => ?_)
    refine g_iload_n (pc := 14) rfl 2 rfl C dX8_boat_14 ?_
    by_cases c6 : a2 = 0
    · have hD := hD.1 c6
      refine g_tswIn (pc := 15) 60 C dX8_boat_15 0 c6 (by decide) (by decide) rfl (by decide) ?_
      refine g_aload_n (pc := 60) rfl 0 rfl C dX8_boat_60 ?_
      refine g_iload_n (pc := 61) rfl 1 rfl C dX8_boat_61 ?_
      refine g_callVi (pc := 62) (As := [.int a1]) C mv_RX8_385 (M_Mo_isLost t0 hD) t0 (by decide) rfl rfl (Nat.le_of_ble_eq_true rfl) dX8_boat_62 (fun x8 h7 hD => ?_)
      refine g_if_eq (pc := 65) 73 C dX8_boat_65 (by decide) (fun c9 => ?_) (fun c9 => ?_)
      · have hD := hD.1 c9
        refine g_aload_n (pc := 73) rfl 0 rfl C dX8_boat_73 ?_
        have u10 : TA Y (r o 49) 10 512 := wt_a hw t0 (by decide) (by decide) rfl
        refine g_getR (pc := 74) C fl_RX8_113 t0 rfl dX8_boat_74 ?_
        refine g_bipush (pc := 77) (v := 6) (by decide) C dX8_boat_77 ?_
        refine g_iload_n (pc := 79) rfl 2 rfl C dX8_boat_79 ?_
        refine g_imul (pc := 80) C dX8_boat_80 ?_
        refine g_iload_n (pc := 81) rfl 1 rfl C dX8_boat_81 ?_
        refine g_iadd (pc := 82) C dX8_boat_82 ?_
        refine g_topi (fun i11 ei11 => ?_)
        have hD := hD i11 ei11
        obtain ⟨hb, hD⟩ := hD
        refine g_iald (pc := 83) C u10 hb dX8_boat_83 ?_
        exact g_iret (pc := 84) C R dX8_boat_84 hD
      · have hD := hD.2 c9
        refine g_bipush (pc := 68) (v := (-2)) (by decide) C dX8_boat_68 ?_
        refine g_goto (pc := 70) 84 C dX8_boat_70 (by decide) ?_
        exact g_iret (pc := 84) C R dX8_boat_84 hD
    have hD := hD.2 c6
    by_cases c12 : a2 = 1
    · have hD := hD.1 c12
      refine g_tswIn (pc := 15) 60 C dX8_boat_15 1 c12 (by decide) (by decide) rfl (by decide) ?_
      refine g_aload_n (pc := 60) rfl 0 rfl C dX8_boat_60 ?_
      refine g_iload_n (pc := 61) rfl 1 rfl C dX8_boat_61 ?_
      refine g_callVi (pc := 62) (As := [.int a1]) C mv_RX8_385 (M_Mo_isLost t0 hD) t0 (by decide) rfl rfl (Nat.le_of_ble_eq_true rfl) dX8_boat_62 (fun x14 h13 hD => ?_)
      refine g_if_eq (pc := 65) 73 C dX8_boat_65 (by decide) (fun c15 => ?_) (fun c15 => ?_)
      · have hD := hD.1 c15
        refine g_aload_n (pc := 73) rfl 0 rfl C dX8_boat_73 ?_
        have u16 : TA Y (r o 49) 10 512 := wt_a hw t0 (by decide) (by decide) rfl
        refine g_getR (pc := 74) C fl_RX8_113 t0 rfl dX8_boat_74 ?_
        refine g_bipush (pc := 77) (v := 6) (by decide) C dX8_boat_77 ?_
        refine g_iload_n (pc := 79) rfl 2 rfl C dX8_boat_79 ?_
        refine g_imul (pc := 80) C dX8_boat_80 ?_
        refine g_iload_n (pc := 81) rfl 1 rfl C dX8_boat_81 ?_
        refine g_iadd (pc := 82) C dX8_boat_82 ?_
        refine g_topi (fun i17 ei17 => ?_)
        have hD := hD i17 ei17
        obtain ⟨hb, hD⟩ := hD
        refine g_iald (pc := 83) C u16 hb dX8_boat_83 ?_
        exact g_iret (pc := 84) C R dX8_boat_84 hD
      · have hD := hD.2 c15
        refine g_bipush (pc := 68) (v := (-2)) (by decide) C dX8_boat_68 ?_
        refine g_goto (pc := 70) 84 C dX8_boat_70 (by decide) ?_
        exact g_iret (pc := 84) C R dX8_boat_84 hD
    have hD := hD.2 c12
    by_cases c18 : a2 = 2
    · have hD := hD.1 c18
      refine g_tswIn (pc := 15) 85 C dX8_boat_15 2 c18 (by decide) (by decide) rfl (by decide) ?_
      refine g_aload_n (pc := 85) rfl 0 rfl C dX8_boat_85 ?_
      have u19 : TA Y (r o 49) 10 512 := wt_a hw t0 (by decide) (by decide) rfl
      refine g_getR (pc := 86) C fl_RX8_113 t0 rfl dX8_boat_86 ?_
      refine g_bipush (pc := 89) (v := 12) (by decide) C dX8_boat_89 ?_
      refine g_iload_n (pc := 91) rfl 1 rfl C dX8_boat_91 ?_
      refine g_iadd (pc := 92) C dX8_boat_92 ?_
      refine g_topi (fun i20 ei20 => ?_)
      have hD := hD i20 ei20
      obtain ⟨hb, hD⟩ := hD
      refine g_iald (pc := 93) C u19 hb dX8_boat_93 ?_
      refine g_if_ne (pc := 94) 102 C dX8_boat_94 (by decide) (fun c21 => ?_) (fun c21 => ?_)
      · have hD := hD.1 c21
        refine g_aload_n (pc := 102) rfl 0 rfl C dX8_boat_102 ?_
        have u22 : TA Y (r o 49) 10 512 := wt_a hw t0 (by decide) (by decide) rfl
        refine g_getR (pc := 103) C fl_RX8_113 t0 rfl dX8_boat_103 ?_
        refine g_bipush (pc := 106) (v := 12) (by decide) C dX8_boat_106 ?_
        refine g_iload_n (pc := 108) rfl 1 rfl C dX8_boat_108 ?_
        refine g_iadd (pc := 109) C dX8_boat_109 ?_
        refine g_topi (fun i23 ei23 => ?_)
        have hD := hD i23 ei23
        obtain ⟨hb, hD⟩ := hD
        refine g_iald (pc := 110) C u22 hb dX8_boat_110 ?_
        exact g_iret (pc := 111) C R dX8_boat_111 hD
      · have hD := hD.2 c21
        refine g_bipush (pc := 97) (v := (-2)) (by decide) C dX8_boat_97 ?_
        refine g_goto (pc := 99) 111 C dX8_boat_99 (by decide) ?_
        exact g_iret (pc := 111) C R dX8_boat_111 hD
    have hD := hD.2 c18
    by_cases c24 : a2 = 3
    · have hD := hD.1 c24
      refine g_tswIn (pc := 15) 112 C dX8_boat_15 3 c24 (by decide) (by decide) rfl (by decide) ?_
      refine g_aload_n (pc := 112) rfl 0 rfl C dX8_boat_112 ?_
      have u25 : TA Y (r o 49) 10 512 := wt_a hw t0 (by decide) (by decide) rfl
      refine g_getR (pc := 113) C fl_RX8_113 t0 rfl dX8_boat_113 ?_
      refine g_bipush (pc := 116) (v := 6) (by decide) C dX8_boat_116 ?_
      refine g_iload_n (pc := 118) rfl 2 rfl C dX8_boat_118 ?_
      refine g_imul (pc := 119) C dX8_boat_119 ?_
      refine g_iload_n (pc := 120) rfl 1 rfl C dX8_boat_120 ?_
      refine g_iadd (pc := 121) C dX8_boat_121 ?_
      refine g_topi (fun i26 ei26 => ?_)
      have hD := hD i26 ei26
      obtain ⟨hb, hD⟩ := hD
      refine g_iald (pc := 122) C u25 hb dX8_boat_122 ?_
      exact g_iret (pc := 123) C R dX8_boat_123 hD
    have hD := hD.2 c24
    by_cases c27 : a2 = 4
    · have hD := hD.1 c27
      refine g_tswIn (pc := 15) 112 C dX8_boat_15 4 c27 (by decide) (by decide) rfl (by decide) ?_
      refine g_aload_n (pc := 112) rfl 0 rfl C dX8_boat_112 ?_
      have u28 : TA Y (r o 49) 10 512 := wt_a hw t0 (by decide) (by decide) rfl
      refine g_getR (pc := 113) C fl_RX8_113 t0 rfl dX8_boat_113 ?_
      refine g_bipush (pc := 116) (v := 6) (by decide) C dX8_boat_116 ?_
      refine g_iload_n (pc := 118) rfl 2 rfl C dX8_boat_118 ?_
      refine g_imul (pc := 119) C dX8_boat_119 ?_
      refine g_iload_n (pc := 120) rfl 1 rfl C dX8_boat_120 ?_
      refine g_iadd (pc := 121) C dX8_boat_121 ?_
      refine g_topi (fun i29 ei29 => ?_)
      have hD := hD i29 ei29
      obtain ⟨hb, hD⟩ := hD
      refine g_iald (pc := 122) C u28 hb dX8_boat_122 ?_
      exact g_iret (pc := 123) C R dX8_boat_123 hD
    have hD := hD.2 c27
    by_cases c30 : a2 = 5
    · have hD := hD.1 c30
      refine g_tswIn (pc := 15) 124 C dX8_boat_15 5 c30 (by decide) (by decide) rfl (by decide) ?_
      refine g_aload_n (pc := 124) rfl 0 rfl C dX8_boat_124 ?_
      refine g_iload_n (pc := 125) rfl 1 rfl C dX8_boat_125 ?_
      refine g_callVi (pc := 126) (As := [.int a1]) C mv_RX8_370 (M_Mo_smellsOf t0 hD) t0 (by decide) rfl rfl (Nat.le_of_ble_eq_true rfl) dX8_boat_126 (fun x32 h31 hD => ?_)
      exact g_iret (pc := 129) C R dX8_boat_129 hD
    have hD := hD.2 c30
    by_cases c33 : a2 = 6
    · have hD := hD.1 c33
      refine g_tswIn (pc := 15) 130 C dX8_boat_15 6 c33 (by decide) (by decide) rfl (by decide) ?_
      refine g_aload_n (pc := 130) rfl 0 rfl C dX8_boat_130 ?_
      refine g_iload_n (pc := 131) rfl 1 rfl C dX8_boat_131 ?_
      refine g_callVi (pc := 132) (As := [.int a1]) C mv_RX8_364 (M_Mo_hasCold t0 hD) t0 (by decide) rfl rfl (Nat.le_of_ble_eq_true rfl) dX8_boat_132 (fun x35 h34 hD => ?_)
      refine g_if_eq (pc := 135) 142 C dX8_boat_135 (by decide) (fun c36 => ?_) (fun c36 => ?_)
      · have hD := hD.1 c36
        refine g_iconst (pc := 142) (v := 0) (by decide) C dX8_boat_142 ?_
        exact g_iret (pc := 143) C R dX8_boat_143 hD
      · have hD := hD.2 c36
        refine g_iconst (pc := 138) (v := 1) (by decide) C dX8_boat_138 ?_
        refine g_goto (pc := 139) 143 C dX8_boat_139 (by decide) ?_
        exact g_iret (pc := 143) C R dX8_boat_143 hD
    have hD := hD.2 c33
    by_cases c37 : a2 = 7
    · have hD := hD.1 c37
      refine g_tswIn (pc := 15) 144 C dX8_boat_15 7 c37 (by decide) (by decide) rfl (by decide) ?_
      refine g_aload_n (pc := 144) rfl 0 rfl C dX8_boat_144 ?_
      refine g_iload_n (pc := 145) rfl 1 rfl C dX8_boat_145 ?_
      refine g_callVi (pc := 146) (As := [.int a1]) C mv_RX8_391 (M_Mo_rankOf t0 hD) t0 (by decide) rfl rfl (Nat.le_of_ble_eq_true rfl) dX8_boat_146 (fun x39 h38 hD => ?_)
      exact g_iret (pc := 149) C R dX8_boat_149 hD
    have hD := hD.2 c37
    have nc6 : ¬ (a2).toInt = 0 := tsw_ne c6
    have nc12 : ¬ (a2).toInt = 1 := tsw_ne c12
    have nc18 : ¬ (a2).toInt = 2 := tsw_ne c18
    have nc24 : ¬ (a2).toInt = 3 := tsw_ne c24
    have nc27 : ¬ (a2).toInt = 4 := tsw_ne c27
    have nc30 : ¬ (a2).toInt = 5 := tsw_ne c30
    have nc33 : ¬ (a2).toInt = 6 := tsw_ne c33
    have nc37 : ¬ (a2).toInt = 7 := tsw_ne c37
    refine g_tswOut (pc := 15) 150 C dX8_boat_15 (by omega) (by decide) ?_
    refine g_iconst (pc := 150) (v := (-1)) (by decide) C dX8_boat_150 ?_
    exact g_iret (pc := 151) C R dX8_boat_151 hD
  · have hD := hD.2 c3
    refine g_iconst (pc := 8) (v := (-1)) (by decide) C dX8_boat_8 ?_
    exact g_iret (pc := 9) C R dX8_boat_9 hD
def D_Mo_fail (r : TR) (o : Nat) (a1 : Int32) (h : TH) (Q : TH → Prop) : Prop :=
  (((h.1 o 13) ≤ 0 → ∀ h2, h2 = pI h o 13 a1 → ∀ i4 : Int32, i4 = h2.1 o 11 → vp_in i4 403 ∧ ∀ h5, h5 = pI h2 o 14 (h2.1 (r o 6) i4.toNatClampNeg) → Q h5) ∧ (¬ (h.1 o 13) ≤ 0 → Q h))
set_option maxRecDepth 100000 in
set_option maxHeartbeats 4000000 in
theorem M_Mo_fail {Y : CG} {r : TR} {l : Launch} {o : Nat} {a1 : Int32} {h : TH} {Q : TH → Prop} (t0 : TO Y o 8) (hD : D_Mo_fail r o a1 h Q) : Mv Y r l yX8_fail cX8_fail 2 1 [.ref o, .int a1] h Q := by
  unfold D_Mo_fail at hD
  refine Mv.of RX8 rfl (by decide) (by simp [lg_sl, Value.category]) [(0, .ref o), (1, .int a1)] rfl (fun X hXl C R => ?_)
  subst hXl
  refine g_wt (fun hw => ?_)
  refine g_aload_n (pc := 0) rfl 0 rfl C dX8_fail_0 ?_
  refine g_getI (pc := 1) C fl_RX8_200 t0 rfl dX8_fail_1 ?_
  refine g_if_le (pc := 4) 8 C dX8_fail_4 (by decide) (fun c1 => ?_) (fun c1 => ?_)
  · have hD := hD.1 c1
    refine g_aload_n (pc := 8) rfl 0 rfl C dX8_fail_8 ?_
    refine g_iload_n (pc := 9) rfl 1 rfl C dX8_fail_9 ?_
    refine g_putI (pc := 10) C fl_RX8_200 t0 rfl rfl rfl dX8_fail_10 (fun h2 eh2 => ?_)
    have hD := hD h2 eh2
    refine g_aload_n (pc := 13) rfl 0 rfl C dX8_fail_13 ?_
    refine g_aload_n (pc := 14) rfl 0 rfl C dX8_fail_14 ?_
    have u3 : TA Y (r o 6) 10 403 := wt_a hw t0 (by decide) (by decide) rfl
    refine g_getR (pc := 15) C fl_RX8_24 t0 rfl dX8_fail_15 ?_
    refine g_aload_n (pc := 18) rfl 0 rfl C dX8_fail_18 ?_
    refine g_getI (pc := 19) C fl_RX8_203 t0 rfl dX8_fail_19 ?_
    refine g_topi (fun i4 ei4 => ?_)
    have hD := hD i4 ei4
    obtain ⟨hb, hD⟩ := hD
    refine g_iald (pc := 22) C u3 hb dX8_fail_22 ?_
    refine g_putI (pc := 23) C fl_RX8_206 t0 rfl rfl rfl dX8_fail_23 (fun h5 eh5 => ?_)
    have hD := hD h5 eh5
    exact g_vret (pc := 26) C R dX8_fail_26 hD
  · have hD := hD.2 c1
    exact g_vret (pc := 7) C R dX8_fail_7 hD
def D_Mo_goesOn (r : TR) (o : Nat) (h : TH) (Q : TH → Prop) : Prop :=
  ((¬ (h.1 o 11) = 400 → ∀ h2, h2 = pI h o 11 ((h.1 o 11) + 1) → Q h2) ∧ ((h.1 o 11) = 400 → D_Mo_fail r o 2 h (fun h3 => Q h3)))
set_option maxRecDepth 100000 in
set_option maxHeartbeats 4000000 in
theorem M_Mo_goesOn {Y : CG} {r : TR} {l : Launch} {o : Nat} {h : TH} {Q : TH → Prop} (t0 : TO Y o 8) (hD : D_Mo_goesOn r o h Q) : Mv Y r l yX8_goesOn cX8_goesOn 1 2 [.ref o] h Q := by
  unfold D_Mo_goesOn at hD
  refine Mv.of RX8 rfl (by decide) (by simp [lg_sl, Value.category]) [(0, .ref o)] rfl (fun X hXl C R => ?_)
  subst hXl
  refine g_wt (fun hw => ?_)
  refine g_aload_n (pc := 0) rfl 0 rfl C dX8_goesOn_0 ?_
  refine g_getI (pc := 1) C fl_RX8_203 t0 rfl dX8_goesOn_1 ?_
  refine g_sipush (pc := 4) (v := 400) (by decide) C dX8_goesOn_4 ?_
  refine g_icmp_ne (pc := 7) 18 C dX8_goesOn_7 (by decide) (fun c1 => ?_) (fun c1 => ?_)
  · have hD := hD.1 c1
    refine g_aload_n (pc := 18) rfl 0 rfl C dX8_goesOn_18 ?_
    refine g_dup (pc := 19) rfl C dX8_goesOn_19 ?_
    refine g_getI (pc := 20) C fl_RX8_203 t0 rfl dX8_goesOn_20 ?_
    refine g_iconst (pc := 23) (v := 1) (by decide) C dX8_goesOn_23 ?_
    refine g_iadd (pc := 24) C dX8_goesOn_24 ?_
    refine g_putI (pc := 25) C fl_RX8_203 t0 rfl rfl rfl dX8_goesOn_25 (fun h2 eh2 => ?_)
    have hD := hD h2 eh2
    exact g_vret (pc := 28) C R dX8_goesOn_28 hD
  · have hD := hD.2 c1
    refine g_aload_n (pc := 10) rfl 0 rfl C dX8_goesOn_10 ?_
    refine g_iconst (pc := 11) (v := 2) (by decide) C dX8_goesOn_11 ?_
    refine g_callVv (pc := 12) (As := [.int 2]) C mv_RX8_215 (M_Mo_fail t0 hD) t0 (by decide) rfl rfl (Nat.le_of_ble_eq_true rfl) dX8_goesOn_12 (fun h3 hD => ?_)
    refine g_goto (pc := 15) 28 C dX8_goesOn_15 (by decide) ?_
    exact g_vret (pc := 28) C R dX8_goesOn_28 hD
def D_Mo_is (r : TR) (o : Nat) (a1 : Int32) (h : TH) (Q : Int32 → TH → Prop) : Prop :=
  ((¬ (h.1 o 13) = 0 → Q 0 h) ∧ ((h.1 o 13) = 0 → ∀ i3 : Int32, i3 = h.1 o 11 → vp_in i3 403 ∧ ((¬ (h.1 (r o 5) i3.toNatClampNeg) = a1 → Q 0 h) ∧ ((h.1 (r o 5) i3.toNatClampNeg) = a1 → Q 1 h))))
set_option maxRecDepth 100000 in
set_option maxHeartbeats 4000000 in
theorem M_Mo_is {Y : CG} {r : TR} {l : Launch} {o : Nat} {a1 : Int32} {h : TH} {Q : Int32 → TH → Prop} (t0 : TO Y o 8) (hD : D_Mo_is r o a1 h Q) : Mi Y r l yX8_is cX8_is 2 .boolean 1 [.ref o, .int a1] h Q := by
  unfold D_Mo_is at hD
  refine Mi.of RX8 rfl (by decide) (by simp [lg_sl, Value.category]) [(0, .ref o), (1, .int a1)] rfl (fun X hXl C R => ?_)
  subst hXl
  refine g_wt (fun hw => ?_)
  refine g_aload_n (pc := 0) rfl 0 rfl C dX8_is_0 ?_
  refine g_getI (pc := 1) C fl_RX8_200 t0 rfl dX8_is_1 ?_
  refine g_if_ne (pc := 4) 24 C dX8_is_4 (by decide) (fun c1 => ?_) (fun c1 => ?_)
  · have hD := hD.1 c1
    refine g_iconst (pc := 24) (v := 0) (by decide) C dX8_is_24 ?_
    exact g_zret (pc := 25) C R nz_0 dX8_is_25 hD
  · have hD := hD.2 c1
    refine g_aload_n (pc := 7) rfl 0 rfl C dX8_is_7 ?_
    have u2 : TA Y (r o 5) 10 403 := wt_a hw t0 (by decide) (by decide) rfl
    refine g_getR (pc := 8) C fl_RX8_20 t0 rfl dX8_is_8 ?_
    refine g_aload_n (pc := 11) rfl 0 rfl C dX8_is_11 ?_
    refine g_getI (pc := 12) C fl_RX8_203 t0 rfl dX8_is_12 ?_
    refine g_topi (fun i3 ei3 => ?_)
    have hD := hD i3 ei3
    obtain ⟨hb, hD⟩ := hD
    refine g_iald (pc := 15) C u2 hb dX8_is_15 ?_
    refine g_iload_n (pc := 16) rfl 1 rfl C dX8_is_16 ?_
    refine g_icmp_ne (pc := 17) 24 C dX8_is_17 (by decide) (fun c4 => ?_) (fun c4 => ?_)
    · have hD := hD.1 c4
      refine g_iconst (pc := 24) (v := 0) (by decide) C dX8_is_24 ?_
      exact g_zret (pc := 25) C R nz_0 dX8_is_25 hD
    · have hD := hD.2 c4
      refine g_iconst (pc := 20) (v := 1) (by decide) C dX8_is_20 ?_
      refine g_goto (pc := 21) 25 C dX8_is_21 (by decide) ?_
      exact g_zret (pc := 25) C R nz_1 dX8_is_25 hD
def D_Mo_wrong (r : TR) (o : Nat) (a1 : Int32) (a2 : Int32) (h : TH) (Q : TH → Prop) : Prop :=
  vp_in a2 403 ∧ ∀ x2 : Int32, x2 = h.1 (r o 6) a2.toNatClampNeg → ((0 < (h.1 o 13) → Q h) ∧ (¬ 0 < (h.1 o 13) → (((h.1 o 15) = 0 → ∀ h5, h5 = pI h o 15 a1 → ∀ h6, h6 = pI h5 o 16 x2 → Q h6) ∧ (¬ (h.1 o 15) = 0 → (((h.1 o 16) < x2 → Q h) ∧ (¬ (h.1 o 16) < x2 → ((¬ x2 = (h.1 o 16) → ∀ h9, h9 = pI h o 15 a1 → ∀ h10, h10 = pI h9 o 16 x2 → Q h10) ∧ (x2 = (h.1 o 16) → ((a1 < (h.1 o 15) → ∀ h12, h12 = pI h o 15 a1 → ∀ h13, h13 = pI h12 o 16 x2 → Q h13) ∧ (¬ a1 < (h.1 o 15) → Q h))))))))))
set_option maxRecDepth 100000 in
set_option maxHeartbeats 4000000 in
theorem M_Mo_wrong {Y : CG} {r : TR} {l : Launch} {o : Nat} {a1 : Int32} {a2 : Int32} {h : TH} {Q : TH → Prop} (t0 : TO Y o 8) (hD : D_Mo_wrong r o a1 a2 h Q) : Mv Y r l yX8_wrong cX8_wrong 4 1 [.ref o, .int a1, .int a2] h Q := by
  unfold D_Mo_wrong at hD
  refine Mv.of RX8 rfl (by decide) (by simp [lg_sl, Value.category]) [(0, .ref o), (1, .int a1), (2, .int a2)] rfl (fun X hXl C R => ?_)
  subst hXl
  refine g_wt (fun hw => ?_)
  refine g_aload_n (pc := 0) rfl 0 rfl C dX8_wrong_0 ?_
  have u1 : TA Y (r o 6) 10 403 := wt_a hw t0 (by decide) (by decide) rfl
  refine g_getR (pc := 1) C fl_RX8_24 t0 rfl dX8_wrong_1 ?_
  refine g_iload_n (pc := 4) rfl 2 rfl C dX8_wrong_4 ?_
  obtain ⟨hb, hD⟩ := hD
  refine g_iald (pc := 5) C u1 hb dX8_wrong_5 ?_
  refine g_istore_n (pc := 6) (fun x2 => [(3, .int x2), (0, .ref o), (1, .int a1), (2, .int a2)]) C dX8_wrong_6 rfl (by decide) rfl (fun x2 ex2 => ?_)
  have hD := hD x2 ex2
  refine g_aload_n (pc := 7) rfl 1 rfl C dX8_wrong_7 ?_
  refine g_getI (pc := 8) C fl_RX8_200 t0 rfl dX8_wrong_8 ?_
  refine g_if_gt (pc := 11) 45 C dX8_wrong_11 (by decide) (fun c3 => ?_) (fun c3 => ?_)
  · have hD := hD.1 c3
    exact g_vret (pc := 45) C R dX8_wrong_45 hD
  · have hD := hD.2 c3
    refine g_aload_n (pc := 14) rfl 1 rfl C dX8_wrong_14 ?_
    refine g_getI (pc := 15) C fl_RX8_209 t0 rfl dX8_wrong_15 ?_
    refine g_if_eq (pc := 18) 46 C dX8_wrong_18 (by decide) (fun c4 => ?_) (fun c4 => ?_)
    · have hD := hD.1 c4
      refine g_aload_n (pc := 46) rfl 1 rfl C dX8_wrong_46 ?_
      refine g_iload_n (pc := 47) rfl 2 rfl C dX8_wrong_47 ?_
      refine g_putI (pc := 48) C fl_RX8_209 t0 rfl rfl rfl dX8_wrong_48 (fun h5 eh5 => ?_)
      have hD := hD h5 eh5
      refine g_aload_n (pc := 51) rfl 1 rfl C dX8_wrong_51 ?_
      refine g_iload_n (pc := 52) rfl 0 rfl C dX8_wrong_52 ?_
      refine g_putI (pc := 53) C fl_RX8_212 t0 rfl rfl rfl dX8_wrong_53 (fun h6 eh6 => ?_)
      have hD := hD h6 eh6
      exact g_vret (pc := 56) C R dX8_wrong_56 hD
    · have hD := hD.2 c4
      refine g_iload_n (pc := 21) rfl 0 rfl C dX8_wrong_21 ?_
      refine g_aload_n (pc := 22) rfl 1 rfl C dX8_wrong_22 ?_
      refine g_getI (pc := 23) C fl_RX8_212 t0 rfl dX8_wrong_23 ?_
      refine g_icmp_gt (pc := 26) 45 C dX8_wrong_26 (by decide) (fun c7 => ?_) (fun c7 => ?_)
      · have hD := hD.1 c7
        exact g_vret (pc := 45) C R dX8_wrong_45 hD
      · have hD := hD.2 c7
        refine g_iload_n (pc := 29) rfl 0 rfl C dX8_wrong_29 ?_
        refine g_aload_n (pc := 30) rfl 1 rfl C dX8_wrong_30 ?_
        refine g_getI (pc := 31) C fl_RX8_212 t0 rfl dX8_wrong_31 ?_
        refine g_icmp_ne (pc := 34) 46 C dX8_wrong_34 (by decide) (fun c8 => ?_) (fun c8 => ?_)
        · have hD := hD.1 c8
          refine g_aload_n (pc := 46) rfl 1 rfl C dX8_wrong_46 ?_
          refine g_iload_n (pc := 47) rfl 2 rfl C dX8_wrong_47 ?_
          refine g_putI (pc := 48) C fl_RX8_209 t0 rfl rfl rfl dX8_wrong_48 (fun h9 eh9 => ?_)
          have hD := hD h9 eh9
          refine g_aload_n (pc := 51) rfl 1 rfl C dX8_wrong_51 ?_
          refine g_iload_n (pc := 52) rfl 0 rfl C dX8_wrong_52 ?_
          refine g_putI (pc := 53) C fl_RX8_212 t0 rfl rfl rfl dX8_wrong_53 (fun h10 eh10 => ?_)
          have hD := hD h10 eh10
          exact g_vret (pc := 56) C R dX8_wrong_56 hD
        · have hD := hD.2 c8
          refine g_iload_n (pc := 37) rfl 2 rfl C dX8_wrong_37 ?_
          refine g_aload_n (pc := 38) rfl 1 rfl C dX8_wrong_38 ?_
          refine g_getI (pc := 39) C fl_RX8_209 t0 rfl dX8_wrong_39 ?_
          refine g_icmp_lt (pc := 42) 46 C dX8_wrong_42 (by decide) (fun c11 => ?_) (fun c11 => ?_)
          · have hD := hD.1 c11
            refine g_aload_n (pc := 46) rfl 1 rfl C dX8_wrong_46 ?_
            refine g_iload_n (pc := 47) rfl 2 rfl C dX8_wrong_47 ?_
            refine g_putI (pc := 48) C fl_RX8_209 t0 rfl rfl rfl dX8_wrong_48 (fun h12 eh12 => ?_)
            have hD := hD h12 eh12
            refine g_aload_n (pc := 51) rfl 1 rfl C dX8_wrong_51 ?_
            refine g_iload_n (pc := 52) rfl 0 rfl C dX8_wrong_52 ?_
            refine g_putI (pc := 53) C fl_RX8_212 t0 rfl rfl rfl dX8_wrong_53 (fun h13 eh13 => ?_)
            have hD := hD h13 eh13
            exact g_vret (pc := 56) C R dX8_wrong_56 hD
          · have hD := hD.2 c11
            exact g_vret (pc := 45) C R dX8_wrong_45 hD
def DJ_Mo_bounded_42 (r : TR) (l0 : Nat) (l3 : Int32) (h : TH) (Q : Int32 → TH → Prop) : Prop :=
  D_Mo_wrong r l0 5 (h.1 l0 11) h (fun h11 => D_Mo_goesOn r l0 h11 (fun h13 => Q l3 h13))
set_option maxRecDepth 100000 in
set_option maxHeartbeats 4000000 in
theorem WJ_Mo_bounded_42 {Y : CG} {X : CX} {r : TR} {l0 : Nat} {l3 : Int32} {h : TH} {Q : Int32 → TH → Prop} (C : Gd Y X cX8_bounded 4 RX8 3) (R : Ri Y r X .int Q) (t0 : TO Y l0 8) (hD : DJ_Mo_bounded_42 r l0 l3 h  Q) : G Y X 4 42 [(0, .ref l0), (3, .int l3)] [] r h := by
  unfold DJ_Mo_bounded_42 at hD
  refine g_wt (fun hw => ?_)
  refine g_aload_n (pc := 42) rfl 0 rfl C dX8_bounded_42 ?_
  refine g_iconst (pc := 43) (v := 5) (by decide) C dX8_bounded_43 ?_
  refine g_aload_n (pc := 44) rfl 0 rfl C dX8_bounded_44 ?_
  refine g_getI (pc := 45) C fl_RX8_203 t0 rfl dX8_bounded_45 ?_
  refine g_callVv (pc := 48) (As := [.int 5, .int (h.1 l0 11)]) C mv_RX8_251 (M_Mo_wrong t0 hD) t0 (by decide) rfl rfl (Nat.le_of_ble_eq_true rfl) dX8_bounded_48 (fun h11 hD => ?_)
  refine g_aload_n (pc := 51) rfl 0 rfl C dX8_bounded_51 ?_
  refine g_callVv (pc := 52) (As := []) C mv_RX8_221 (M_Mo_goesOn t0 hD) t0 (by decide) rfl rfl (Nat.le_of_ble_eq_true rfl) dX8_bounded_52 (fun h13 hD => ?_)
  refine g_iload_n (pc := 55) rfl 1 rfl C dX8_bounded_55 ?_
  exact g_iret (pc := 56) C R dX8_bounded_56 hD
def D_Mo_bounded (r : TR) (o : Nat) (a1 : Int32) (a2 : Int32) (h : TH) (Q : Int32 → TH → Prop) : Prop :=
  ((0 < (h.1 o 13) → D_Mo_fail r o 1 h (fun h2 => Q a1 h2)) ∧ (¬ 0 < (h.1 o 13) → D_Mo_is r o 2 h (fun x5 h4 => ((¬ x5 = 0 → ∀ i8 : Int32, i8 = h4.1 o 11 → vp_in i8 403 ∧ ∀ x9 : Int32, x9 = h4.1 (r o 7) i8.toNatClampNeg → ((x9 < a1 → DJ_Mo_bounded_42 r o x9 h4 Q) ∧ (¬ x9 < a1 → ((x9 ≤ a2 → D_Mo_goesOn r o h4 (fun h16 => Q x9 h16)) ∧ (¬ x9 ≤ a2 → DJ_Mo_bounded_42 r o x9 h4 Q))))) ∧ (x5 = 0 → D_Mo_fail r o 1 h4 (fun h18 => Q a1 h18))))))
set_option maxRecDepth 100000 in
set_option maxHeartbeats 4000000 in
theorem M_Mo_bounded {Y : CG} {r : TR} {l : Launch} {o : Nat} {a1 : Int32} {a2 : Int32} {h : TH} {Q : Int32 → TH → Prop} (t0 : TO Y o 8) (hD : D_Mo_bounded r o a1 a2 h Q) : Mi Y r l yX8_bounded cX8_bounded 4 .int 3 [.ref o, .int a1, .int a2] h Q := by
  unfold D_Mo_bounded at hD
  refine Mi.of RX8 rfl (by decide) (by simp [lg_sl, Value.category]) [(0, .ref o), (1, .int a1), (2, .int a2)] rfl (fun X hXl C R => ?_)
  subst hXl
  refine g_wt (fun hw => ?_)
  refine g_aload_n (pc := 0) rfl 0 rfl C dX8_bounded_0 ?_
  refine g_getI (pc := 1) C fl_RX8_200 t0 rfl dX8_bounded_1 ?_
  refine g_if_gt (pc := 4) 15 C dX8_bounded_4 (by decide) (fun c1 => ?_) (fun c1 => ?_)
  · have hD := hD.1 c1
    refine g_aload_n (pc := 15) rfl 0 rfl C dX8_bounded_15 ?_
    refine g_iconst (pc := 16) (v := 1) (by decide) C dX8_bounded_16 ?_
    refine g_callVv (pc := 17) (As := [.int 1]) C mv_RX8_215 (M_Mo_fail t0 hD) t0 (by decide) rfl rfl (Nat.le_of_ble_eq_true rfl) dX8_bounded_17 (fun h2 hD => ?_)
    refine g_iload_n (pc := 20) rfl 1 rfl C dX8_bounded_20 ?_
    exact g_iret (pc := 21) C R dX8_bounded_21 hD
  · have hD := hD.2 c1
    refine g_aload_n (pc := 7) rfl 0 rfl C dX8_bounded_7 ?_
    refine g_iconst (pc := 8) (v := 2) (by decide) C dX8_bounded_8 ?_
    refine g_callVi (pc := 9) (As := [.int 2]) C mv_RX8_218 (M_Mo_is t0 hD) t0 (by decide) rfl rfl (Nat.le_of_ble_eq_true rfl) dX8_bounded_9 (fun x5 h4 hD => ?_)
    refine g_if_ne (pc := 12) 22 C dX8_bounded_12 (by decide) (fun c6 => ?_) (fun c6 => ?_)
    · have hD := hD.1 c6
      refine g_aload_n (pc := 22) rfl 0 rfl C dX8_bounded_22 ?_
      have u7 : TA Y (r o 7) 10 403 := wt_a hw t0 (by decide) (by decide) rfl
      refine g_getR (pc := 23) C fl_RX8_27 t0 rfl dX8_bounded_23 ?_
      refine g_aload_n (pc := 26) rfl 0 rfl C dX8_bounded_26 ?_
      refine g_getI (pc := 27) C fl_RX8_203 t0 rfl dX8_bounded_27 ?_
      refine g_topi (fun i8 ei8 => ?_)
      have hD := hD i8 ei8
      obtain ⟨hb, hD⟩ := hD
      refine g_iald (pc := 30) C u7 hb dX8_bounded_30 ?_
      refine g_istore_n (pc := 31) (fun x9 => [(3, .int x9), (0, .ref o), (1, .int a1), (2, .int a2)]) C dX8_bounded_31 rfl (by decide) rfl (fun x9 ex9 => ?_)
      have hD := hD x9 ex9
      refine g_iload_n (pc := 32) rfl 0 rfl C dX8_bounded_32 ?_
      refine g_iload_n (pc := 33) rfl 2 rfl C dX8_bounded_33 ?_
      refine g_icmp_lt (pc := 34) 42 C dX8_bounded_34 (by decide) (fun c10 => ?_) (fun c10 => ?_)
      · have hD := hD.1 c10
        refine g_sub [1, 0] rfl ?_
        exact WJ_Mo_bounded_42 C R t0 hD
      · have hD := hD.2 c10
        refine g_iload_n (pc := 37) rfl 0 rfl C dX8_bounded_37 ?_
        refine g_iload_n (pc := 38) rfl 3 rfl C dX8_bounded_38 ?_
        refine g_icmp_le (pc := 39) 51 C dX8_bounded_39 (by decide) (fun c15 => ?_) (fun c15 => ?_)
        · have hD := hD.1 c15
          refine g_aload_n (pc := 51) rfl 1 rfl C dX8_bounded_51 ?_
          refine g_callVv (pc := 52) (As := []) C mv_RX8_221 (M_Mo_goesOn t0 hD) t0 (by decide) rfl rfl (Nat.le_of_ble_eq_true rfl) dX8_bounded_52 (fun h16 hD => ?_)
          refine g_iload_n (pc := 55) rfl 0 rfl C dX8_bounded_55 ?_
          exact g_iret (pc := 56) C R dX8_bounded_56 hD
        · have hD := hD.2 c15
          refine g_sub [1, 0] rfl ?_
          exact WJ_Mo_bounded_42 C R t0 hD
    · have hD := hD.2 c6
      refine g_aload_n (pc := 15) rfl 0 rfl C dX8_bounded_15 ?_
      refine g_iconst (pc := 16) (v := 1) (by decide) C dX8_bounded_16 ?_
      refine g_callVv (pc := 17) (As := [.int 1]) C mv_RX8_215 (M_Mo_fail t0 hD) t0 (by decide) rfl rfl (Nat.le_of_ble_eq_true rfl) dX8_bounded_17 (fun h18 hD => ?_)
      refine g_iload_n (pc := 20) rfl 1 rfl C dX8_bounded_20 ?_
      exact g_iret (pc := 21) C R dX8_bounded_21 hD
def D_Mo_byteAt (r : TR) (o : Nat) (a1 : Int32) (h : TH) (Q : Int32 → TH → Prop) : Prop :=
  (((h.1 o 4) ≤ a1 → Q 0 h) ∧ (¬ (h.1 o 4) ≤ a1 → vp_in a1 2000 ∧ Q ((h.1 (r o 3) a1.toNatClampNeg) &&& 255) h))
set_option maxRecDepth 100000 in
set_option maxHeartbeats 4000000 in
theorem M_Mo_byteAt {Y : CG} {r : TR} {l : Launch} {o : Nat} {a1 : Int32} {h : TH} {Q : Int32 → TH → Prop} (t0 : TO Y o 8) (hD : D_Mo_byteAt r o a1 h Q) : Mi Y r l yX8_byteAt cX8_byteAt 2 .int 1 [.ref o, .int a1] h Q := by
  unfold D_Mo_byteAt at hD
  refine Mi.of RX8 rfl (by decide) (by simp [lg_sl, Value.category]) [(0, .ref o), (1, .int a1)] rfl (fun X hXl C R => ?_)
  subst hXl
  refine g_wt (fun hw => ?_)
  refine g_iload_n (pc := 0) rfl 1 rfl C dX8_byteAt_0 ?_
  refine g_aload_n (pc := 1) rfl 0 rfl C dX8_byteAt_1 ?_
  refine g_getI (pc := 2) C fl_RX8_169 t0 rfl dX8_byteAt_2 ?_
  refine g_icmp_ge (pc := 5) 21 C dX8_byteAt_5 (by decide) (fun c1 => ?_) (fun c1 => ?_)
  · have hD := hD.1 c1
    refine g_iconst (pc := 21) (v := 0) (by decide) C dX8_byteAt_21 ?_
    exact g_iret (pc := 22) C R dX8_byteAt_22 hD
  · have hD := hD.2 c1
    refine g_aload_n (pc := 8) rfl 0 rfl C dX8_byteAt_8 ?_
    have u2 : TA Y (r o 3) 9 2000 := wt_a hw t0 (by decide) (by decide) rfl
    refine g_getR (pc := 9) C fl_RX8_17 t0 rfl dX8_byteAt_9 ?_
    refine g_iload_n (pc := 12) rfl 1 rfl C dX8_byteAt_12 ?_
    obtain ⟨hb, hD⟩ := hD
    refine g_bald (pc := 13) C u2 hb dX8_byteAt_13 ?_
    refine g_sipush (pc := 14) (v := 255) (by decide) C dX8_byteAt_14 ?_
    refine g_iand (pc := 17) C dX8_byteAt_17 ?_
    refine g_goto (pc := 18) 22 C dX8_byteAt_18 (by decide) ?_
    exact g_iret (pc := 22) C R dX8_byteAt_22 hD
def DB_Mo_cell_64 (r : TR) (l0 : Nat) (l1 : Int32) (l2 : Int32) (l4 : Int32) (l5 : Int32) (h : TH) (K64 : Int32 → Int32 → TH → Prop) (K127 : Int32 → TH → Prop) (Q : Int32 → TH → Prop) : Prop :=
  ∀ i16 : Int32, i16 = h.1 l0 18 → vp_in i16 2 ∧ (((h.1 (r l0 25) i16.toNatClampNeg) ≤ l5 → K127 l4 h) ∧ (¬ (h.1 (r l0 25) i16.toNatClampNeg) ≤ l5 → D_Mo_isSailing r l0 l5 h (fun x19 h18 => ((x19 = 0 → ∀ x21 : Int32, x21 = l5 + 1 → K64 l4 x21 h18) ∧ (¬ x19 = 0 → vp_in l5 512 ∧ ((¬ (h18.1 (r l0 49) l5.toNatClampNeg) = l1 → ∀ x24 : Int32, x24 = l5 + 1 → K64 l4 x24 h18) ∧ ((h18.1 (r l0 49) l5.toNatClampNeg) = l1 → ∀ i26 : Int32, i26 = 6 + l5 → vp_in i26 512 ∧ ((¬ (h18.1 (r l0 49) i26.toNatClampNeg) = l2 → ∀ x28 : Int32, x28 = l5 + 1 → K64 l4 x28 h18) ∧ ((h18.1 (r l0 49) i26.toNatClampNeg) = l2 → ∀ x29 : Int32, x29 = l4 ||| ((1 : Int32) <<< (l5 &&& 31)) → ∀ x30 : Int32, x30 = l5 + 1 → K64 x29 x30 h18)))))))))
set_option maxRecDepth 100000 in
set_option maxHeartbeats 4000000 in
theorem WB_Mo_cell_64 {Y : CG} {X : CX} {r : TR} {l0 : Nat} {l1 : Int32} {l2 : Int32} {l4 : Int32} {l5 : Int32} {h : TH} {K64 : Int32 → Int32 → TH → Prop} {K127 : Int32 → TH → Prop} {Q : Int32 → TH → Prop} (C : Gd Y X cX8_cell 6 RX8 3) (R : Ri Y r X .int Q) (t0 : TO Y l0 8) (hK64 : ∀ (k4 : Int32) (k5 : Int32) (hh : TH), K64 k4 k5 hh → G Y X 6 64 [(0, .ref l0), (1, .int l1), (2, .int l2), (4, .int k4), (5, .int k5)] [] r hh) (hK127 : ∀ (k4 : Int32) (hh : TH), K127 k4 hh → G Y X 6 127 [(4, .int k4)] [] r hh) (hD : DB_Mo_cell_64 r l0 l1 l2 l4 l5 h K64 K127 Q) : G Y X 6 64 [(0, .ref l0), (1, .int l1), (2, .int l2), (4, .int l4), (5, .int l5)] [] r h := by
  unfold DB_Mo_cell_64 at hD
  refine g_wt (fun hw => ?_)
  refine g_iload (pc := 64) 4 rfl C dX8_cell_64 ?_
  refine g_aload_n (pc := 66) rfl 0 rfl C dX8_cell_66 ?_
  have u15 : TA Y (r l0 25) 10 2 := wt_a hw t0 (by decide) (by decide) rfl
  refine g_getR (pc := 67) C fl_RX8_52 t0 rfl dX8_cell_67 ?_
  refine g_aload_n (pc := 70) rfl 0 rfl C dX8_cell_70 ?_
  refine g_getI (pc := 71) C fl_RX8_230 t0 rfl dX8_cell_71 ?_
  refine g_topi (fun i16 ei16 => ?_)
  have hD := hD i16 ei16
  obtain ⟨hb, hD⟩ := hD
  refine g_iald (pc := 74) C u15 hb dX8_cell_74 ?_
  refine g_icmp_ge (pc := 75) 127 C dX8_cell_75 (by decide) (fun c17 => ?_) (fun c17 => ?_)
  · have hD := hD.1 c17
    refine g_sub [3] rfl ?_
    exact hK127 l4 h hD
  · have hD := hD.2 c17
    refine g_aload_n (pc := 78) rfl 0 rfl C dX8_cell_78 ?_
    refine g_iload (pc := 79) 4 rfl C dX8_cell_79 ?_
    refine g_callVi (pc := 81) (As := [.int l5]) C mv_RX8_347 (M_Mo_isSailing t0 hD) t0 (by decide) rfl rfl (Nat.le_of_ble_eq_true rfl) dX8_cell_81 (fun x19 h18 hD => ?_)
    refine g_if_eq (pc := 84) 121 C dX8_cell_84 (by decide) (fun c20 => ?_) (fun c20 => ?_)
    · have hD := hD.1 c20
      refine g_iinc (pc := 121) (q := 4) (c := 1) (fun x21 => [(5, .int x21), (0, .ref l0), (1, .int l1), (2, .int l2), (4, .int l4)]) C dX8_cell_121 rfl (by decide) (by decide) rfl (fun x21 ex21 => ?_)
      have hD := hD x21 ex21
      refine g_goto (pc := 124) 64 C dX8_cell_124 (by decide) ?_
      refine g_sub [1, 2, 3, 4, 0] rfl ?_
      exact hK64 l4 x21 h18 hD
    · have hD := hD.2 c20
      refine g_aload_n (pc := 87) rfl 0 rfl C dX8_cell_87 ?_
      have u22 : TA Y (r l0 49) 10 512 := wt_a hw t0 (by decide) (by decide) rfl
      refine g_getR (pc := 88) C fl_RX8_113 t0 rfl dX8_cell_88 ?_
      refine g_iload (pc := 91) 4 rfl C dX8_cell_91 ?_
      obtain ⟨hb, hD⟩ := hD
      refine g_iald (pc := 93) C u22 hb dX8_cell_93 ?_
      refine g_iload_n (pc := 94) rfl 1 rfl C dX8_cell_94 ?_
      refine g_icmp_ne (pc := 95) 121 C dX8_cell_95 (by decide) (fun c23 => ?_) (fun c23 => ?_)
      · have hD := hD.1 c23
        refine g_iinc (pc := 121) (q := 4) (c := 1) (fun x24 => [(5, .int x24), (0, .ref l0), (1, .int l1), (2, .int l2), (4, .int l4)]) C dX8_cell_121 rfl (by decide) (by decide) rfl (fun x24 ex24 => ?_)
        have hD := hD x24 ex24
        refine g_goto (pc := 124) 64 C dX8_cell_124 (by decide) ?_
        refine g_sub [1, 2, 3, 4, 0] rfl ?_
        exact hK64 l4 x24 h18 hD
      · have hD := hD.2 c23
        refine g_aload_n (pc := 98) rfl 0 rfl C dX8_cell_98 ?_
        have u25 : TA Y (r l0 49) 10 512 := wt_a hw t0 (by decide) (by decide) rfl
        refine g_getR (pc := 99) C fl_RX8_113 t0 rfl dX8_cell_99 ?_
        refine g_bipush (pc := 102) (v := 6) (by decide) C dX8_cell_102 ?_
        refine g_iload (pc := 104) 4 rfl C dX8_cell_104 ?_
        refine g_iadd (pc := 106) C dX8_cell_106 ?_
        refine g_topi (fun i26 ei26 => ?_)
        have hD := hD i26 ei26
        obtain ⟨hb, hD⟩ := hD
        refine g_iald (pc := 107) C u25 hb dX8_cell_107 ?_
        refine g_iload_n (pc := 108) rfl 2 rfl C dX8_cell_108 ?_
        refine g_icmp_ne (pc := 109) 121 C dX8_cell_109 (by decide) (fun c27 => ?_) (fun c27 => ?_)
        · have hD := hD.1 c27
          refine g_iinc (pc := 121) (q := 4) (c := 1) (fun x28 => [(5, .int x28), (0, .ref l0), (1, .int l1), (2, .int l2), (4, .int l4)]) C dX8_cell_121 rfl (by decide) (by decide) rfl (fun x28 ex28 => ?_)
          have hD := hD x28 ex28
          refine g_goto (pc := 124) 64 C dX8_cell_124 (by decide) ?_
          refine g_sub [1, 2, 3, 4, 0] rfl ?_
          exact hK64 l4 x28 h18 hD
        · have hD := hD.2 c27
          refine g_iload (pc := 112) 3 rfl C dX8_cell_112 ?_
          refine g_iconst (pc := 114) (v := 1) (by decide) C dX8_cell_114 ?_
          refine g_iload (pc := 115) 4 rfl C dX8_cell_115 ?_
          refine g_ishl (pc := 117) C dX8_cell_117 ?_
          refine g_ior (pc := 118) C dX8_cell_118 ?_
          refine g_istore (pc := 119) (fun x29 => [(4, .int x29), (0, .ref l0), (1, .int l1), (2, .int l2), (5, .int l5)]) C dX8_cell_119 (by decide) rfl (fun x29 ex29 => ?_)
          have hD := hD x29 ex29
          refine g_iinc (pc := 121) (q := 4) (c := 1) (fun x30 => [(5, .int x30), (4, .int x29), (0, .ref l0), (1, .int l1), (2, .int l2)]) C dX8_cell_121 rfl (by decide) (by decide) rfl (fun x30 ex30 => ?_)
          have hD := hD x30 ex30
          refine g_goto (pc := 124) 64 C dX8_cell_124 (by decide) ?_
          refine g_sub [2, 3, 4, 1, 0] rfl ?_
          exact hK64 x29 x30 h18 hD
def D_Mo_cell (r : TR) (o : Nat) (a1 : Int32) (a2 : Int32) (a3 : Int32) (h : TH) (Q : Int32 → TH → Prop) : Prop :=
  D_Mo_isCell r o a1 a2 h (fun x2 h1 => ((¬ x2 = 0 → D_Mo_copies r o h1 (fun h4 => ((a3 = 0 → D_Mo_sortAt r o a1 a2 h4 (fun x8 h7 => Q x8 h7)) ∧ (¬ a3 = 0 → ((a3 = 1 → D_Mo_smeltAt r o a1 a2 h4 (fun x11 h10 => Q x11 h10)) ∧ (¬ a3 = 1 → ((a3 = 2 → ∃ n, lp (fun (K : Int32 × Int32 × TH → Prop) (s : Int32 × Int32 × TH) => DB_Mo_cell_64 r o a1 a2 s.1 s.2.1 s.2.2 (fun y31 y32 h33 => K (y31, y32, h33)) (fun x34 h35 => Q x34 h35) Q) n (0, 0, h4)) ∧ (¬ a3 = 2 → Q (-1) h4)))))))) ∧ (x2 = 0 → Q (-1) h1)))
set_option maxRecDepth 100000 in
set_option maxHeartbeats 4000000 in
theorem M_Mo_cell {Y : CG} {r : TR} {l : Launch} {o : Nat} {a1 : Int32} {a2 : Int32} {a3 : Int32} {h : TH} {Q : Int32 → TH → Prop} (t0 : TO Y o 8) (hD : D_Mo_cell r o a1 a2 a3 h Q) : Mi Y r l yX8_cell cX8_cell 6 .int 3 [.ref o, .int a1, .int a2, .int a3] h Q := by
  unfold D_Mo_cell at hD
  refine Mi.of RX8 rfl (by decide) (by simp [lg_sl, Value.category]) [(0, .ref o), (1, .int a1), (2, .int a2), (3, .int a3)] rfl (fun X hXl C R => ?_)
  subst hXl
  refine g_wt (fun hw => ?_)
  refine g_aload_n (pc := 0) rfl 0 rfl C dX8_cell_0 ?_
  refine g_iload_n (pc := 1) rfl 1 rfl C dX8_cell_1 ?_
  refine g_iload_n (pc := 2) rfl 2 rfl C dX8_cell_2 ?_
  refine g_callVi (pc := 3) (As := [.int a1, .int a2]) C mv_RX8_360 (M_Mo_isCell t0 hD) t0 (by decide) rfl rfl (Nat.le_of_ble_eq_true rfl) dX8_cell_3 (fun x2 h1 hD => ?_)
  refine g_if_ne (pc := 6) 11 C dX8_cell_6 (by decide) (fun c3 => ?_) (fun c3 => ?_)
  · have hD := hD.1 c3
    refine g_aload_n (pc := 11) rfl 0 rfl C dX8_cell_11 ?_
    refine g_callVv (pc := 12) (As := []) C mv_RX8_397 (M_Mo_copies t0 hD) t0 (by decide) rfl rfl (Nat.le_of_ble_eq_true rfl) dX8_cell_12 (fun h4 hD => ?_)
    refine g_iload_n (pc := 15) rfl 3 rfl C dX8_cell_15 ?_
    by_cases c6 : a3 = 0
    · have hD := hD.1 c6
      refine g_tswIn (pc := 16) 44 C dX8_cell_16 0 c6 (by decide) (by decide) rfl (by decide) ?_
      refine g_aload_n (pc := 44) rfl 0 rfl C dX8_cell_44 ?_
      refine g_iload_n (pc := 45) rfl 1 rfl C dX8_cell_45 ?_
      refine g_iload_n (pc := 46) rfl 2 rfl C dX8_cell_46 ?_
      refine g_callVi (pc := 47) (As := [.int a1, .int a2]) C mv_RX8_319 (M_Mo_sortAt t0 hD) t0 (by decide) rfl rfl (Nat.le_of_ble_eq_true rfl) dX8_cell_47 (fun x8 h7 hD => ?_)
      exact g_iret (pc := 50) C R dX8_cell_50 hD
    have hD := hD.2 c6
    by_cases c9 : a3 = 1
    · have hD := hD.1 c9
      refine g_tswIn (pc := 16) 51 C dX8_cell_16 1 c9 (by decide) (by decide) rfl (by decide) ?_
      refine g_aload_n (pc := 51) rfl 0 rfl C dX8_cell_51 ?_
      refine g_iload_n (pc := 52) rfl 1 rfl C dX8_cell_52 ?_
      refine g_iload_n (pc := 53) rfl 2 rfl C dX8_cell_53 ?_
      refine g_callVi (pc := 54) (As := [.int a1, .int a2]) C mv_RX8_400 (M_Mo_smeltAt t0 hD) t0 (by decide) rfl rfl (Nat.le_of_ble_eq_true rfl) dX8_cell_54 (fun x11 h10 hD => ?_)
      exact g_iret (pc := 57) C R dX8_cell_57 hD
    have hD := hD.2 c9
    by_cases c12 : a3 = 2
    · have hD := hD.1 c12
      refine g_tswIn (pc := 16) 58 C dX8_cell_16 2 c12 (by decide) (by decide) rfl (by decide) ?_
      refine g_iconst (pc := 58) (v := 0) (by decide) C dX8_cell_58 ?_
      refine g_istore (pc := 59) (fun _ => [(4, .int 0), (0, .ref o), (1, .int a1), (2, .int a2), (3, .int a3)]) C dX8_cell_59 (by decide) rfl (fun _ _ => ?_)
      refine g_iconst (pc := 61) (v := 0) (by decide) C dX8_cell_61 ?_
      refine g_istore (pc := 62) (fun _ => [(5, .int 0), (4, .int 0), (0, .ref o), (1, .int a1), (2, .int a2), (3, .int a3)]) C dX8_cell_62 (by decide) rfl (fun _ _ => ?_)
      obtain ⟨n, hD⟩ := hD
      refine g_sub [2, 3, 4, 1, 0] rfl ?_
      refine lp_run (fun s : Int32 × Int32 × TH => G Y X 6 64 [(0, .ref o), (1, .int a1), (2, .int a2), (4, .int s.1), (5, .int s.2.1)] [] r s.2.2) (fun K s hB hK => ?_) n (0, 0, h4) hD
      refine WB_Mo_cell_64 C R t0 (fun y31 y32 h33 hk => hK _ hk) (fun x34 h35 hD => ?_) hB
      · refine g_iload (pc := 127) 0 rfl C dX8_cell_127 ?_
        exact g_iret (pc := 129) C R dX8_cell_129 hD
    have hD := hD.2 c12
    have nc6 : ¬ (a3).toInt = 0 := tsw_ne c6
    have nc9 : ¬ (a3).toInt = 1 := tsw_ne c9
    have nc12 : ¬ (a3).toInt = 2 := tsw_ne c12
    refine g_tswOut (pc := 16) 130 C dX8_cell_16 (by omega) (by decide) ?_
    refine g_iconst (pc := 130) (v := (-1)) (by decide) C dX8_cell_130 ?_
    exact g_iret (pc := 131) C R dX8_cell_131 hD
  · have hD := hD.2 c3
    refine g_iconst (pc := 9) (v := (-1)) (by decide) C dX8_cell_9 ?_
    exact g_iret (pc := 10) C R dX8_cell_10 hD
def D_Mo_cellBy (r : TR) (a0 : Int32) (h : TH) (Q : Int32 → TH → Prop) : Prop :=
  ((¬ a0 = 111 → ((¬ a0 = 114 → ((¬ a0 = 109 → Q (-1) h) ∧ (a0 = 109 → Q 2 h))) ∧ (a0 = 114 → Q 1 h))) ∧ (a0 = 111 → Q 0 h))
set_option maxRecDepth 100000 in
set_option maxHeartbeats 4000000 in
theorem M_Mo_cellBy {Y : CG} {r : TR} {l : Launch} {a0 : Int32} {h : TH} {Q : Int32 → TH → Prop} (hD : D_Mo_cellBy r a0 h Q) : Mi Y r l yX8_cellBy cX8_cellBy 1 .int 1 [.int a0] h Q := by
  unfold D_Mo_cellBy at hD
  refine Mi.of RX8 rfl (by decide) (by simp [lg_sl, Value.category]) [(0, .int a0)] rfl (fun X hXl C R => ?_)
  subst hXl
  refine g_wt (fun hw => ?_)
  refine g_iload_n (pc := 0) rfl 0 rfl C dX8_cellBy_0 ?_
  refine g_bipush (pc := 1) (v := 111) (by decide) C dX8_cellBy_1 ?_
  refine g_icmp_ne (pc := 3) 10 C dX8_cellBy_3 (by decide) (fun c1 => ?_) (fun c1 => ?_)
  · have hD := hD.1 c1
    refine g_iload_n (pc := 10) rfl 0 rfl C dX8_cellBy_10 ?_
    refine g_bipush (pc := 11) (v := 114) (by decide) C dX8_cellBy_11 ?_
    refine g_icmp_ne (pc := 13) 20 C dX8_cellBy_13 (by decide) (fun c2 => ?_) (fun c2 => ?_)
    · have hD := hD.1 c2
      refine g_iload_n (pc := 20) rfl 0 rfl C dX8_cellBy_20 ?_
      refine g_bipush (pc := 21) (v := 109) (by decide) C dX8_cellBy_21 ?_
      refine g_icmp_ne (pc := 23) 30 C dX8_cellBy_23 (by decide) (fun c3 => ?_) (fun c3 => ?_)
      · have hD := hD.1 c3
        refine g_iconst (pc := 30) (v := (-1)) (by decide) C dX8_cellBy_30 ?_
        exact g_iret (pc := 31) C R dX8_cellBy_31 hD
      · have hD := hD.2 c3
        refine g_iconst (pc := 26) (v := 2) (by decide) C dX8_cellBy_26 ?_
        refine g_goto (pc := 27) 31 C dX8_cellBy_27 (by decide) ?_
        exact g_iret (pc := 31) C R dX8_cellBy_31 hD
    · have hD := hD.2 c2
      refine g_iconst (pc := 16) (v := 1) (by decide) C dX8_cellBy_16 ?_
      refine g_goto (pc := 17) 31 C dX8_cellBy_17 (by decide) ?_
      exact g_iret (pc := 31) C R dX8_cellBy_31 hD
  · have hD := hD.2 c1
    refine g_iconst (pc := 6) (v := 0) (by decide) C dX8_cellBy_6 ?_
    refine g_goto (pc := 7) 31 C dX8_cellBy_7 (by decide) ?_
    exact g_iret (pc := 31) C R dX8_cellBy_31 hD
def D_Mo_emit (r : TR) (o : Nat) (a1 : Int32) (a2 : Int32) (h : TH) (Q : TH → Prop) : Prop :=
  vp_in (h.1 o 40) 840 ∧ ∀ h2, h2 = pI h (r o 41) ((h.1 o 40).toNatClampNeg) a1 → vp_in (h2.1 o 40) 840 ∧ ∀ h4, h4 = pI h2 (r o 42) ((h2.1 o 40).toNatClampNeg) a2 → ∀ h5, h5 = pI h4 o 40 ((h4.1 o 40) + 1) → Q h5
set_option maxRecDepth 100000 in
set_option maxHeartbeats 4000000 in
theorem M_Mo_emit {Y : CG} {r : TR} {l : Launch} {o : Nat} {a1 : Int32} {a2 : Int32} {h : TH} {Q : TH → Prop} (t0 : TO Y o 8) (hD : D_Mo_emit r o a1 a2 h Q) : Mv Y r l yX8_emit cX8_emit 3 1 [.ref o, .int a1, .int a2] h Q := by
  unfold D_Mo_emit at hD
  refine Mv.of RX8 rfl (by decide) (by simp [lg_sl, Value.category]) [(0, .ref o), (1, .int a1), (2, .int a2)] rfl (fun X hXl C R => ?_)
  subst hXl
  refine g_wt (fun hw => ?_)
  refine g_aload_n (pc := 0) rfl 0 rfl C dX8_emit_0 ?_
  have u1 : TA Y (r o 41) 10 840 := wt_a hw t0 (by decide) (by decide) rfl
  refine g_getR (pc := 1) C fl_RX8_95 t0 rfl dX8_emit_1 ?_
  refine g_aload_n (pc := 4) rfl 0 rfl C dX8_emit_4 ?_
  refine g_getI (pc := 5) C fl_RX8_242 t0 rfl dX8_emit_5 ?_
  refine g_iload_n (pc := 8) rfl 1 rfl C dX8_emit_8 ?_
  obtain ⟨hb, hD⟩ := hD
  refine g_iast (pc := 9) C u1 hb dX8_emit_9 (fun h2 eh2 => ?_)
  have hD := hD h2 eh2
  refine g_aload_n (pc := 10) rfl 0 rfl C dX8_emit_10 ?_
  have u3 : TA Y (r o 42) 10 840 := wt_a hw t0 (by decide) (by decide) rfl
  refine g_getR (pc := 11) C fl_RX8_98 t0 rfl dX8_emit_11 ?_
  refine g_aload_n (pc := 14) rfl 0 rfl C dX8_emit_14 ?_
  refine g_getI (pc := 15) C fl_RX8_242 t0 rfl dX8_emit_15 ?_
  refine g_iload_n (pc := 18) rfl 2 rfl C dX8_emit_18 ?_
  obtain ⟨hb, hD⟩ := hD
  refine g_iast (pc := 19) C u3 hb dX8_emit_19 (fun h4 eh4 => ?_)
  have hD := hD h4 eh4
  refine g_aload_n (pc := 20) rfl 0 rfl C dX8_emit_20 ?_
  refine g_dup (pc := 21) rfl C dX8_emit_21 ?_
  refine g_getI (pc := 22) C fl_RX8_242 t0 rfl dX8_emit_22 ?_
  refine g_iconst (pc := 25) (v := 1) (by decide) C dX8_emit_25 ?_
  refine g_iadd (pc := 26) C dX8_emit_26 ?_
  refine g_putI (pc := 27) C fl_RX8_242 t0 rfl rfl rfl dX8_emit_27 (fun h5 eh5 => ?_)
  have hD := hD h5 eh5
  exact g_vret (pc := 30) C R dX8_emit_30 hD
def DJ_Mo_comesOut_42 (r : TR) (l0 : Nat) (l1 : Int32) (l2 : Int32) (h : TH) (K0 : TH → Prop) (K91 : TH → Prop) (Q : TH → Prop) : Prop :=
  ∀ h7, h7 = pI h l0 44 ((h.1 l0 44) - 1) → ((¬ l2 = 8 → ((¬ l2 = 9 → ((¬ l2 = 10 → D_Mo_emit r l0 5 0 h7 (fun h11 => K0 h11)) ∧ (l2 = 10 → D_Mo_emit r l0 4 0 h7 (fun h13 => K0 h13)))) ∧ (l2 = 9 → D_Mo_emit r l0 3 0 h7 (fun h15 => K0 h15)))) ∧ (l2 = 8 → D_Mo_emit r l0 2 0 h7 (fun h17 => K0 h17)))
set_option maxRecDepth 100000 in
set_option maxHeartbeats 4000000 in
theorem WJ_Mo_comesOut_42 {Y : CG} {X : CX} {r : TR} {l0 : Nat} {l1 : Int32} {l2 : Int32} {h : TH} {K0 : TH → Prop} {K91 : TH → Prop} {Q : TH → Prop} (C : Gd Y X cX8_comesOut 3 RX8 2) (R : Rv Y r X Q) (t0 : TO Y l0 8) (hK0 : ∀ (hh : TH), K0 hh → G Y X 3 0 [(0, .ref l0), (1, .int l1)] [] r hh) (hK91 : ∀ (hh : TH), K91 hh → G Y X 3 91 [] [] r hh) (hD : DJ_Mo_comesOut_42 r l0 l1 l2 h K0 K91 Q) : G Y X 3 42 [(0, .ref l0), (1, .int l1), (2, .int l2)] [] r h := by
  unfold DJ_Mo_comesOut_42 at hD
  refine g_wt (fun hw => ?_)
  refine g_aload_n (pc := 42) rfl 0 rfl C dX8_comesOut_42 ?_
  refine g_dup (pc := 43) rfl C dX8_comesOut_43 ?_
  refine g_getI (pc := 44) C fl_RX8_286 t0 rfl dX8_comesOut_44 ?_
  refine g_iconst (pc := 47) (v := 1) (by decide) C dX8_comesOut_47 ?_
  refine g_isub (pc := 48) C dX8_comesOut_48 ?_
  refine g_putI (pc := 49) C fl_RX8_286 t0 rfl rfl rfl dX8_comesOut_49 (fun h7 eh7 => ?_)
  have hD := hD h7 eh7
  refine g_aload_n (pc := 52) rfl 0 rfl C dX8_comesOut_52 ?_
  refine g_iload_n (pc := 53) rfl 2 rfl C dX8_comesOut_53 ?_
  refine g_bipush (pc := 54) (v := 8) (by decide) C dX8_comesOut_54 ?_
  refine g_icmp_ne (pc := 56) 63 C dX8_comesOut_56 (by decide) (fun c8 => ?_) (fun c8 => ?_)
  · have hD := hD.1 c8
    refine g_iload_n (pc := 63) rfl 2 rfl C dX8_comesOut_63 ?_
    refine g_bipush (pc := 64) (v := 9) (by decide) C dX8_comesOut_64 ?_
    refine g_icmp_ne (pc := 66) 73 C dX8_comesOut_66 (by decide) (fun c9 => ?_) (fun c9 => ?_)
    · have hD := hD.1 c9
      refine g_iload_n (pc := 73) rfl 2 rfl C dX8_comesOut_73 ?_
      refine g_bipush (pc := 74) (v := 10) (by decide) C dX8_comesOut_74 ?_
      refine g_icmp_ne (pc := 76) 83 C dX8_comesOut_76 (by decide) (fun c10 => ?_) (fun c10 => ?_)
      · have hD := hD.1 c10
        refine g_iconst (pc := 83) (v := 5) (by decide) C dX8_comesOut_83 ?_
        refine g_iconst (pc := 84) (v := 0) (by decide) C dX8_comesOut_84 ?_
        refine g_callVv (pc := 85) (As := [.int 5, .int 0]) C mv_RX8_289 (M_Mo_emit t0 hD) t0 (by decide) rfl rfl (Nat.le_of_ble_eq_true rfl) dX8_comesOut_85 (fun h11 hD => ?_)
        refine g_goto (pc := 88) 0 C dX8_comesOut_88 (by decide) ?_
        refine g_sub [0, 1] rfl ?_
        exact hK0 h11 hD
      · have hD := hD.2 c10
        refine g_iconst (pc := 79) (v := 4) (by decide) C dX8_comesOut_79 ?_
        refine g_goto (pc := 80) 84 C dX8_comesOut_80 (by decide) ?_
        refine g_iconst (pc := 84) (v := 0) (by decide) C dX8_comesOut_84 ?_
        refine g_callVv (pc := 85) (As := [.int 4, .int 0]) C mv_RX8_289 (M_Mo_emit t0 hD) t0 (by decide) rfl rfl (Nat.le_of_ble_eq_true rfl) dX8_comesOut_85 (fun h13 hD => ?_)
        refine g_goto (pc := 88) 0 C dX8_comesOut_88 (by decide) ?_
        refine g_sub [0, 1] rfl ?_
        exact hK0 h13 hD
    · have hD := hD.2 c9
      refine g_iconst (pc := 69) (v := 3) (by decide) C dX8_comesOut_69 ?_
      refine g_goto (pc := 70) 84 C dX8_comesOut_70 (by decide) ?_
      refine g_iconst (pc := 84) (v := 0) (by decide) C dX8_comesOut_84 ?_
      refine g_callVv (pc := 85) (As := [.int 3, .int 0]) C mv_RX8_289 (M_Mo_emit t0 hD) t0 (by decide) rfl rfl (Nat.le_of_ble_eq_true rfl) dX8_comesOut_85 (fun h15 hD => ?_)
      refine g_goto (pc := 88) 0 C dX8_comesOut_88 (by decide) ?_
      refine g_sub [0, 1] rfl ?_
      exact hK0 h15 hD
  · have hD := hD.2 c8
    refine g_iconst (pc := 59) (v := 2) (by decide) C dX8_comesOut_59 ?_
    refine g_goto (pc := 60) 84 C dX8_comesOut_60 (by decide) ?_
    refine g_iconst (pc := 84) (v := 0) (by decide) C dX8_comesOut_84 ?_
    refine g_callVv (pc := 85) (As := [.int 2, .int 0]) C mv_RX8_289 (M_Mo_emit t0 hD) t0 (by decide) rfl rfl (Nat.le_of_ble_eq_true rfl) dX8_comesOut_85 (fun h17 hD => ?_)
    refine g_goto (pc := 88) 0 C dX8_comesOut_88 (by decide) ?_
    refine g_sub [0, 1] rfl ?_
    exact hK0 h17 hD
def DB_Mo_comesOut_0 (r : TR) (l0 : Nat) (l1 : Int32) (h : TH) (K0 : TH → Prop) (K91 : TH → Prop) (Q : TH → Prop) : Prop :=
  (((h.1 l0 44) ≤ 0 → K91 h) ∧ (¬ (h.1 l0 44) ≤ 0 → ∀ i3 : Int32, i3 = (h.1 l0 44) - 1 → vp_in i3 64 ∧ ∀ x4 : Int32, x4 = h.1 (r l0 43) i3.toNatClampNeg → ((x4 = 6 → Q h) ∧ (¬ x4 = 6 → ((l1 = 0 → DJ_Mo_comesOut_42 r l0 l1 x4 h (K0) (K91) Q) ∧ (¬ l1 = 0 → ((x4 = 8 → Q h) ∧ (¬ x4 = 8 → ((¬ x4 = 9 → DJ_Mo_comesOut_42 r l0 l1 x4 h (K0) (K91) Q) ∧ (x4 = 9 → Q h))))))))))
set_option maxRecDepth 100000 in
set_option maxHeartbeats 4000000 in
theorem WB_Mo_comesOut_0 {Y : CG} {X : CX} {r : TR} {l0 : Nat} {l1 : Int32} {h : TH} {K0 : TH → Prop} {K91 : TH → Prop} {Q : TH → Prop} (C : Gd Y X cX8_comesOut 3 RX8 2) (R : Rv Y r X Q) (t0 : TO Y l0 8) (hK0 : ∀ (hh : TH), K0 hh → G Y X 3 0 [(0, .ref l0), (1, .int l1)] [] r hh) (hK91 : ∀ (hh : TH), K91 hh → G Y X 3 91 [] [] r hh) (hD : DB_Mo_comesOut_0 r l0 l1 h K0 K91 Q) : G Y X 3 0 [(0, .ref l0), (1, .int l1)] [] r h := by
  unfold DB_Mo_comesOut_0 at hD
  refine g_wt (fun hw => ?_)
  refine g_aload_n (pc := 0) rfl 0 rfl C dX8_comesOut_0 ?_
  refine g_getI (pc := 1) C fl_RX8_286 t0 rfl dX8_comesOut_1 ?_
  refine g_if_le (pc := 4) 91 C dX8_comesOut_4 (by decide) (fun c1 => ?_) (fun c1 => ?_)
  · have hD := hD.1 c1
    refine g_sub [] rfl ?_
    exact hK91 h hD
  · have hD := hD.2 c1
    refine g_aload_n (pc := 7) rfl 0 rfl C dX8_comesOut_7 ?_
    have u2 : TA Y (r l0 43) 10 64 := wt_a hw t0 (by decide) (by decide) rfl
    refine g_getR (pc := 8) C fl_RX8_101 t0 rfl dX8_comesOut_8 ?_
    refine g_aload_n (pc := 11) rfl 0 rfl C dX8_comesOut_11 ?_
    refine g_getI (pc := 12) C fl_RX8_286 t0 rfl dX8_comesOut_12 ?_
    refine g_iconst (pc := 15) (v := 1) (by decide) C dX8_comesOut_15 ?_
    refine g_isub (pc := 16) C dX8_comesOut_16 ?_
    refine g_topi (fun i3 ei3 => ?_)
    have hD := hD i3 ei3
    obtain ⟨hb, hD⟩ := hD
    refine g_iald (pc := 17) C u2 hb dX8_comesOut_17 ?_
    refine g_istore_n (pc := 18) (fun x4 => [(2, .int x4), (0, .ref l0), (1, .int l1)]) C dX8_comesOut_18 rfl (by decide) rfl (fun x4 ex4 => ?_)
    have hD := hD x4 ex4
    refine g_iload_n (pc := 19) rfl 0 rfl C dX8_comesOut_19 ?_
    refine g_bipush (pc := 20) (v := 6) (by decide) C dX8_comesOut_20 ?_
    refine g_icmp_eq (pc := 22) 41 C dX8_comesOut_22 (by decide) (fun c5 => ?_) (fun c5 => ?_)
    · have hD := hD.1 c5
      exact g_vret (pc := 41) C R dX8_comesOut_41 hD
    · have hD := hD.2 c5
      refine g_iload_n (pc := 25) rfl 2 rfl C dX8_comesOut_25 ?_
      refine g_if_eq (pc := 26) 42 C dX8_comesOut_26 (by decide) (fun c6 => ?_) (fun c6 => ?_)
      · have hD := hD.1 c6
        refine g_sub [1, 2, 0] rfl ?_
        exact WJ_Mo_comesOut_42 C R t0 (hK0) (hK91) hD
      · have hD := hD.2 c6
        refine g_iload_n (pc := 29) rfl 0 rfl C dX8_comesOut_29 ?_
        refine g_bipush (pc := 30) (v := 8) (by decide) C dX8_comesOut_30 ?_
        refine g_icmp_eq (pc := 32) 41 C dX8_comesOut_32 (by decide) (fun c19 => ?_) (fun c19 => ?_)
        · have hD := hD.1 c19
          exact g_vret (pc := 41) C R dX8_comesOut_41 hD
        · have hD := hD.2 c19
          refine g_iload_n (pc := 35) rfl 0 rfl C dX8_comesOut_35 ?_
          refine g_bipush (pc := 36) (v := 9) (by decide) C dX8_comesOut_36 ?_
          refine g_icmp_ne (pc := 38) 42 C dX8_comesOut_38 (by decide) (fun c20 => ?_) (fun c20 => ?_)
          · have hD := hD.1 c20
            refine g_sub [1, 2, 0] rfl ?_
            exact WJ_Mo_comesOut_42 C R t0 (hK0) (hK91) hD
          · have hD := hD.2 c20
            exact g_vret (pc := 41) C R dX8_comesOut_41 hD
def D_Mo_comesOut (r : TR) (o : Nat) (a1 : Int32) (h : TH) (Q : TH → Prop) : Prop :=
  ∃ n, lp (fun (K : TH → Prop) (s : TH) => DB_Mo_comesOut_0 r o a1 s (fun h21 => K h21) (fun h22 => Q h22) Q) n h
set_option maxRecDepth 100000 in
set_option maxHeartbeats 4000000 in
theorem M_Mo_comesOut {Y : CG} {r : TR} {l : Launch} {o : Nat} {a1 : Int32} {h : TH} {Q : TH → Prop} (t0 : TO Y o 8) (hD : D_Mo_comesOut r o a1 h Q) : Mv Y r l yX8_comesOut cX8_comesOut 3 2 [.ref o, .int a1] h Q := by
  unfold D_Mo_comesOut at hD
  refine Mv.of RX8 rfl (by decide) (by simp [lg_sl, Value.category]) [(0, .ref o), (1, .int a1)] rfl (fun X hXl C R => ?_)
  subst hXl
  refine g_wt (fun hw => ?_)
  obtain ⟨n, hD⟩ := hD
  refine g_sub [0, 1] rfl ?_
  refine lp_run (fun s : TH => G Y X 3 0 [(0, .ref o), (1, .int a1)] [] r s) (fun K s hB hK => ?_) n h hD
  refine WB_Mo_comesOut_0 C R t0 (fun h21 hk => hK _ hk) (fun h22 hD => ?_) hB
  · exact g_vret (pc := 91) C R dX8_comesOut_91 hD
def DB_Mo_comesTo_13 (r : TR) (l0 : Nat) (l1 : Int32) (l2 : Int32) (h : TH) (K13 : Int32 → TH → Prop) (K72 : TH → Prop) (Q : Int32 → TH → Prop) : Prop :=
  ((4 < l2 → K72 h) ∧ (¬ 4 < l2 → D_Mo_eastBy r l2 h (fun x6 h5 => ∀ x7 : Int32, x7 = (jrem l1 8) + x6 → D_Mo_southBy r l2 h5 (fun x9 h8 => ∀ x10 : Int32, x10 = (l1 / 8) + x9 → D_Mo_isCell r l0 x7 x10 h8 (fun x12 h11 => ((x12 = 0 → ∀ x14 : Int32, x14 = l2 + 1 → K13 x14 h11) ∧ (¬ x12 = 0 → ∀ i16 : Int32, i16 = (8 * x10) + x7 → vp_in i16 40 ∧ (((h11.1 (r l0 57) i16.toNatClampNeg) = 0 → ∀ x18 : Int32, x18 = l2 + 1 → K13 x18 h11) ∧ (¬ (h11.1 (r l0 57) i16.toNatClampNeg) = 0 → Q 1 h11)))))))))
set_option maxRecDepth 100000 in
set_option maxHeartbeats 4000000 in
theorem WB_Mo_comesTo_13 {Y : CG} {X : CX} {r : TR} {l0 : Nat} {l1 : Int32} {l2 : Int32} {h : TH} {K13 : Int32 → TH → Prop} {K72 : TH → Prop} {Q : Int32 → TH → Prop} (C : Gd Y X cX8_comesTo 5 RX8 3) (R : Ri Y r X .boolean Q) (t0 : TO Y l0 8) (hK13 : ∀ (k2 : Int32) (hh : TH), K13 k2 hh → G Y X 5 13 [(0, .ref l0), (1, .int l1), (2, .int k2)] [] r hh) (hK72 : ∀ (hh : TH), K72 hh → G Y X 5 72 [] [] r hh) (hD : DB_Mo_comesTo_13 r l0 l1 l2 h K13 K72 Q) : G Y X 5 13 [(0, .ref l0), (1, .int l1), (2, .int l2)] [] r h := by
  unfold DB_Mo_comesTo_13 at hD
  refine g_wt (fun hw => ?_)
  refine g_iload_n (pc := 13) rfl 2 rfl C dX8_comesTo_13 ?_
  refine g_iconst (pc := 14) (v := 4) (by decide) C dX8_comesTo_14 ?_
  refine g_icmp_gt (pc := 15) 72 C dX8_comesTo_15 (by decide) (fun c4 => ?_) (fun c4 => ?_)
  · have hD := hD.1 c4
    refine g_sub [] rfl ?_
    exact hK72 h hD
  · have hD := hD.2 c4
    refine g_iload_n (pc := 18) rfl 1 rfl C dX8_comesTo_18 ?_
    refine g_bipush (pc := 19) (v := 8) (by decide) C dX8_comesTo_19 ?_
    refine g_irem (pc := 21) (by decide) C dX8_comesTo_21 ?_
    refine g_iload_n (pc := 22) rfl 2 rfl C dX8_comesTo_22 ?_
    refine g_callSi (pc := 23) (As := [.int l2]) C ms_RX8_354 (M_Mo_eastBy  hD) (by decide) rfl rfl (Nat.le_of_ble_eq_true rfl) dX8_comesTo_23 (fun x6 h5 hD => ?_)
    refine g_iadd (pc := 26) C dX8_comesTo_26 ?_
    refine g_istore_n (pc := 27) (fun x7 => [(3, .int x7), (0, .ref l0), (1, .int l1), (2, .int l2)]) C dX8_comesTo_27 rfl (by decide) rfl (fun x7 ex7 => ?_)
    have hD := hD x7 ex7
    refine g_iload_n (pc := 28) rfl 2 rfl C dX8_comesTo_28 ?_
    refine g_bipush (pc := 29) (v := 8) (by decide) C dX8_comesTo_29 ?_
    refine g_idiv (pc := 31) (by decide) C dX8_comesTo_31 ?_
    refine g_iload_n (pc := 32) rfl 3 rfl C dX8_comesTo_32 ?_
    refine g_callSi (pc := 33) (As := [.int l2]) C ms_RX8_357 (M_Mo_southBy  hD) (by decide) rfl rfl (Nat.le_of_ble_eq_true rfl) dX8_comesTo_33 (fun x9 h8 hD => ?_)
    refine g_iadd (pc := 36) C dX8_comesTo_36 ?_
    refine g_istore (pc := 37) (fun x10 => [(4, .int x10), (3, .int x7), (0, .ref l0), (1, .int l1), (2, .int l2)]) C dX8_comesTo_37 (by decide) rfl (fun x10 ex10 => ?_)
    have hD := hD x10 ex10
    refine g_aload_n (pc := 39) rfl 2 rfl C dX8_comesTo_39 ?_
    refine g_iload_n (pc := 40) rfl 1 rfl C dX8_comesTo_40 ?_
    refine g_iload (pc := 41) 0 rfl C dX8_comesTo_41 ?_
    refine g_callVi (pc := 43) (As := [.int x7, .int x10]) C mv_RX8_360 (M_Mo_isCell t0 hD) t0 (by decide) rfl rfl (Nat.le_of_ble_eq_true rfl) dX8_comesTo_43 (fun x12 h11 hD => ?_)
    refine g_if_eq (pc := 46) 66 C dX8_comesTo_46 (by decide) (fun c13 => ?_) (fun c13 => ?_)
    · have hD := hD.1 c13
      refine g_iinc (pc := 66) (q := 4) (c := 1) (fun x14 => [(2, .int x14), (4, .int x10), (3, .int x7), (0, .ref l0), (1, .int l1)]) C dX8_comesTo_66 rfl (by decide) (by decide) rfl (fun x14 ex14 => ?_)
      have hD := hD x14 ex14
      refine g_goto (pc := 69) 13 C dX8_comesTo_69 (by decide) ?_
      refine g_sub [3, 4, 0] rfl ?_
      exact hK13 x14 h11 hD
    · have hD := hD.2 c13
      refine g_aload_n (pc := 49) rfl 2 rfl C dX8_comesTo_49 ?_
      have u15 : TA Y (r l0 57) 12 40 := wt_a hw t0 (by decide) (by decide) rfl
      refine g_getR (pc := 50) C fl_RX8_125 t0 rfl dX8_comesTo_50 ?_
      refine g_bipush (pc := 53) (v := 8) (by decide) C dX8_comesTo_53 ?_
      refine g_iload (pc := 55) 0 rfl C dX8_comesTo_55 ?_
      refine g_imul (pc := 57) C dX8_comesTo_57 ?_
      refine g_iload_n (pc := 58) rfl 1 rfl C dX8_comesTo_58 ?_
      refine g_iadd (pc := 59) C dX8_comesTo_59 ?_
      refine g_topi (fun i16 ei16 => ?_)
      have hD := hD i16 ei16
      obtain ⟨hb, hD⟩ := hD
      refine g_zald (pc := 60) C u15 hb dX8_comesTo_60 ?_
      refine g_if_eq (pc := 61) 66 C dX8_comesTo_61 (by decide) (fun c17 => ?_) (fun c17 => ?_)
      · have hD := hD.1 c17
        refine g_iinc (pc := 66) (q := 4) (c := 1) (fun x18 => [(2, .int x18), (4, .int x10), (3, .int x7), (0, .ref l0), (1, .int l1)]) C dX8_comesTo_66 rfl (by decide) (by decide) rfl (fun x18 ex18 => ?_)
        have hD := hD x18 ex18
        refine g_goto (pc := 69) 13 C dX8_comesTo_69 (by decide) ?_
        refine g_sub [3, 4, 0] rfl ?_
        exact hK13 x18 h11 hD
      · have hD := hD.2 c17
        refine g_iconst (pc := 64) (v := 1) (by decide) C dX8_comesTo_64 ?_
        exact g_zret (pc := 65) C R nz_1 dX8_comesTo_65 hD
def D_Mo_comesTo (r : TR) (o : Nat) (a1 : Int32) (h : TH) (Q : Int32 → TH → Prop) : Prop :=
  vp_in a1 40 ∧ (((h.1 (r o 57) a1.toNatClampNeg) = 0 → ∃ n, lp (fun (K : Int32 × TH → Prop) (s : Int32 × TH) => DB_Mo_comesTo_13 r o a1 s.1 s.2 (fun y19 h20 => K (y19, h20)) (fun h21 => Q 0 h21) Q) n (1, h)) ∧ (¬ (h.1 (r o 57) a1.toNatClampNeg) = 0 → Q 1 h))
set_option maxRecDepth 100000 in
set_option maxHeartbeats 4000000 in
theorem M_Mo_comesTo {Y : CG} {r : TR} {l : Launch} {o : Nat} {a1 : Int32} {h : TH} {Q : Int32 → TH → Prop} (t0 : TO Y o 8) (hD : D_Mo_comesTo r o a1 h Q) : Mi Y r l yX8_comesTo cX8_comesTo 5 .boolean 3 [.ref o, .int a1] h Q := by
  unfold D_Mo_comesTo at hD
  refine Mi.of RX8 rfl (by decide) (by simp [lg_sl, Value.category]) [(0, .ref o), (1, .int a1)] rfl (fun X hXl C R => ?_)
  subst hXl
  refine g_wt (fun hw => ?_)
  refine g_aload_n (pc := 0) rfl 0 rfl C dX8_comesTo_0 ?_
  have u1 : TA Y (r o 57) 12 40 := wt_a hw t0 (by decide) (by decide) rfl
  refine g_getR (pc := 1) C fl_RX8_125 t0 rfl dX8_comesTo_1 ?_
  refine g_iload_n (pc := 4) rfl 1 rfl C dX8_comesTo_4 ?_
  obtain ⟨hb, hD⟩ := hD
  refine g_zald (pc := 5) C u1 hb dX8_comesTo_5 ?_
  refine g_if_eq (pc := 6) 11 C dX8_comesTo_6 (by decide) (fun c2 => ?_) (fun c2 => ?_)
  · have hD := hD.1 c2
    refine g_iconst (pc := 11) (v := 1) (by decide) C dX8_comesTo_11 ?_
    refine g_istore_n (pc := 12) (fun _ => [(2, .int 1), (0, .ref o), (1, .int a1)]) C dX8_comesTo_12 rfl (by decide) rfl (fun _ _ => ?_)
    obtain ⟨n, hD⟩ := hD
    refine g_sub [1, 2, 0] rfl ?_
    refine lp_run (fun s : Int32 × TH => G Y X 5 13 [(0, .ref o), (1, .int a1), (2, .int s.1)] [] r s.2) (fun K s hB hK => ?_) n (1, h) hD
    refine WB_Mo_comesTo_13 C R t0 (fun y19 h20 hk => hK _ hk) (fun h21 hD => ?_) hB
    · refine g_iconst (pc := 72) (v := 0) (by decide) C dX8_comesTo_72 ?_
      exact g_zret (pc := 73) C R nz_0 dX8_comesTo_73 hD
  · have hD := hD.2 c2
    refine g_iconst (pc := 9) (v := 1) (by decide) C dX8_comesTo_9 ?_
    exact g_zret (pc := 10) C R nz_1 dX8_comesTo_10 hD
def DB_Mo_lostNow_4 (r : TR) (l0 : Nat) (l1 : Int32) (l2 : Int32) (h : TH) (K4 : Int32 → Int32 → TH → Prop) (K37 : Int32 → TH → Prop) (Q : Int32 → TH → Prop) : Prop :=
  ∀ i4 : Int32, i4 = h.1 l0 18 → vp_in i4 2 ∧ (((h.1 (r l0 25) i4.toNatClampNeg) ≤ l2 → K37 l1 h) ∧ (¬ (h.1 (r l0 25) i4.toNatClampNeg) ≤ l2 → D_Mo_isLost r l0 l2 h (fun x7 h6 => ((x7 = 0 → ∀ x9 : Int32, x9 = l2 + 1 → K4 l1 x9 h6) ∧ (¬ x7 = 0 → ∀ x10 : Int32, x10 = l1 ||| ((1 : Int32) <<< (l2 &&& 31)) → ∀ x11 : Int32, x11 = l2 + 1 → K4 x10 x11 h6)))))
set_option maxRecDepth 100000 in
set_option maxHeartbeats 4000000 in
theorem WB_Mo_lostNow_4 {Y : CG} {X : CX} {r : TR} {l0 : Nat} {l1 : Int32} {l2 : Int32} {h : TH} {K4 : Int32 → Int32 → TH → Prop} {K37 : Int32 → TH → Prop} {Q : Int32 → TH → Prop} (C : Gd Y X cX8_lostNow 3 RX8 2) (R : Ri Y r X .int Q) (t0 : TO Y l0 8) (hK4 : ∀ (k1 : Int32) (k2 : Int32) (hh : TH), K4 k1 k2 hh → G Y X 3 4 [(0, .ref l0), (1, .int k1), (2, .int k2)] [] r hh) (hK37 : ∀ (k1 : Int32) (hh : TH), K37 k1 hh → G Y X 3 37 [(1, .int k1)] [] r hh) (hD : DB_Mo_lostNow_4 r l0 l1 l2 h K4 K37 Q) : G Y X 3 4 [(0, .ref l0), (1, .int l1), (2, .int l2)] [] r h := by
  unfold DB_Mo_lostNow_4 at hD
  refine g_wt (fun hw => ?_)
  refine g_iload_n (pc := 4) rfl 2 rfl C dX8_lostNow_4 ?_
  refine g_aload_n (pc := 5) rfl 0 rfl C dX8_lostNow_5 ?_
  have u3 : TA Y (r l0 25) 10 2 := wt_a hw t0 (by decide) (by decide) rfl
  refine g_getR (pc := 6) C fl_RX8_52 t0 rfl dX8_lostNow_6 ?_
  refine g_aload_n (pc := 9) rfl 0 rfl C dX8_lostNow_9 ?_
  refine g_getI (pc := 10) C fl_RX8_230 t0 rfl dX8_lostNow_10 ?_
  refine g_topi (fun i4 ei4 => ?_)
  have hD := hD i4 ei4
  obtain ⟨hb, hD⟩ := hD
  refine g_iald (pc := 13) C u3 hb dX8_lostNow_13 ?_
  refine g_icmp_ge (pc := 14) 37 C dX8_lostNow_14 (by decide) (fun c5 => ?_) (fun c5 => ?_)
  · have hD := hD.1 c5
    refine g_sub [1] rfl ?_
    exact hK37 l1 h hD
  · have hD := hD.2 c5
    refine g_aload_n (pc := 17) rfl 0 rfl C dX8_lostNow_17 ?_
    refine g_iload_n (pc := 18) rfl 2 rfl C dX8_lostNow_18 ?_
    refine g_callVi (pc := 19) (As := [.int l2]) C mv_RX8_385 (M_Mo_isLost t0 hD) t0 (by decide) rfl rfl (Nat.le_of_ble_eq_true rfl) dX8_lostNow_19 (fun x7 h6 hD => ?_)
    refine g_if_eq (pc := 22) 31 C dX8_lostNow_22 (by decide) (fun c8 => ?_) (fun c8 => ?_)
    · have hD := hD.1 c8
      refine g_iinc (pc := 31) (q := 2) (c := 1) (fun x9 => [(2, .int x9), (0, .ref l0), (1, .int l1)]) C dX8_lostNow_31 rfl (by decide) (by decide) rfl (fun x9 ex9 => ?_)
      have hD := hD x9 ex9
      refine g_goto (pc := 34) 4 C dX8_lostNow_34 (by decide) ?_
      refine g_sub [1, 2, 0] rfl ?_
      exact hK4 l1 x9 h6 hD
    · have hD := hD.2 c8
      refine g_iload_n (pc := 25) rfl 1 rfl C dX8_lostNow_25 ?_
      refine g_iconst (pc := 26) (v := 1) (by decide) C dX8_lostNow_26 ?_
      refine g_iload_n (pc := 27) rfl 2 rfl C dX8_lostNow_27 ?_
      refine g_ishl (pc := 28) C dX8_lostNow_28 ?_
      refine g_ior (pc := 29) C dX8_lostNow_29 ?_
      refine g_istore_n (pc := 30) (fun x10 => [(1, .int x10), (0, .ref l0), (2, .int l2)]) C dX8_lostNow_30 rfl (by decide) rfl (fun x10 ex10 => ?_)
      have hD := hD x10 ex10
      refine g_iinc (pc := 31) (q := 2) (c := 1) (fun x11 => [(2, .int x11), (1, .int x10), (0, .ref l0)]) C dX8_lostNow_31 rfl (by decide) (by decide) rfl (fun x11 ex11 => ?_)
      have hD := hD x11 ex11
      refine g_goto (pc := 34) 4 C dX8_lostNow_34 (by decide) ?_
      refine g_sub [2, 1, 0] rfl ?_
      exact hK4 x10 x11 h6 hD
def D_Mo_lostNow (r : TR) (o : Nat) (h : TH) (Q : Int32 → TH → Prop) : Prop :=
  ∃ n, lp (fun (K : Int32 × Int32 × TH → Prop) (s : Int32 × Int32 × TH) => DB_Mo_lostNow_4 r o s.1 s.2.1 s.2.2 (fun y12 y13 h14 => K (y12, y13, h14)) (fun x15 h16 => Q x15 h16) Q) n (0, 0, h)
set_option maxRecDepth 100000 in
set_option maxHeartbeats 4000000 in
theorem M_Mo_lostNow {Y : CG} {r : TR} {l : Launch} {o : Nat} {h : TH} {Q : Int32 → TH → Prop} (t0 : TO Y o 8) (hD : D_Mo_lostNow r o h Q) : Mi Y r l yX8_lostNow cX8_lostNow 3 .int 2 [.ref o] h Q := by
  unfold D_Mo_lostNow at hD
  refine Mi.of RX8 rfl (by decide) (by simp [lg_sl, Value.category]) [(0, .ref o)] rfl (fun X hXl C R => ?_)
  subst hXl
  refine g_wt (fun hw => ?_)
  refine g_iconst (pc := 0) (v := 0) (by decide) C dX8_lostNow_0 ?_
  refine g_istore_n (pc := 1) (fun _ => [(1, .int 0), (0, .ref o)]) C dX8_lostNow_1 rfl (by decide) rfl (fun _ _ => ?_)
  refine g_iconst (pc := 2) (v := 0) (by decide) C dX8_lostNow_2 ?_
  refine g_istore_n (pc := 3) (fun _ => [(2, .int 0), (1, .int 0), (0, .ref o)]) C dX8_lostNow_3 rfl (by decide) rfl (fun _ _ => ?_)
  obtain ⟨n, hD⟩ := hD
  refine g_sub [2, 1, 0] rfl ?_
  refine lp_run (fun s : Int32 × Int32 × TH => G Y X 3 4 [(0, .ref o), (1, .int s.1), (2, .int s.2.1)] [] r s.2.2) (fun K s hB hK => ?_) n (0, 0, h) hD
  refine WB_Mo_lostNow_4 C R t0 (fun y12 y13 h14 hk => hK _ hk) (fun x15 h16 hD => ?_) hB
  · refine g_iload_n (pc := 37) rfl 0 rfl C dX8_lostNow_37 ?_
    exact g_iret (pc := 38) C R dX8_lostNow_38 hD
def DB_Mo_pansOn_4 (r : TR) (l0 : Nat) (l1 : Int32) (l2 : Int32) (h : TH) (K4 : Int32 → Int32 → TH → Prop) (K42 : Int32 → TH → Prop) (Q : Int32 → TH → Prop) : Prop :=
  ∀ i4 : Int32, i4 = h.1 l0 18 → vp_in i4 2 ∧ (((h.1 (r l0 25) i4.toNatClampNeg) ≤ l2 → K42 l1 h) ∧ (¬ (h.1 (r l0 25) i4.toNatClampNeg) ≤ l2 → ∀ i7 : Int32, i7 = 24 + l2 → vp_in i7 512 ∧ ((¬ (h.1 (r l0 48) i7.toNatClampNeg) = 1 → ∀ x9 : Int32, x9 = l2 + 1 → K4 l1 x9 h) ∧ ((h.1 (r l0 48) i7.toNatClampNeg) = 1 → ∀ x10 : Int32, x10 = l1 ||| ((1 : Int32) <<< (l2 &&& 31)) → ∀ x11 : Int32, x11 = l2 + 1 → K4 x10 x11 h))))
set_option maxRecDepth 100000 in
set_option maxHeartbeats 4000000 in
theorem WB_Mo_pansOn_4 {Y : CG} {X : CX} {r : TR} {l0 : Nat} {l1 : Int32} {l2 : Int32} {h : TH} {K4 : Int32 → Int32 → TH → Prop} {K42 : Int32 → TH → Prop} {Q : Int32 → TH → Prop} (C : Gd Y X cX8_pansOn 3 RX8 1) (R : Ri Y r X .int Q) (t0 : TO Y l0 8) (hK4 : ∀ (k1 : Int32) (k2 : Int32) (hh : TH), K4 k1 k2 hh → G Y X 3 4 [(0, .ref l0), (1, .int k1), (2, .int k2)] [] r hh) (hK42 : ∀ (k1 : Int32) (hh : TH), K42 k1 hh → G Y X 3 42 [(1, .int k1)] [] r hh) (hD : DB_Mo_pansOn_4 r l0 l1 l2 h K4 K42 Q) : G Y X 3 4 [(0, .ref l0), (1, .int l1), (2, .int l2)] [] r h := by
  unfold DB_Mo_pansOn_4 at hD
  refine g_wt (fun hw => ?_)
  refine g_iload_n (pc := 4) rfl 2 rfl C dX8_pansOn_4 ?_
  refine g_aload_n (pc := 5) rfl 0 rfl C dX8_pansOn_5 ?_
  have u3 : TA Y (r l0 25) 10 2 := wt_a hw t0 (by decide) (by decide) rfl
  refine g_getR (pc := 6) C fl_RX8_52 t0 rfl dX8_pansOn_6 ?_
  refine g_aload_n (pc := 9) rfl 0 rfl C dX8_pansOn_9 ?_
  refine g_getI (pc := 10) C fl_RX8_230 t0 rfl dX8_pansOn_10 ?_
  refine g_topi (fun i4 ei4 => ?_)
  have hD := hD i4 ei4
  obtain ⟨hb, hD⟩ := hD
  refine g_iald (pc := 13) C u3 hb dX8_pansOn_13 ?_
  refine g_icmp_ge (pc := 14) 42 C dX8_pansOn_14 (by decide) (fun c5 => ?_) (fun c5 => ?_)
  · have hD := hD.1 c5
    refine g_sub [1] rfl ?_
    exact hK42 l1 h hD
  · have hD := hD.2 c5
    refine g_aload_n (pc := 17) rfl 0 rfl C dX8_pansOn_17 ?_
    have u6 : TA Y (r l0 48) 10 512 := wt_a hw t0 (by decide) (by decide) rfl
    refine g_getR (pc := 18) C fl_RX8_110 t0 rfl dX8_pansOn_18 ?_
    refine g_bipush (pc := 21) (v := 24) (by decide) C dX8_pansOn_21 ?_
    refine g_iload_n (pc := 23) rfl 2 rfl C dX8_pansOn_23 ?_
    refine g_iadd (pc := 24) C dX8_pansOn_24 ?_
    refine g_topi (fun i7 ei7 => ?_)
    have hD := hD i7 ei7
    obtain ⟨hb, hD⟩ := hD
    refine g_iald (pc := 25) C u6 hb dX8_pansOn_25 ?_
    refine g_iconst (pc := 26) (v := 1) (by decide) C dX8_pansOn_26 ?_
    refine g_icmp_ne (pc := 27) 36 C dX8_pansOn_27 (by decide) (fun c8 => ?_) (fun c8 => ?_)
    · have hD := hD.1 c8
      refine g_iinc (pc := 36) (q := 2) (c := 1) (fun x9 => [(2, .int x9), (0, .ref l0), (1, .int l1)]) C dX8_pansOn_36 rfl (by decide) (by decide) rfl (fun x9 ex9 => ?_)
      have hD := hD x9 ex9
      refine g_goto (pc := 39) 4 C dX8_pansOn_39 (by decide) ?_
      refine g_sub [1, 2, 0] rfl ?_
      exact hK4 l1 x9 h hD
    · have hD := hD.2 c8
      refine g_iload_n (pc := 30) rfl 1 rfl C dX8_pansOn_30 ?_
      refine g_iconst (pc := 31) (v := 1) (by decide) C dX8_pansOn_31 ?_
      refine g_iload_n (pc := 32) rfl 2 rfl C dX8_pansOn_32 ?_
      refine g_ishl (pc := 33) C dX8_pansOn_33 ?_
      refine g_ior (pc := 34) C dX8_pansOn_34 ?_
      refine g_istore_n (pc := 35) (fun x10 => [(1, .int x10), (0, .ref l0), (2, .int l2)]) C dX8_pansOn_35 rfl (by decide) rfl (fun x10 ex10 => ?_)
      have hD := hD x10 ex10
      refine g_iinc (pc := 36) (q := 2) (c := 1) (fun x11 => [(2, .int x11), (1, .int x10), (0, .ref l0)]) C dX8_pansOn_36 rfl (by decide) (by decide) rfl (fun x11 ex11 => ?_)
      have hD := hD x11 ex11
      refine g_goto (pc := 39) 4 C dX8_pansOn_39 (by decide) ?_
      refine g_sub [2, 1, 0] rfl ?_
      exact hK4 x10 x11 h hD
def D_Mo_pansOn (r : TR) (o : Nat) (h : TH) (Q : Int32 → TH → Prop) : Prop :=
  ∃ n, lp (fun (K : Int32 × Int32 × TH → Prop) (s : Int32 × Int32 × TH) => DB_Mo_pansOn_4 r o s.1 s.2.1 s.2.2 (fun y12 y13 h14 => K (y12, y13, h14)) (fun x15 h16 => Q x15 h16) Q) n (0, 0, h)
set_option maxRecDepth 100000 in
set_option maxHeartbeats 4000000 in
theorem M_Mo_pansOn {Y : CG} {r : TR} {l : Launch} {o : Nat} {h : TH} {Q : Int32 → TH → Prop} (t0 : TO Y o 8) (hD : D_Mo_pansOn r o h Q) : Mi Y r l yX8_pansOn cX8_pansOn 3 .int 1 [.ref o] h Q := by
  unfold D_Mo_pansOn at hD
  refine Mi.of RX8 rfl (by decide) (by simp [lg_sl, Value.category]) [(0, .ref o)] rfl (fun X hXl C R => ?_)
  subst hXl
  refine g_wt (fun hw => ?_)
  refine g_iconst (pc := 0) (v := 0) (by decide) C dX8_pansOn_0 ?_
  refine g_istore_n (pc := 1) (fun _ => [(1, .int 0), (0, .ref o)]) C dX8_pansOn_1 rfl (by decide) rfl (fun _ _ => ?_)
  refine g_iconst (pc := 2) (v := 0) (by decide) C dX8_pansOn_2 ?_
  refine g_istore_n (pc := 3) (fun _ => [(2, .int 0), (1, .int 0), (0, .ref o)]) C dX8_pansOn_3 rfl (by decide) rfl (fun _ _ => ?_)
  obtain ⟨n, hD⟩ := hD
  refine g_sub [2, 1, 0] rfl ?_
  refine lp_run (fun s : Int32 × Int32 × TH => G Y X 3 4 [(0, .ref o), (1, .int s.1), (2, .int s.2.1)] [] r s.2.2) (fun K s hB hK => ?_) n (0, 0, h) hD
  refine WB_Mo_pansOn_4 C R t0 (fun y12 y13 h14 hk => hK _ hk) (fun x15 h16 hD => ?_) hB
  · refine g_iload_n (pc := 42) rfl 0 rfl C dX8_pansOn_42 ?_
    exact g_iret (pc := 43) C R dX8_pansOn_43 hD
def DB_Mo_count_118 (r : TR) (l0 : Nat) (l2 : Int32) (l3 : Int32) (h : TH) (K118 : Int32 → Int32 → TH → Prop) (K155 : Int32 → TH → Prop) (Q : Int32 → TH → Prop) : Prop :=
  ∀ i18 : Int32, i18 = h.1 l0 18 → vp_in i18 2 ∧ (((h.1 (r l0 25) i18.toNatClampNeg) ≤ l3 → K155 l2 h) ∧ (¬ (h.1 (r l0 25) i18.toNatClampNeg) ≤ l3 → ∀ i21 : Int32, i21 = 12 + l3 → vp_in i21 512 ∧ (((h.1 (r l0 49) i21.toNatClampNeg) ≤ 0 → ∀ x23 : Int32, x23 = l3 + 1 → K118 l2 x23 h) ∧ (¬ (h.1 (r l0 49) i21.toNatClampNeg) ≤ 0 → ∀ x24 : Int32, x24 = l2 ||| ((1 : Int32) <<< (l3 &&& 31)) → ∀ x25 : Int32, x25 = l3 + 1 → K118 x24 x25 h))))
set_option maxRecDepth 100000 in
set_option maxHeartbeats 4000000 in
theorem WB_Mo_count_118 {Y : CG} {X : CX} {r : TR} {l0 : Nat} {l2 : Int32} {l3 : Int32} {h : TH} {K118 : Int32 → Int32 → TH → Prop} {K155 : Int32 → TH → Prop} {Q : Int32 → TH → Prop} (C : Gd Y X cX8_count 4 RX8 4) (R : Ri Y r X .int Q) (t0 : TO Y l0 8) (hK118 : ∀ (k2 : Int32) (k3 : Int32) (hh : TH), K118 k2 k3 hh → G Y X 4 118 [(0, .ref l0), (2, .int k2), (3, .int k3)] [] r hh) (hK155 : ∀ (k2 : Int32) (hh : TH), K155 k2 hh → G Y X 4 155 [(2, .int k2)] [] r hh) (hD : DB_Mo_count_118 r l0 l2 l3 h K118 K155 Q) : G Y X 4 118 [(0, .ref l0), (2, .int l2), (3, .int l3)] [] r h := by
  unfold DB_Mo_count_118 at hD
  refine g_wt (fun hw => ?_)
  refine g_iload_n (pc := 118) rfl 2 rfl C dX8_count_118 ?_
  refine g_aload_n (pc := 119) rfl 0 rfl C dX8_count_119 ?_
  have u17 : TA Y (r l0 25) 10 2 := wt_a hw t0 (by decide) (by decide) rfl
  refine g_getR (pc := 120) C fl_RX8_52 t0 rfl dX8_count_120 ?_
  refine g_aload_n (pc := 123) rfl 0 rfl C dX8_count_123 ?_
  refine g_getI (pc := 124) C fl_RX8_230 t0 rfl dX8_count_124 ?_
  refine g_topi (fun i18 ei18 => ?_)
  have hD := hD i18 ei18
  obtain ⟨hb, hD⟩ := hD
  refine g_iald (pc := 127) C u17 hb dX8_count_127 ?_
  refine g_icmp_ge (pc := 128) 155 C dX8_count_128 (by decide) (fun c19 => ?_) (fun c19 => ?_)
  · have hD := hD.1 c19
    refine g_sub [1] rfl ?_
    exact hK155 l2 h hD
  · have hD := hD.2 c19
    refine g_aload_n (pc := 131) rfl 0 rfl C dX8_count_131 ?_
    have u20 : TA Y (r l0 49) 10 512 := wt_a hw t0 (by decide) (by decide) rfl
    refine g_getR (pc := 132) C fl_RX8_113 t0 rfl dX8_count_132 ?_
    refine g_bipush (pc := 135) (v := 12) (by decide) C dX8_count_135 ?_
    refine g_iload_n (pc := 137) rfl 2 rfl C dX8_count_137 ?_
    refine g_iadd (pc := 138) C dX8_count_138 ?_
    refine g_topi (fun i21 ei21 => ?_)
    have hD := hD i21 ei21
    obtain ⟨hb, hD⟩ := hD
    refine g_iald (pc := 139) C u20 hb dX8_count_139 ?_
    refine g_if_le (pc := 140) 149 C dX8_count_140 (by decide) (fun c22 => ?_) (fun c22 => ?_)
    · have hD := hD.1 c22
      refine g_iinc (pc := 149) (q := 2) (c := 1) (fun x23 => [(3, .int x23), (0, .ref l0), (2, .int l2)]) C dX8_count_149 rfl (by decide) (by decide) rfl (fun x23 ex23 => ?_)
      have hD := hD x23 ex23
      refine g_goto (pc := 152) 118 C dX8_count_152 (by decide) ?_
      refine g_sub [1, 2, 0] rfl ?_
      exact hK118 l2 x23 h hD
    · have hD := hD.2 c22
      refine g_iload_n (pc := 143) rfl 1 rfl C dX8_count_143 ?_
      refine g_iconst (pc := 144) (v := 1) (by decide) C dX8_count_144 ?_
      refine g_iload_n (pc := 145) rfl 2 rfl C dX8_count_145 ?_
      refine g_ishl (pc := 146) C dX8_count_146 ?_
      refine g_ior (pc := 147) C dX8_count_147 ?_
      refine g_istore_n (pc := 148) (fun x24 => [(2, .int x24), (0, .ref l0), (3, .int l3)]) C dX8_count_148 rfl (by decide) rfl (fun x24 ex24 => ?_)
      have hD := hD x24 ex24
      refine g_iinc (pc := 149) (q := 2) (c := 1) (fun x25 => [(3, .int x25), (2, .int x24), (0, .ref l0)]) C dX8_count_149 rfl (by decide) (by decide) rfl (fun x25 ex25 => ?_)
      have hD := hD x25 ex25
      refine g_goto (pc := 152) 118 C dX8_count_152 (by decide) ?_
      refine g_sub [2, 1, 0] rfl ?_
      exact hK118 x24 x25 h hD
def DJ_Mo_count_222 (r : TR) (l0 : Nat) (s0 : Int32) (s1 : Int32) (h : TH) (Q : Int32 → TH → Prop) : Prop :=
  (((h.1 (r l0 64) ((2 : Int32).toNatClampNeg)) = 0 → Q ((s1 + s0) + 0) h) ∧ (¬ (h.1 (r l0 64) ((2 : Int32).toNatClampNeg)) = 0 → Q ((s1 + s0) + 1) h))
set_option maxRecDepth 100000 in
set_option maxHeartbeats 4000000 in
theorem WJ_Mo_count_222 {Y : CG} {X : CX} {r : TR} {l0 : Nat} {s0 : Int32} {s1 : Int32} {h : TH} {Q : Int32 → TH → Prop} (C : Gd Y X cX8_count 4 RX8 4) (R : Ri Y r X .int Q) (t0 : TO Y l0 8) (hD : DJ_Mo_count_222 r l0 s0 s1 h  Q) : G Y X 4 222 [(0, .ref l0)] [.int s0, .int s1] r h := by
  unfold DJ_Mo_count_222 at hD
  refine g_wt (fun hw => ?_)
  refine g_iadd (pc := 222) C dX8_count_222 ?_
  refine g_aload_n (pc := 223) rfl 0 rfl C dX8_count_223 ?_
  have u49 : TA Y (r l0 64) 12 3 := wt_a hw t0 (by decide) (by decide) rfl
  refine g_getR (pc := 224) C fl_RX8_143 t0 rfl dX8_count_224 ?_
  refine g_iconst (pc := 227) (v := 2) (by decide) C dX8_count_227 ?_
  refine g_zald (pc := 228) C u49 (by unfold vp_in; decide) dX8_count_228 ?_
  refine g_if_eq (pc := 229) 236 C dX8_count_229 (by decide) (fun c50 => ?_) (fun c50 => ?_)
  · have hD := hD.1 c50
    refine g_iconst (pc := 236) (v := 0) (by decide) C dX8_count_236 ?_
    refine g_iadd (pc := 237) C dX8_count_237 ?_
    exact g_iret (pc := 238) C R dX8_count_238 hD
  · have hD := hD.2 c50
    refine g_iconst (pc := 232) (v := 1) (by decide) C dX8_count_232 ?_
    refine g_goto (pc := 233) 237 C dX8_count_233 (by decide) ?_
    refine g_iadd (pc := 237) C dX8_count_237 ?_
    exact g_iret (pc := 238) C R dX8_count_238 hD
def DJ_Mo_count_208 (r : TR) (l0 : Nat) (s0 : Int32) (h : TH) (Q : Int32 → TH → Prop) : Prop :=
  (((h.1 (r l0 64) ((1 : Int32).toNatClampNeg)) = 0 → DJ_Mo_count_222 r l0 0 s0 h Q) ∧ (¬ (h.1 (r l0 64) ((1 : Int32).toNatClampNeg)) = 0 → DJ_Mo_count_222 r l0 1 s0 h Q))
set_option maxRecDepth 100000 in
set_option maxHeartbeats 4000000 in
theorem WJ_Mo_count_208 {Y : CG} {X : CX} {r : TR} {l0 : Nat} {s0 : Int32} {h : TH} {Q : Int32 → TH → Prop} (C : Gd Y X cX8_count 4 RX8 4) (R : Ri Y r X .int Q) (t0 : TO Y l0 8) (hD : DJ_Mo_count_208 r l0 s0 h  Q) : G Y X 4 208 [(0, .ref l0)] [.int s0] r h := by
  unfold DJ_Mo_count_208 at hD
  refine g_wt (fun hw => ?_)
  refine g_aload_n (pc := 208) rfl 0 rfl C dX8_count_208 ?_
  have u47 : TA Y (r l0 64) 12 3 := wt_a hw t0 (by decide) (by decide) rfl
  refine g_getR (pc := 209) C fl_RX8_143 t0 rfl dX8_count_209 ?_
  refine g_iconst (pc := 212) (v := 1) (by decide) C dX8_count_212 ?_
  refine g_zald (pc := 213) C u47 (by unfold vp_in; decide) dX8_count_213 ?_
  refine g_if_eq (pc := 214) 221 C dX8_count_214 (by decide) (fun c48 => ?_) (fun c48 => ?_)
  · have hD := hD.1 c48
    refine g_iconst (pc := 221) (v := 0) (by decide) C dX8_count_221 ?_
    refine g_sub [0] rfl ?_
    exact WJ_Mo_count_222 C R t0 hD
  · have hD := hD.2 c48
    refine g_iconst (pc := 217) (v := 1) (by decide) C dX8_count_217 ?_
    refine g_goto (pc := 218) 222 C dX8_count_218 (by decide) ?_
    refine g_sub [0] rfl ?_
    exact WJ_Mo_count_222 C R t0 hD
def DB_Mo_count_243 (r : TR) (l0 : Nat) (l2 : Int32) (l3 : Int32) (h : TH) (K243 : Int32 → Int32 → TH → Prop) (K273 : Int32 → TH → Prop) (Q : Int32 → TH → Prop) : Prop :=
  ((40 ≤ l3 → K273 l2 h) ∧ (¬ 40 ≤ l3 → D_Mo_isWater r l0 (jrem l3 8) (l3 / 8) h (fun x56 h55 => ((x56 = 0 → ∀ x58 : Int32, x58 = l3 + 1 → K243 l2 x58 h55) ∧ (¬ x56 = 0 → ∀ x59 : Int32, x59 = l2 + 1 → ∀ x60 : Int32, x60 = l3 + 1 → K243 x59 x60 h55)))))
set_option maxRecDepth 100000 in
set_option maxHeartbeats 4000000 in
theorem WB_Mo_count_243 {Y : CG} {X : CX} {r : TR} {l0 : Nat} {l2 : Int32} {l3 : Int32} {h : TH} {K243 : Int32 → Int32 → TH → Prop} {K273 : Int32 → TH → Prop} {Q : Int32 → TH → Prop} (C : Gd Y X cX8_count 4 RX8 4) (R : Ri Y r X .int Q) (t0 : TO Y l0 8) (hK243 : ∀ (k2 : Int32) (k3 : Int32) (hh : TH), K243 k2 k3 hh → G Y X 4 243 [(0, .ref l0), (2, .int k2), (3, .int k3)] [] r hh) (hK273 : ∀ (k2 : Int32) (hh : TH), K273 k2 hh → G Y X 4 273 [(2, .int k2)] [] r hh) (hD : DB_Mo_count_243 r l0 l2 l3 h K243 K273 Q) : G Y X 4 243 [(0, .ref l0), (2, .int l2), (3, .int l3)] [] r h := by
  unfold DB_Mo_count_243 at hD
  refine g_wt (fun hw => ?_)
  refine g_iload_n (pc := 243) rfl 2 rfl C dX8_count_243 ?_
  refine g_bipush (pc := 244) (v := 40) (by decide) C dX8_count_244 ?_
  refine g_icmp_ge (pc := 246) 273 C dX8_count_246 (by decide) (fun c54 => ?_) (fun c54 => ?_)
  · have hD := hD.1 c54
    refine g_sub [1] rfl ?_
    exact hK273 l2 h hD
  · have hD := hD.2 c54
    refine g_aload_n (pc := 249) rfl 0 rfl C dX8_count_249 ?_
    refine g_iload_n (pc := 250) rfl 2 rfl C dX8_count_250 ?_
    refine g_bipush (pc := 251) (v := 8) (by decide) C dX8_count_251 ?_
    refine g_irem (pc := 253) (by decide) C dX8_count_253 ?_
    refine g_iload_n (pc := 254) rfl 2 rfl C dX8_count_254 ?_
    refine g_bipush (pc := 255) (v := 8) (by decide) C dX8_count_255 ?_
    refine g_idiv (pc := 257) (by decide) C dX8_count_257 ?_
    refine g_callVi (pc := 258) (As := [.int (jrem l3 8), .int (l3 / 8)]) C mv_RX8_440 (M_Mo_isWater t0 hD) t0 (by decide) rfl rfl (Nat.le_of_ble_eq_true rfl) dX8_count_258 (fun x56 h55 hD => ?_)
    refine g_if_eq (pc := 261) 267 C dX8_count_261 (by decide) (fun c57 => ?_) (fun c57 => ?_)
    · have hD := hD.1 c57
      refine g_iinc (pc := 267) (q := 2) (c := 1) (fun x58 => [(3, .int x58), (0, .ref l0), (2, .int l2)]) C dX8_count_267 rfl (by decide) (by decide) rfl (fun x58 ex58 => ?_)
      have hD := hD x58 ex58
      refine g_goto (pc := 270) 243 C dX8_count_270 (by decide) ?_
      refine g_sub [1, 2, 0] rfl ?_
      exact hK243 l2 x58 h55 hD
    · have hD := hD.2 c57
      refine g_iinc (pc := 264) (q := 1) (c := 1) (fun x59 => [(2, .int x59), (0, .ref l0), (3, .int l3)]) C dX8_count_264 rfl (by decide) (by decide) rfl (fun x59 ex59 => ?_)
      have hD := hD x59 ex59
      refine g_iinc (pc := 267) (q := 2) (c := 1) (fun x60 => [(3, .int x60), (2, .int x59), (0, .ref l0)]) C dX8_count_267 rfl (by decide) (by decide) rfl (fun x60 ex60 => ?_)
      have hD := hD x60 ex60
      refine g_goto (pc := 270) 243 C dX8_count_270 (by decide) ?_
      refine g_sub [2, 1, 0] rfl ?_
      exact hK243 x59 x60 h55 hD
def DB_Mo_count_279 (r : TR) (l0 : Nat) (l2 : Int32) (l3 : Int32) (h : TH) (K279 : Int32 → Int32 → TH → Prop) (K312 : Int32 → TH → Prop) (Q : Int32 → TH → Prop) : Prop :=
  ∀ i70 : Int32, i70 = h.1 l0 18 → vp_in i70 2 ∧ (((h.1 (r l0 25) i70.toNatClampNeg) ≤ l3 → K312 l2 h) ∧ (¬ (h.1 (r l0 25) i70.toNatClampNeg) ≤ l3 → D_Mo_isSailing r l0 l3 h (fun x73 h72 => ((x73 = 0 → ∀ x75 : Int32, x75 = l3 + 1 → K279 l2 x75 h72) ∧ (¬ x73 = 0 → ∀ x76 : Int32, x76 = l2 ||| ((1 : Int32) <<< (l3 &&& 31)) → ∀ x77 : Int32, x77 = l3 + 1 → K279 x76 x77 h72)))))
set_option maxRecDepth 100000 in
set_option maxHeartbeats 4000000 in
theorem WB_Mo_count_279 {Y : CG} {X : CX} {r : TR} {l0 : Nat} {l2 : Int32} {l3 : Int32} {h : TH} {K279 : Int32 → Int32 → TH → Prop} {K312 : Int32 → TH → Prop} {Q : Int32 → TH → Prop} (C : Gd Y X cX8_count 4 RX8 4) (R : Ri Y r X .int Q) (t0 : TO Y l0 8) (hK279 : ∀ (k2 : Int32) (k3 : Int32) (hh : TH), K279 k2 k3 hh → G Y X 4 279 [(0, .ref l0), (2, .int k2), (3, .int k3)] [] r hh) (hK312 : ∀ (k2 : Int32) (hh : TH), K312 k2 hh → G Y X 4 312 [(2, .int k2)] [] r hh) (hD : DB_Mo_count_279 r l0 l2 l3 h K279 K312 Q) : G Y X 4 279 [(0, .ref l0), (2, .int l2), (3, .int l3)] [] r h := by
  unfold DB_Mo_count_279 at hD
  refine g_wt (fun hw => ?_)
  refine g_iload_n (pc := 279) rfl 2 rfl C dX8_count_279 ?_
  refine g_aload_n (pc := 280) rfl 0 rfl C dX8_count_280 ?_
  have u69 : TA Y (r l0 25) 10 2 := wt_a hw t0 (by decide) (by decide) rfl
  refine g_getR (pc := 281) C fl_RX8_52 t0 rfl dX8_count_281 ?_
  refine g_aload_n (pc := 284) rfl 0 rfl C dX8_count_284 ?_
  refine g_getI (pc := 285) C fl_RX8_230 t0 rfl dX8_count_285 ?_
  refine g_topi (fun i70 ei70 => ?_)
  have hD := hD i70 ei70
  obtain ⟨hb, hD⟩ := hD
  refine g_iald (pc := 288) C u69 hb dX8_count_288 ?_
  refine g_icmp_ge (pc := 289) 312 C dX8_count_289 (by decide) (fun c71 => ?_) (fun c71 => ?_)
  · have hD := hD.1 c71
    refine g_sub [1] rfl ?_
    exact hK312 l2 h hD
  · have hD := hD.2 c71
    refine g_aload_n (pc := 292) rfl 0 rfl C dX8_count_292 ?_
    refine g_iload_n (pc := 293) rfl 2 rfl C dX8_count_293 ?_
    refine g_callVi (pc := 294) (As := [.int l3]) C mv_RX8_347 (M_Mo_isSailing t0 hD) t0 (by decide) rfl rfl (Nat.le_of_ble_eq_true rfl) dX8_count_294 (fun x73 h72 hD => ?_)
    refine g_if_eq (pc := 297) 306 C dX8_count_297 (by decide) (fun c74 => ?_) (fun c74 => ?_)
    · have hD := hD.1 c74
      refine g_iinc (pc := 306) (q := 2) (c := 1) (fun x75 => [(3, .int x75), (0, .ref l0), (2, .int l2)]) C dX8_count_306 rfl (by decide) (by decide) rfl (fun x75 ex75 => ?_)
      have hD := hD x75 ex75
      refine g_goto (pc := 309) 279 C dX8_count_309 (by decide) ?_
      refine g_sub [1, 2, 0] rfl ?_
      exact hK279 l2 x75 h72 hD
    · have hD := hD.2 c74
      refine g_iload_n (pc := 300) rfl 1 rfl C dX8_count_300 ?_
      refine g_iconst (pc := 301) (v := 1) (by decide) C dX8_count_301 ?_
      refine g_iload_n (pc := 302) rfl 2 rfl C dX8_count_302 ?_
      refine g_ishl (pc := 303) C dX8_count_303 ?_
      refine g_ior (pc := 304) C dX8_count_304 ?_
      refine g_istore_n (pc := 305) (fun x76 => [(2, .int x76), (0, .ref l0), (3, .int l3)]) C dX8_count_305 rfl (by decide) rfl (fun x76 ex76 => ?_)
      have hD := hD x76 ex76
      refine g_iinc (pc := 306) (q := 2) (c := 1) (fun x77 => [(3, .int x77), (2, .int x76), (0, .ref l0)]) C dX8_count_306 rfl (by decide) (by decide) rfl (fun x77 ex77 => ?_)
      have hD := hD x77 ex77
      refine g_goto (pc := 309) 279 C dX8_count_309 (by decide) ?_
      refine g_sub [2, 1, 0] rfl ?_
      exact hK279 x76 x77 h72 hD
def D_Mo_count (r : TR) (o : Nat) (a1 : Int32) (h : TH) (Q : Int32 → TH → Prop) : Prop :=
  D_Mo_copies r o h (fun h1 => ((a1 = 0 → ∀ i5 : Int32, i5 = h1.1 o 18 → vp_in i5 2 ∧ Q (h1.1 (r o 23) i5.toNatClampNeg) h1) ∧ (¬ a1 = 0 → ((a1 = 1 → ∀ i8 : Int32, i8 = h1.1 o 18 → vp_in i8 2 ∧ Q (h1.1 (r o 22) i8.toNatClampNeg) h1) ∧ (¬ a1 = 1 → ((a1 = 2 → ∀ i11 : Int32, i11 = h1.1 o 18 → vp_in i11 2 ∧ Q (h1.1 (r o 25) i11.toNatClampNeg) h1) ∧ (¬ a1 = 2 → ((a1 = 3 → Q (h1.1 (r o 49) ((30 : Int32).toNatClampNeg)) h1) ∧ (¬ a1 = 3 → ((a1 = 4 → ∃ n, lp (fun (K : Int32 × Int32 × TH → Prop) (s : Int32 × Int32 × TH) => DB_Mo_count_118 r o s.1 s.2.1 s.2.2 (fun y26 y27 h28 => K (y26, y27, h28)) (fun x29 h30 => Q x29 h30) Q) n (0, 0, h1)) ∧ (¬ a1 = 4 → ((a1 = 5 → D_Mo_lostNow r o h1 (fun x33 h32 => Q x33 h32)) ∧ (¬ a1 = 5 → ((a1 = 6 → D_Mo_pansOn r o h1 (fun x36 h35 => Q x36 h35)) ∧ (¬ a1 = 6 → ((a1 = 7 → D_Mo_windIn r o (h1.1 (r o 49) ((30 : Int32).toNatClampNeg)) h1 (fun x40 h39 => Q x40 h39)) ∧ (¬ a1 = 7 → ((a1 = 8 → Q (h1.1 o 2) h1) ∧ (¬ a1 = 8 → ((a1 = 9 → Q (h1.1 o 54) h1) ∧ (¬ a1 = 9 → ((a1 = 10 → Q (h1.1 o 60) h1) ∧ (¬ a1 = 10 → ((a1 = 11 → (((h1.1 (r o 64) ((0 : Int32).toNatClampNeg)) = 0 → DJ_Mo_count_208 r o 0 h1 Q) ∧ (¬ (h1.1 (r o 64) ((0 : Int32).toNatClampNeg)) = 0 → DJ_Mo_count_208 r o 1 h1 Q))) ∧ (¬ a1 = 11 → ((a1 = 12 → ∃ n, lp (fun (K : Int32 × Int32 × TH → Prop) (s : Int32 × Int32 × TH) => DB_Mo_count_243 r o s.1 s.2.1 s.2.2 (fun y61 y62 h63 => K (y61, y62, h63)) (fun x64 h65 => Q x64 h65) Q) n (0, 0, h1)) ∧ (¬ a1 = 12 → ((a1 = 13 → ∃ n, lp (fun (K : Int32 × Int32 × TH → Prop) (s : Int32 × Int32 × TH) => DB_Mo_count_279 r o s.1 s.2.1 s.2.2 (fun y78 y79 h80 => K (y78, y79, h80)) (fun x81 h82 => Q x81 h82) Q) n (0, 0, h1)) ∧ (¬ a1 = 13 → Q (-1) h1)))))))))))))))))))))))))))))
set_option maxRecDepth 100000 in
set_option maxHeartbeats 4000000 in
theorem M_Mo_count {Y : CG} {r : TR} {l : Launch} {o : Nat} {a1 : Int32} {h : TH} {Q : Int32 → TH → Prop} (t0 : TO Y o 8) (hD : D_Mo_count r o a1 h Q) : Mi Y r l yX8_count cX8_count 4 .int 4 [.ref o, .int a1] h Q := by
  unfold D_Mo_count at hD
  refine Mi.of RX8 rfl (by decide) (by simp [lg_sl, Value.category]) [(0, .ref o), (1, .int a1)] rfl (fun X hXl C R => ?_)
  subst hXl
  refine g_wt (fun hw => ?_)
  refine g_aload_n (pc := 0) rfl 0 rfl C dX8_count_0 ?_
  refine g_callVv (pc := 1) (As := []) C mv_RX8_397 (M_Mo_copies t0 hD) t0 (by decide) rfl rfl (Nat.le_of_ble_eq_true rfl) dX8_count_1 (fun h1 hD => ?_)
  refine g_iload_n (pc := 4) rfl 1 rfl C dX8_count_4 ?_
  by_cases c3 : a1 = 0
  · have hD := hD.1 c3
    refine g_tswIn (pc := 5) 76 C dX8_count_5 0 c3 (by decide) (by decide) rfl (by decide) ?_
    refine g_aload_n (pc := 76) rfl 0 rfl C dX8_count_76 ?_
    have u4 : TA Y (r o 23) 10 2 := wt_a hw t0 (by decide) (by decide) rfl
    refine g_getR (pc := 77) C fl_RX8_46 t0 rfl dX8_count_77 ?_
    refine g_aload_n (pc := 80) rfl 0 rfl C dX8_count_80 ?_
    refine g_getI (pc := 81) C fl_RX8_230 t0 rfl dX8_count_81 ?_
    refine g_topi (fun i5 ei5 => ?_)
    have hD := hD i5 ei5
    obtain ⟨hb, hD⟩ := hD
    refine g_iald (pc := 84) C u4 hb dX8_count_84 ?_
    exact g_iret (pc := 85) C R dX8_count_85 hD
  have hD := hD.2 c3
  by_cases c6 : a1 = 1
  · have hD := hD.1 c6
    refine g_tswIn (pc := 5) 86 C dX8_count_5 1 c6 (by decide) (by decide) rfl (by decide) ?_
    refine g_aload_n (pc := 86) rfl 0 rfl C dX8_count_86 ?_
    have u7 : TA Y (r o 22) 10 2 := wt_a hw t0 (by decide) (by decide) rfl
    refine g_getR (pc := 87) C fl_RX8_43 t0 rfl dX8_count_87 ?_
    refine g_aload_n (pc := 90) rfl 0 rfl C dX8_count_90 ?_
    refine g_getI (pc := 91) C fl_RX8_230 t0 rfl dX8_count_91 ?_
    refine g_topi (fun i8 ei8 => ?_)
    have hD := hD i8 ei8
    obtain ⟨hb, hD⟩ := hD
    refine g_iald (pc := 94) C u7 hb dX8_count_94 ?_
    exact g_iret (pc := 95) C R dX8_count_95 hD
  have hD := hD.2 c6
  by_cases c9 : a1 = 2
  · have hD := hD.1 c9
    refine g_tswIn (pc := 5) 96 C dX8_count_5 2 c9 (by decide) (by decide) rfl (by decide) ?_
    refine g_aload_n (pc := 96) rfl 0 rfl C dX8_count_96 ?_
    have u10 : TA Y (r o 25) 10 2 := wt_a hw t0 (by decide) (by decide) rfl
    refine g_getR (pc := 97) C fl_RX8_52 t0 rfl dX8_count_97 ?_
    refine g_aload_n (pc := 100) rfl 0 rfl C dX8_count_100 ?_
    refine g_getI (pc := 101) C fl_RX8_230 t0 rfl dX8_count_101 ?_
    refine g_topi (fun i11 ei11 => ?_)
    have hD := hD i11 ei11
    obtain ⟨hb, hD⟩ := hD
    refine g_iald (pc := 104) C u10 hb dX8_count_104 ?_
    exact g_iret (pc := 105) C R dX8_count_105 hD
  have hD := hD.2 c9
  by_cases c12 : a1 = 3
  · have hD := hD.1 c12
    refine g_tswIn (pc := 5) 106 C dX8_count_5 3 c12 (by decide) (by decide) rfl (by decide) ?_
    refine g_aload_n (pc := 106) rfl 0 rfl C dX8_count_106 ?_
    have u13 : TA Y (r o 49) 10 512 := wt_a hw t0 (by decide) (by decide) rfl
    refine g_getR (pc := 107) C fl_RX8_113 t0 rfl dX8_count_107 ?_
    refine g_bipush (pc := 110) (v := 30) (by decide) C dX8_count_110 ?_
    refine g_iald (pc := 112) C u13 (by unfold vp_in; decide) dX8_count_112 ?_
    exact g_iret (pc := 113) C R dX8_count_113 hD
  have hD := hD.2 c12
  by_cases c14 : a1 = 4
  · have hD := hD.1 c14
    refine g_tswIn (pc := 5) 114 C dX8_count_5 4 c14 (by decide) (by decide) rfl (by decide) ?_
    refine g_iconst (pc := 114) (v := 0) (by decide) C dX8_count_114 ?_
    refine g_istore_n (pc := 115) (fun _ => [(2, .int 0), (0, .ref o), (1, .int a1)]) C dX8_count_115 rfl (by decide) rfl (fun _ _ => ?_)
    refine g_iconst (pc := 116) (v := 0) (by decide) C dX8_count_116 ?_
    refine g_istore_n (pc := 117) (fun _ => [(3, .int 0), (2, .int 0), (0, .ref o), (1, .int a1)]) C dX8_count_117 rfl (by decide) rfl (fun _ _ => ?_)
    obtain ⟨n, hD⟩ := hD
    refine g_sub [2, 1, 0] rfl ?_
    refine lp_run (fun s : Int32 × Int32 × TH => G Y X 4 118 [(0, .ref o), (2, .int s.1), (3, .int s.2.1)] [] r s.2.2) (fun K s hB hK => ?_) n (0, 0, h1) hD
    refine WB_Mo_count_118 C R t0 (fun y26 y27 h28 hk => hK _ hk) (fun x29 h30 hD => ?_) hB
    · refine g_iload_n (pc := 155) rfl 0 rfl C dX8_count_155 ?_
      exact g_iret (pc := 156) C R dX8_count_156 hD
  have hD := hD.2 c14
  by_cases c31 : a1 = 5
  · have hD := hD.1 c31
    refine g_tswIn (pc := 5) 157 C dX8_count_5 5 c31 (by decide) (by decide) rfl (by decide) ?_
    refine g_aload_n (pc := 157) rfl 0 rfl C dX8_count_157 ?_
    refine g_callVi (pc := 158) (As := []) C mv_RX8_412 (M_Mo_lostNow t0 hD) t0 (by decide) rfl rfl (Nat.le_of_ble_eq_true rfl) dX8_count_158 (fun x33 h32 hD => ?_)
    exact g_iret (pc := 161) C R dX8_count_161 hD
  have hD := hD.2 c31
  by_cases c34 : a1 = 6
  · have hD := hD.1 c34
    refine g_tswIn (pc := 5) 162 C dX8_count_5 6 c34 (by decide) (by decide) rfl (by decide) ?_
    refine g_aload_n (pc := 162) rfl 0 rfl C dX8_count_162 ?_
    refine g_callVi (pc := 163) (As := []) C mv_RX8_446 (M_Mo_pansOn t0 hD) t0 (by decide) rfl rfl (Nat.le_of_ble_eq_true rfl) dX8_count_163 (fun x36 h35 hD => ?_)
    exact g_iret (pc := 166) C R dX8_count_166 hD
  have hD := hD.2 c34
  by_cases c37 : a1 = 7
  · have hD := hD.1 c37
    refine g_tswIn (pc := 5) 167 C dX8_count_5 7 c37 (by decide) (by decide) rfl (by decide) ?_
    refine g_aload_n (pc := 167) rfl 0 rfl C dX8_count_167 ?_
    refine g_aload_n (pc := 168) rfl 0 rfl C dX8_count_168 ?_
    have u38 : TA Y (r o 49) 10 512 := wt_a hw t0 (by decide) (by decide) rfl
    refine g_getR (pc := 169) C fl_RX8_113 t0 rfl dX8_count_169 ?_
    refine g_bipush (pc := 172) (v := 30) (by decide) C dX8_count_172 ?_
    refine g_iald (pc := 174) C u38 (by unfold vp_in; decide) dX8_count_174 ?_
    refine g_callVi (pc := 175) (As := [.int (h1.1 (r o 49) ((30 : Int32).toNatClampNeg))]) C mv_RX8_344 (M_Mo_windIn t0 hD) t0 (by decide) rfl rfl (Nat.le_of_ble_eq_true rfl) dX8_count_175 (fun x40 h39 hD => ?_)
    exact g_iret (pc := 178) C R dX8_count_178 hD
  have hD := hD.2 c37
  by_cases c41 : a1 = 8
  · have hD := hD.1 c41
    refine g_tswIn (pc := 5) 179 C dX8_count_5 8 c41 (by decide) (by decide) rfl (by decide) ?_
    refine g_aload_n (pc := 179) rfl 0 rfl C dX8_count_179 ?_
    refine g_getI (pc := 180) C fl_RX8_163 t0 rfl dX8_count_180 ?_
    exact g_iret (pc := 183) C R dX8_count_183 hD
  have hD := hD.2 c41
  by_cases c42 : a1 = 9
  · have hD := hD.1 c42
    refine g_tswIn (pc := 5) 184 C dX8_count_5 9 c42 (by decide) (by decide) rfl (by decide) ?_
    refine g_aload_n (pc := 184) rfl 0 rfl C dX8_count_184 ?_
    refine g_getI (pc := 185) C fl_RX8_255 t0 rfl dX8_count_185 ?_
    exact g_iret (pc := 188) C R dX8_count_188 hD
  have hD := hD.2 c42
  by_cases c43 : a1 = 10
  · have hD := hD.1 c43
    refine g_tswIn (pc := 5) 189 C dX8_count_5 10 c43 (by decide) (by decide) rfl (by decide) ?_
    refine g_aload_n (pc := 189) rfl 0 rfl C dX8_count_189 ?_
    refine g_getI (pc := 190) C fl_RX8_258 t0 rfl dX8_count_190 ?_
    exact g_iret (pc := 193) C R dX8_count_193 hD
  have hD := hD.2 c43
  by_cases c44 : a1 = 11
  · have hD := hD.1 c44
    refine g_tswIn (pc := 5) 194 C dX8_count_5 11 c44 (by decide) (by decide) rfl (by decide) ?_
    refine g_aload_n (pc := 194) rfl 0 rfl C dX8_count_194 ?_
    have u45 : TA Y (r o 64) 12 3 := wt_a hw t0 (by decide) (by decide) rfl
    refine g_getR (pc := 195) C fl_RX8_143 t0 rfl dX8_count_195 ?_
    refine g_iconst (pc := 198) (v := 0) (by decide) C dX8_count_198 ?_
    refine g_zald (pc := 199) C u45 (by unfold vp_in; decide) dX8_count_199 ?_
    refine g_if_eq (pc := 200) 207 C dX8_count_200 (by decide) (fun c46 => ?_) (fun c46 => ?_)
    · have hD := hD.1 c46
      refine g_iconst (pc := 207) (v := 0) (by decide) C dX8_count_207 ?_
      refine g_sub [0] rfl ?_
      exact WJ_Mo_count_208 C R t0 hD
    · have hD := hD.2 c46
      refine g_iconst (pc := 203) (v := 1) (by decide) C dX8_count_203 ?_
      refine g_goto (pc := 204) 208 C dX8_count_204 (by decide) ?_
      refine g_sub [0] rfl ?_
      exact WJ_Mo_count_208 C R t0 hD
  have hD := hD.2 c44
  by_cases c51 : a1 = 12
  · have hD := hD.1 c51
    refine g_tswIn (pc := 5) 239 C dX8_count_5 12 c51 (by decide) (by decide) rfl (by decide) ?_
    refine g_iconst (pc := 239) (v := 0) (by decide) C dX8_count_239 ?_
    refine g_istore_n (pc := 240) (fun _ => [(2, .int 0), (0, .ref o), (1, .int a1)]) C dX8_count_240 rfl (by decide) rfl (fun _ _ => ?_)
    refine g_iconst (pc := 241) (v := 0) (by decide) C dX8_count_241 ?_
    refine g_istore_n (pc := 242) (fun _ => [(3, .int 0), (2, .int 0), (0, .ref o), (1, .int a1)]) C dX8_count_242 rfl (by decide) rfl (fun _ _ => ?_)
    obtain ⟨n, hD⟩ := hD
    refine g_sub [2, 1, 0] rfl ?_
    refine lp_run (fun s : Int32 × Int32 × TH => G Y X 4 243 [(0, .ref o), (2, .int s.1), (3, .int s.2.1)] [] r s.2.2) (fun K s hB hK => ?_) n (0, 0, h1) hD
    refine WB_Mo_count_243 C R t0 (fun y61 y62 h63 hk => hK _ hk) (fun x64 h65 hD => ?_) hB
    · refine g_iload_n (pc := 273) rfl 0 rfl C dX8_count_273 ?_
      exact g_iret (pc := 274) C R dX8_count_274 hD
  have hD := hD.2 c51
  by_cases c66 : a1 = 13
  · have hD := hD.1 c66
    refine g_tswIn (pc := 5) 275 C dX8_count_5 13 c66 (by decide) (by decide) rfl (by decide) ?_
    refine g_iconst (pc := 275) (v := 0) (by decide) C dX8_count_275 ?_
    refine g_istore_n (pc := 276) (fun _ => [(2, .int 0), (0, .ref o), (1, .int a1)]) C dX8_count_276 rfl (by decide) rfl (fun _ _ => ?_)
    refine g_iconst (pc := 277) (v := 0) (by decide) C dX8_count_277 ?_
    refine g_istore_n (pc := 278) (fun _ => [(3, .int 0), (2, .int 0), (0, .ref o), (1, .int a1)]) C dX8_count_278 rfl (by decide) rfl (fun _ _ => ?_)
    obtain ⟨n, hD⟩ := hD
    refine g_sub [2, 1, 0] rfl ?_
    refine lp_run (fun s : Int32 × Int32 × TH => G Y X 4 279 [(0, .ref o), (2, .int s.1), (3, .int s.2.1)] [] r s.2.2) (fun K s hB hK => ?_) n (0, 0, h1) hD
    refine WB_Mo_count_279 C R t0 (fun y78 y79 h80 hk => hK _ hk) (fun x81 h82 hD => ?_) hB
    · refine g_iload_n (pc := 312) rfl 0 rfl C dX8_count_312 ?_
      exact g_iret (pc := 313) C R dX8_count_313 hD
  have hD := hD.2 c66
  have nc3 : ¬ (a1).toInt = 0 := tsw_ne c3
  have nc6 : ¬ (a1).toInt = 1 := tsw_ne c6
  have nc9 : ¬ (a1).toInt = 2 := tsw_ne c9
  have nc12 : ¬ (a1).toInt = 3 := tsw_ne c12
  have nc14 : ¬ (a1).toInt = 4 := tsw_ne c14
  have nc31 : ¬ (a1).toInt = 5 := tsw_ne c31
  have nc34 : ¬ (a1).toInt = 6 := tsw_ne c34
  have nc37 : ¬ (a1).toInt = 7 := tsw_ne c37
  have nc41 : ¬ (a1).toInt = 8 := tsw_ne c41
  have nc42 : ¬ (a1).toInt = 9 := tsw_ne c42
  have nc43 : ¬ (a1).toInt = 10 := tsw_ne c43
  have nc44 : ¬ (a1).toInt = 11 := tsw_ne c44
  have nc51 : ¬ (a1).toInt = 12 := tsw_ne c51
  have nc66 : ¬ (a1).toInt = 13 := tsw_ne c66
  refine g_tswOut (pc := 5) 314 C dX8_count_5 (by omega) (by decide) ?_
  refine g_iconst (pc := 314) (v := (-1)) (by decide) C dX8_count_314 ?_
  exact g_iret (pc := 315) C R dX8_count_315 hD
def DB_Mo_coveredBy_4 (r : TR) (l0 : Nat) (l1 : Int32) (l2 : Int32) (l3 : Int32) (h : TH) (K4 : Int32 → Int32 → TH → Prop) (K51 : Int32 → TH → Prop) (Q : Int32 → TH → Prop) : Prop :=
  ((40 ≤ l3 → K51 l2 h) ∧ (¬ 40 ≤ l3 → D_Mo_isWater r l0 (jrem l3 8) (l3 / 8) h (fun x5 h4 => ((x5 = 0 → ∀ x7 : Int32, x7 = l3 + 1 → K4 l2 x7 h4) ∧ (¬ x5 = 0 → D_Mo_smeltAt r l0 (jrem l3 8) (l3 / 8) h4 (fun x9 h8 => (((x9 &&& l1) = 0 → ∀ x11 : Int32, x11 = l3 + 1 → K4 l2 x11 h8) ∧ (¬ (x9 &&& l1) = 0 → ∀ x12 : Int32, x12 = l2 + 1 → ∀ x13 : Int32, x13 = l3 + 1 → K4 x12 x13 h8))))))))
set_option maxRecDepth 100000 in
set_option maxHeartbeats 4000000 in
theorem WB_Mo_coveredBy_4 {Y : CG} {X : CX} {r : TR} {l0 : Nat} {l1 : Int32} {l2 : Int32} {l3 : Int32} {h : TH} {K4 : Int32 → Int32 → TH → Prop} {K51 : Int32 → TH → Prop} {Q : Int32 → TH → Prop} (C : Gd Y X cX8_coveredBy 4 RX8 4) (R : Ri Y r X .int Q) (t0 : TO Y l0 8) (hK4 : ∀ (k2 : Int32) (k3 : Int32) (hh : TH), K4 k2 k3 hh → G Y X 4 4 [(0, .ref l0), (1, .int l1), (2, .int k2), (3, .int k3)] [] r hh) (hK51 : ∀ (k2 : Int32) (hh : TH), K51 k2 hh → G Y X 4 51 [(2, .int k2)] [] r hh) (hD : DB_Mo_coveredBy_4 r l0 l1 l2 l3 h K4 K51 Q) : G Y X 4 4 [(0, .ref l0), (1, .int l1), (2, .int l2), (3, .int l3)] [] r h := by
  unfold DB_Mo_coveredBy_4 at hD
  refine g_wt (fun hw => ?_)
  refine g_iload_n (pc := 4) rfl 3 rfl C dX8_coveredBy_4 ?_
  refine g_bipush (pc := 5) (v := 40) (by decide) C dX8_coveredBy_5 ?_
  refine g_icmp_ge (pc := 7) 51 C dX8_coveredBy_7 (by decide) (fun c3 => ?_) (fun c3 => ?_)
  · have hD := hD.1 c3
    refine g_sub [2] rfl ?_
    exact hK51 l2 h hD
  · have hD := hD.2 c3
    refine g_aload_n (pc := 10) rfl 0 rfl C dX8_coveredBy_10 ?_
    refine g_iload_n (pc := 11) rfl 3 rfl C dX8_coveredBy_11 ?_
    refine g_bipush (pc := 12) (v := 8) (by decide) C dX8_coveredBy_12 ?_
    refine g_irem (pc := 14) (by decide) C dX8_coveredBy_14 ?_
    refine g_iload_n (pc := 15) rfl 3 rfl C dX8_coveredBy_15 ?_
    refine g_bipush (pc := 16) (v := 8) (by decide) C dX8_coveredBy_16 ?_
    refine g_idiv (pc := 18) (by decide) C dX8_coveredBy_18 ?_
    refine g_callVi (pc := 19) (As := [.int (jrem l3 8), .int (l3 / 8)]) C mv_RX8_440 (M_Mo_isWater t0 hD) t0 (by decide) rfl rfl (Nat.le_of_ble_eq_true rfl) dX8_coveredBy_19 (fun x5 h4 hD => ?_)
    refine g_if_eq (pc := 22) 45 C dX8_coveredBy_22 (by decide) (fun c6 => ?_) (fun c6 => ?_)
    · have hD := hD.1 c6
      refine g_iinc (pc := 45) (q := 3) (c := 1) (fun x7 => [(3, .int x7), (0, .ref l0), (1, .int l1), (2, .int l2)]) C dX8_coveredBy_45 rfl (by decide) (by decide) rfl (fun x7 ex7 => ?_)
      have hD := hD x7 ex7
      refine g_goto (pc := 48) 4 C dX8_coveredBy_48 (by decide) ?_
      refine g_sub [1, 2, 3, 0] rfl ?_
      exact hK4 l2 x7 h4 hD
    · have hD := hD.2 c6
      refine g_aload_n (pc := 25) rfl 0 rfl C dX8_coveredBy_25 ?_
      refine g_iload_n (pc := 26) rfl 3 rfl C dX8_coveredBy_26 ?_
      refine g_bipush (pc := 27) (v := 8) (by decide) C dX8_coveredBy_27 ?_
      refine g_irem (pc := 29) (by decide) C dX8_coveredBy_29 ?_
      refine g_iload_n (pc := 30) rfl 3 rfl C dX8_coveredBy_30 ?_
      refine g_bipush (pc := 31) (v := 8) (by decide) C dX8_coveredBy_31 ?_
      refine g_idiv (pc := 33) (by decide) C dX8_coveredBy_33 ?_
      refine g_callVi (pc := 34) (As := [.int (jrem l3 8), .int (l3 / 8)]) C mv_RX8_400 (M_Mo_smeltAt t0 hD) t0 (by decide) rfl rfl (Nat.le_of_ble_eq_true rfl) dX8_coveredBy_34 (fun x9 h8 hD => ?_)
      refine g_iload_n (pc := 37) rfl 1 rfl C dX8_coveredBy_37 ?_
      refine g_iand (pc := 38) C dX8_coveredBy_38 ?_
      refine g_if_eq (pc := 39) 45 C dX8_coveredBy_39 (by decide) (fun c10 => ?_) (fun c10 => ?_)
      · have hD := hD.1 c10
        refine g_iinc (pc := 45) (q := 3) (c := 1) (fun x11 => [(3, .int x11), (0, .ref l0), (1, .int l1), (2, .int l2)]) C dX8_coveredBy_45 rfl (by decide) (by decide) rfl (fun x11 ex11 => ?_)
        have hD := hD x11 ex11
        refine g_goto (pc := 48) 4 C dX8_coveredBy_48 (by decide) ?_
        refine g_sub [1, 2, 3, 0] rfl ?_
        exact hK4 l2 x11 h8 hD
      · have hD := hD.2 c10
        refine g_iinc (pc := 42) (q := 2) (c := 1) (fun x12 => [(2, .int x12), (0, .ref l0), (1, .int l1), (3, .int l3)]) C dX8_coveredBy_42 rfl (by decide) (by decide) rfl (fun x12 ex12 => ?_)
        have hD := hD x12 ex12
        refine g_iinc (pc := 45) (q := 3) (c := 1) (fun x13 => [(3, .int x13), (2, .int x12), (0, .ref l0), (1, .int l1)]) C dX8_coveredBy_45 rfl (by decide) (by decide) rfl (fun x13 ex13 => ?_)
        have hD := hD x13 ex13
        refine g_goto (pc := 48) 4 C dX8_coveredBy_48 (by decide) ?_
        refine g_sub [2, 3, 1, 0] rfl ?_
        exact hK4 x12 x13 h8 hD
def D_Mo_coveredBy (r : TR) (o : Nat) (a1 : Int32) (h : TH) (Q : Int32 → TH → Prop) : Prop :=
  ∃ n, lp (fun (K : Int32 × Int32 × TH → Prop) (s : Int32 × Int32 × TH) => DB_Mo_coveredBy_4 r o a1 s.1 s.2.1 s.2.2 (fun y14 y15 h16 => K (y14, y15, h16)) (fun x17 h18 => Q x17 h18) Q) n (0, 0, h)
set_option maxRecDepth 100000 in
set_option maxHeartbeats 4000000 in
theorem M_Mo_coveredBy {Y : CG} {r : TR} {l : Launch} {o : Nat} {a1 : Int32} {h : TH} {Q : Int32 → TH → Prop} (t0 : TO Y o 8) (hD : D_Mo_coveredBy r o a1 h Q) : Mi Y r l yX8_coveredBy cX8_coveredBy 4 .int 4 [.ref o, .int a1] h Q := by
  unfold D_Mo_coveredBy at hD
  refine Mi.of RX8 rfl (by decide) (by simp [lg_sl, Value.category]) [(0, .ref o), (1, .int a1)] rfl (fun X hXl C R => ?_)
  subst hXl
  refine g_wt (fun hw => ?_)
  refine g_iconst (pc := 0) (v := 0) (by decide) C dX8_coveredBy_0 ?_
  refine g_istore_n (pc := 1) (fun _ => [(2, .int 0), (0, .ref o), (1, .int a1)]) C dX8_coveredBy_1 rfl (by decide) rfl (fun _ _ => ?_)
  refine g_iconst (pc := 2) (v := 0) (by decide) C dX8_coveredBy_2 ?_
  refine g_istore_n (pc := 3) (fun _ => [(3, .int 0), (2, .int 0), (0, .ref o), (1, .int a1)]) C dX8_coveredBy_3 rfl (by decide) rfl (fun _ _ => ?_)
  obtain ⟨n, hD⟩ := hD
  refine g_sub [2, 3, 1, 0] rfl ?_
  refine lp_run (fun s : Int32 × Int32 × TH => G Y X 4 4 [(0, .ref o), (1, .int a1), (2, .int s.1), (3, .int s.2.1)] [] r s.2.2) (fun K s hB hK => ?_) n (0, 0, h) hD
  refine WB_Mo_coveredBy_4 C R t0 (fun y14 y15 h16 hk => hK _ hk) (fun x17 h18 hD => ?_) hB
  · refine g_iload_n (pc := 51) rfl 0 rfl C dX8_coveredBy_51 ?_
    exact g_iret (pc := 52) C R dX8_coveredBy_52 hD
def DB_Mo_cover_19 (r : TR) (l0 : Nat) (l1 : Int32) (l2 : Int32) (l3 : Int32) (h : TH) (K19 : Int32 → Int32 → TH → Prop) (K65 : Int32 → TH → Prop) (Q : Int32 → TH → Prop) : Prop :=
  ∀ i9 : Int32, i9 = h.1 l0 18 → vp_in i9 2 ∧ (((h.1 (r l0 25) i9.toNatClampNeg) ≤ l3 → K65 l2 h) ∧ (¬ (h.1 (r l0 25) i9.toNatClampNeg) ≤ l3 → D_Mo_isSailing r l0 l3 h (fun x12 h11 => ((x12 = 0 → ∀ x14 : Int32, x14 = l3 + 1 → K19 l2 x14 h11) ∧ (¬ x12 = 0 → ∀ i16 : Int32, i16 = 24 + l3 → vp_in i16 512 ∧ ((¬ (h11.1 (r l0 49) i16.toNatClampNeg) = 1 → ∀ x18 : Int32, x18 = l3 + 1 → K19 l2 x18 h11) ∧ ((h11.1 (r l0 49) i16.toNatClampNeg) = 1 → ∀ x19 : Int32, x19 = l2 ||| ((1 : Int32) <<< (l3 &&& 31)) → ∀ x20 : Int32, x20 = l3 + 1 → K19 x19 x20 h11)))))))
set_option maxRecDepth 100000 in
set_option maxHeartbeats 4000000 in
theorem WB_Mo_cover_19 {Y : CG} {X : CX} {r : TR} {l0 : Nat} {l1 : Int32} {l2 : Int32} {l3 : Int32} {h : TH} {K19 : Int32 → Int32 → TH → Prop} {K65 : Int32 → TH → Prop} {Q : Int32 → TH → Prop} (C : Gd Y X cX8_cover 5 RX8 5) (R : Ri Y r X .int Q) (t0 : TO Y l0 8) (hK19 : ∀ (k2 : Int32) (k3 : Int32) (hh : TH), K19 k2 k3 hh → G Y X 5 19 [(0, .ref l0), (1, .int l1), (2, .int k2), (3, .int k3)] [] r hh) (hK65 : ∀ (k2 : Int32) (hh : TH), K65 k2 hh → G Y X 5 65 [(0, .ref l0), (1, .int l1), (2, .int k2)] [] r hh) (hD : DB_Mo_cover_19 r l0 l1 l2 l3 h K19 K65 Q) : G Y X 5 19 [(0, .ref l0), (1, .int l1), (2, .int l2), (3, .int l3)] [] r h := by
  unfold DB_Mo_cover_19 at hD
  refine g_wt (fun hw => ?_)
  refine g_iload_n (pc := 19) rfl 3 rfl C dX8_cover_19 ?_
  refine g_aload_n (pc := 20) rfl 0 rfl C dX8_cover_20 ?_
  have u8 : TA Y (r l0 25) 10 2 := wt_a hw t0 (by decide) (by decide) rfl
  refine g_getR (pc := 21) C fl_RX8_52 t0 rfl dX8_cover_21 ?_
  refine g_aload_n (pc := 24) rfl 0 rfl C dX8_cover_24 ?_
  refine g_getI (pc := 25) C fl_RX8_230 t0 rfl dX8_cover_25 ?_
  refine g_topi (fun i9 ei9 => ?_)
  have hD := hD i9 ei9
  obtain ⟨hb, hD⟩ := hD
  refine g_iald (pc := 28) C u8 hb dX8_cover_28 ?_
  refine g_icmp_ge (pc := 29) 65 C dX8_cover_29 (by decide) (fun c10 => ?_) (fun c10 => ?_)
  · have hD := hD.1 c10
    refine g_sub [0, 1, 2] rfl ?_
    exact hK65 l2 h hD
  · have hD := hD.2 c10
    refine g_aload_n (pc := 32) rfl 0 rfl C dX8_cover_32 ?_
    refine g_iload_n (pc := 33) rfl 3 rfl C dX8_cover_33 ?_
    refine g_callVi (pc := 34) (As := [.int l3]) C mv_RX8_347 (M_Mo_isSailing t0 hD) t0 (by decide) rfl rfl (Nat.le_of_ble_eq_true rfl) dX8_cover_34 (fun x12 h11 hD => ?_)
    refine g_if_eq (pc := 37) 59 C dX8_cover_37 (by decide) (fun c13 => ?_) (fun c13 => ?_)
    · have hD := hD.1 c13
      refine g_iinc (pc := 59) (q := 3) (c := 1) (fun x14 => [(3, .int x14), (0, .ref l0), (1, .int l1), (2, .int l2)]) C dX8_cover_59 rfl (by decide) (by decide) rfl (fun x14 ex14 => ?_)
      have hD := hD x14 ex14
      refine g_goto (pc := 62) 19 C dX8_cover_62 (by decide) ?_
      refine g_sub [1, 2, 3, 0] rfl ?_
      exact hK19 l2 x14 h11 hD
    · have hD := hD.2 c13
      refine g_aload_n (pc := 40) rfl 0 rfl C dX8_cover_40 ?_
      have u15 : TA Y (r l0 49) 10 512 := wt_a hw t0 (by decide) (by decide) rfl
      refine g_getR (pc := 41) C fl_RX8_113 t0 rfl dX8_cover_41 ?_
      refine g_bipush (pc := 44) (v := 24) (by decide) C dX8_cover_44 ?_
      refine g_iload_n (pc := 46) rfl 3 rfl C dX8_cover_46 ?_
      refine g_iadd (pc := 47) C dX8_cover_47 ?_
      refine g_topi (fun i16 ei16 => ?_)
      have hD := hD i16 ei16
      obtain ⟨hb, hD⟩ := hD
      refine g_iald (pc := 48) C u15 hb dX8_cover_48 ?_
      refine g_iconst (pc := 49) (v := 1) (by decide) C dX8_cover_49 ?_
      refine g_icmp_ne (pc := 50) 59 C dX8_cover_50 (by decide) (fun c17 => ?_) (fun c17 => ?_)
      · have hD := hD.1 c17
        refine g_iinc (pc := 59) (q := 3) (c := 1) (fun x18 => [(3, .int x18), (0, .ref l0), (1, .int l1), (2, .int l2)]) C dX8_cover_59 rfl (by decide) (by decide) rfl (fun x18 ex18 => ?_)
        have hD := hD x18 ex18
        refine g_goto (pc := 62) 19 C dX8_cover_62 (by decide) ?_
        refine g_sub [1, 2, 3, 0] rfl ?_
        exact hK19 l2 x18 h11 hD
      · have hD := hD.2 c17
        refine g_iload_n (pc := 53) rfl 2 rfl C dX8_cover_53 ?_
        refine g_iconst (pc := 54) (v := 1) (by decide) C dX8_cover_54 ?_
        refine g_iload_n (pc := 55) rfl 3 rfl C dX8_cover_55 ?_
        refine g_ishl (pc := 56) C dX8_cover_56 ?_
        refine g_ior (pc := 57) C dX8_cover_57 ?_
        refine g_istore_n (pc := 58) (fun x19 => [(2, .int x19), (0, .ref l0), (1, .int l1), (3, .int l3)]) C dX8_cover_58 rfl (by decide) rfl (fun x19 ex19 => ?_)
        have hD := hD x19 ex19
        refine g_iinc (pc := 59) (q := 3) (c := 1) (fun x20 => [(3, .int x20), (2, .int x19), (0, .ref l0), (1, .int l1)]) C dX8_cover_59 rfl (by decide) (by decide) rfl (fun x20 ex20 => ?_)
        have hD := hD x20 ex20
        refine g_goto (pc := 62) 19 C dX8_cover_62 (by decide) ?_
        refine g_sub [2, 3, 1, 0] rfl ?_
        exact hK19 x19 x20 h11 hD
def DB_Mo_cover_70 (r : TR) (l0 : Nat) (l1 : Int32) (l2 : Int32) (l3 : Int32) (l4 : Int32) (h : TH) (K70 : Int32 → Int32 → TH → Prop) (K138 : Int32 → TH → Prop) (Q : Int32 → TH → Prop) : Prop :=
  ((l2 ≤ l4 → K138 l3 h) ∧ (¬ l2 ≤ l4 → ((¬ (l4 &&& (l2 ^^^ (-1))) = 0 → ∀ x30 : Int32, x30 = l4 + 1 → K70 l3 x30 h) ∧ ((l4 &&& (l2 ^^^ (-1))) = 0 → D_Mo_bits r l4 h (fun x32 h31 => D_Mo_bits r l3 h31 (fun x34 h33 => ((x34 < x32 → ∀ x36 : Int32, x36 = l4 + 1 → K70 l3 x36 h33) ∧ (¬ x34 < x32 → D_Mo_coveredBy r l0 l4 h33 (fun x38 h37 => D_Mo_coveredBy r l0 l2 h37 (fun x40 h39 => ((¬ x38 = x40 → ∀ x42 : Int32, x42 = l4 + 1 → K70 l3 x42 h39) ∧ (x38 = x40 → D_Mo_bits r l4 h39 (fun x44 h43 => D_Mo_bits r l3 h43 (fun x46 h45 => ((x44 < x46 → ∀ x49 : Int32, x49 = l4 + 1 → K70 l4 x49 h45) ∧ (¬ x44 < x46 → ((l3 ≤ l4 → ∀ x51 : Int32, x51 = l4 + 1 → K70 l3 x51 h45) ∧ (¬ l3 ≤ l4 → ∀ x53 : Int32, x53 = l4 + 1 → K70 l4 x53 h45))))))))))))))))))
set_option maxRecDepth 100000 in
set_option maxHeartbeats 4000000 in
theorem WB_Mo_cover_70 {Y : CG} {X : CX} {r : TR} {l0 : Nat} {l1 : Int32} {l2 : Int32} {l3 : Int32} {l4 : Int32} {h : TH} {K70 : Int32 → Int32 → TH → Prop} {K138 : Int32 → TH → Prop} {Q : Int32 → TH → Prop} (C : Gd Y X cX8_cover 5 RX8 5) (R : Ri Y r X .int Q) (t0 : TO Y l0 8) (hK70 : ∀ (k3 : Int32) (k4 : Int32) (hh : TH), K70 k3 k4 hh → G Y X 5 70 [(0, .ref l0), (1, .int l1), (2, .int l2), (3, .int k3), (4, .int k4)] [] r hh) (hK138 : ∀ (k3 : Int32) (hh : TH), K138 k3 hh → G Y X 5 138 [(0, .ref l0), (1, .int l1), (2, .int l2), (3, .int k3)] [] r hh) (hD : DB_Mo_cover_70 r l0 l1 l2 l3 l4 h K70 K138 Q) : G Y X 5 70 [(0, .ref l0), (1, .int l1), (2, .int l2), (3, .int l3), (4, .int l4)] [] r h := by
  unfold DB_Mo_cover_70 at hD
  refine g_wt (fun hw => ?_)
  refine g_iload (pc := 70) 4 rfl C dX8_cover_70 ?_
  refine g_iload_n (pc := 72) rfl 2 rfl C dX8_cover_72 ?_
  refine g_icmp_ge (pc := 73) 138 C dX8_cover_73 (by decide) (fun c28 => ?_) (fun c28 => ?_)
  · have hD := hD.1 c28
    refine g_sub [0, 1, 2, 3] rfl ?_
    exact hK138 l3 h hD
  · have hD := hD.2 c28
    refine g_iload (pc := 76) 4 rfl C dX8_cover_76 ?_
    refine g_iload_n (pc := 78) rfl 2 rfl C dX8_cover_78 ?_
    refine g_iconst (pc := 79) (v := (-1)) (by decide) C dX8_cover_79 ?_
    refine g_ixor (pc := 80) C dX8_cover_80 ?_
    refine g_iand (pc := 81) C dX8_cover_81 ?_
    refine g_if_ne (pc := 82) 132 C dX8_cover_82 (by decide) (fun c29 => ?_) (fun c29 => ?_)
    · have hD := hD.1 c29
      refine g_iinc (pc := 132) (q := 4) (c := 1) (fun x30 => [(4, .int x30), (0, .ref l0), (1, .int l1), (2, .int l2), (3, .int l3)]) C dX8_cover_132 rfl (by decide) (by decide) rfl (fun x30 ex30 => ?_)
      have hD := hD x30 ex30
      refine g_goto (pc := 135) 70 C dX8_cover_135 (by decide) ?_
      refine g_sub [1, 2, 3, 4, 0] rfl ?_
      exact hK70 l3 x30 h hD
    · have hD := hD.2 c29
      refine g_iload (pc := 85) 4 rfl C dX8_cover_85 ?_
      refine g_callSi (pc := 87) (As := [.int l4]) C ms_RX8_373 (M_Mo_bits  hD) (by decide) rfl rfl (Nat.le_of_ble_eq_true rfl) dX8_cover_87 (fun x32 h31 hD => ?_)
      refine g_iload_n (pc := 90) rfl 3 rfl C dX8_cover_90 ?_
      refine g_callSi (pc := 91) (As := [.int l3]) C ms_RX8_373 (M_Mo_bits  hD) (by decide) rfl rfl (Nat.le_of_ble_eq_true rfl) dX8_cover_91 (fun x34 h33 hD => ?_)
      refine g_icmp_gt (pc := 94) 132 C dX8_cover_94 (by decide) (fun c35 => ?_) (fun c35 => ?_)
      · have hD := hD.1 c35
        refine g_iinc (pc := 132) (q := 4) (c := 1) (fun x36 => [(4, .int x36), (0, .ref l0), (1, .int l1), (2, .int l2), (3, .int l3)]) C dX8_cover_132 rfl (by decide) (by decide) rfl (fun x36 ex36 => ?_)
        have hD := hD x36 ex36
        refine g_goto (pc := 135) 70 C dX8_cover_135 (by decide) ?_
        refine g_sub [1, 2, 3, 4, 0] rfl ?_
        exact hK70 l3 x36 h33 hD
      · have hD := hD.2 c35
        refine g_aload_n (pc := 97) rfl 0 rfl C dX8_cover_97 ?_
        refine g_iload (pc := 98) 4 rfl C dX8_cover_98 ?_
        refine g_callVi (pc := 100) (As := [.int l4]) C mv_RX8_443 (M_Mo_coveredBy t0 hD) t0 (by decide) rfl rfl (Nat.le_of_ble_eq_true rfl) dX8_cover_100 (fun x38 h37 hD => ?_)
        refine g_aload_n (pc := 103) rfl 0 rfl C dX8_cover_103 ?_
        refine g_iload_n (pc := 104) rfl 2 rfl C dX8_cover_104 ?_
        refine g_callVi (pc := 105) (As := [.int l2]) C mv_RX8_443 (M_Mo_coveredBy t0 hD) t0 (by decide) rfl rfl (Nat.le_of_ble_eq_true rfl) dX8_cover_105 (fun x40 h39 hD => ?_)
        refine g_icmp_ne (pc := 108) 132 C dX8_cover_108 (by decide) (fun c41 => ?_) (fun c41 => ?_)
        · have hD := hD.1 c41
          refine g_iinc (pc := 132) (q := 4) (c := 1) (fun x42 => [(4, .int x42), (0, .ref l0), (1, .int l1), (2, .int l2), (3, .int l3)]) C dX8_cover_132 rfl (by decide) (by decide) rfl (fun x42 ex42 => ?_)
          have hD := hD x42 ex42
          refine g_goto (pc := 135) 70 C dX8_cover_135 (by decide) ?_
          refine g_sub [1, 2, 3, 4, 0] rfl ?_
          exact hK70 l3 x42 h39 hD
        · have hD := hD.2 c41
          refine g_iload (pc := 111) 4 rfl C dX8_cover_111 ?_
          refine g_callSi (pc := 113) (As := [.int l4]) C ms_RX8_373 (M_Mo_bits  hD) (by decide) rfl rfl (Nat.le_of_ble_eq_true rfl) dX8_cover_113 (fun x44 h43 hD => ?_)
          refine g_iload_n (pc := 116) rfl 3 rfl C dX8_cover_116 ?_
          refine g_callSi (pc := 117) (As := [.int l3]) C ms_RX8_373 (M_Mo_bits  hD) (by decide) rfl rfl (Nat.le_of_ble_eq_true rfl) dX8_cover_117 (fun x46 h45 hD => ?_)
          refine g_icmp_lt (pc := 120) 129 C dX8_cover_120 (by decide) (fun c47 => ?_) (fun c47 => ?_)
          · have hD := hD.1 c47
            refine g_iload (pc := 129) 4 rfl C dX8_cover_129 ?_
            refine g_istore_n (pc := 131) (fun _ => [(3, .int l4), (0, .ref l0), (1, .int l1), (2, .int l2), (4, .int l4)]) C dX8_cover_131 rfl (by decide) rfl (fun _ _ => ?_)
            refine g_iinc (pc := 132) (q := 4) (c := 1) (fun x49 => [(4, .int x49), (3, .int l4), (0, .ref l0), (1, .int l1), (2, .int l2)]) C dX8_cover_132 rfl (by decide) (by decide) rfl (fun x49 ex49 => ?_)
            have hD := hD x49 ex49
            refine g_goto (pc := 135) 70 C dX8_cover_135 (by decide) ?_
            refine g_sub [2, 3, 4, 1, 0] rfl ?_
            exact hK70 l4 x49 h45 hD
          · have hD := hD.2 c47
            refine g_iload (pc := 123) 4 rfl C dX8_cover_123 ?_
            refine g_iload_n (pc := 125) rfl 3 rfl C dX8_cover_125 ?_
            refine g_icmp_ge (pc := 126) 132 C dX8_cover_126 (by decide) (fun c50 => ?_) (fun c50 => ?_)
            · have hD := hD.1 c50
              refine g_iinc (pc := 132) (q := 4) (c := 1) (fun x51 => [(4, .int x51), (0, .ref l0), (1, .int l1), (2, .int l2), (3, .int l3)]) C dX8_cover_132 rfl (by decide) (by decide) rfl (fun x51 ex51 => ?_)
              have hD := hD x51 ex51
              refine g_goto (pc := 135) 70 C dX8_cover_135 (by decide) ?_
              refine g_sub [1, 2, 3, 4, 0] rfl ?_
              exact hK70 l3 x51 h45 hD
            · have hD := hD.2 c50
              refine g_iload (pc := 129) 4 rfl C dX8_cover_129 ?_
              refine g_istore_n (pc := 131) (fun _ => [(3, .int l4), (0, .ref l0), (1, .int l1), (2, .int l2), (4, .int l4)]) C dX8_cover_131 rfl (by decide) rfl (fun _ _ => ?_)
              refine g_iinc (pc := 132) (q := 4) (c := 1) (fun x53 => [(4, .int x53), (3, .int l4), (0, .ref l0), (1, .int l1), (2, .int l2)]) C dX8_cover_132 rfl (by decide) (by decide) rfl (fun x53 ex53 => ?_)
              have hD := hD x53 ex53
              refine g_goto (pc := 135) 70 C dX8_cover_135 (by decide) ?_
              refine g_sub [2, 3, 4, 1, 0] rfl ?_
              exact hK70 l4 x53 h45 hD
def D_Mo_cover (r : TR) (o : Nat) (a1 : Int32) (h : TH) (Q : Int32 → TH → Prop) : Prop :=
  D_Mo_in r a1 0 2 h (fun x2 h1 => ((¬ x2 = 0 → D_Mo_copies r o h1 (fun h4 => ∃ n, lp (fun (K : Int32 × Int32 × TH → Prop) (s : Int32 × Int32 × TH) => DB_Mo_cover_19 r o a1 s.1 s.2.1 s.2.2 (fun y21 y22 h23 => K (y21, y22, h23)) (fun x24 h25 => ∃ n, lp (fun (K : Int32 × Int32 × TH → Prop) (s : Int32 × Int32 × TH) => DB_Mo_cover_70 r o a1 x24 s.1 s.2.1 s.2.2 (fun y54 y55 h56 => K (y54, y55, h56)) (fun x57 h58 => ((¬ a1 = 0 → ((¬ a1 = 1 → D_Mo_coveredBy r o x24 h58 (fun x62 h61 => Q x62 h61)) ∧ (a1 = 1 → Q x57 h58))) ∧ (a1 = 0 → D_Mo_bits r x57 h58 (fun x64 h63 => Q x64 h63)))) Q) n (x24, 0, h25)) Q) n (0, 0, h4))) ∧ (x2 = 0 → Q (-1) h1)))
set_option maxRecDepth 100000 in
set_option maxHeartbeats 4000000 in
theorem M_Mo_cover {Y : CG} {r : TR} {l : Launch} {o : Nat} {a1 : Int32} {h : TH} {Q : Int32 → TH → Prop} (t0 : TO Y o 8) (hD : D_Mo_cover r o a1 h Q) : Mi Y r l yX8_cover cX8_cover 5 .int 5 [.ref o, .int a1] h Q := by
  unfold D_Mo_cover at hD
  refine Mi.of RX8 rfl (by decide) (by simp [lg_sl, Value.category]) [(0, .ref o), (1, .int a1)] rfl (fun X hXl C R => ?_)
  subst hXl
  refine g_wt (fun hw => ?_)
  refine g_iload_n (pc := 0) rfl 1 rfl C dX8_cover_0 ?_
  refine g_iconst (pc := 1) (v := 0) (by decide) C dX8_cover_1 ?_
  refine g_iconst (pc := 2) (v := 2) (by decide) C dX8_cover_2 ?_
  refine g_callSi (pc := 3) (As := [.int a1, .int 0, .int 2]) C ms_RX8_303 (M_Mo_in  hD) (by decide) rfl rfl (Nat.le_of_ble_eq_true rfl) dX8_cover_3 (fun x2 h1 hD => ?_)
  refine g_if_ne (pc := 6) 11 C dX8_cover_6 (by decide) (fun c3 => ?_) (fun c3 => ?_)
  · have hD := hD.1 c3
    refine g_aload_n (pc := 11) rfl 0 rfl C dX8_cover_11 ?_
    refine g_callVv (pc := 12) (As := []) C mv_RX8_397 (M_Mo_copies t0 hD) t0 (by decide) rfl rfl (Nat.le_of_ble_eq_true rfl) dX8_cover_12 (fun h4 hD => ?_)
    refine g_iconst (pc := 15) (v := 0) (by decide) C dX8_cover_15 ?_
    refine g_istore_n (pc := 16) (fun _ => [(2, .int 0), (0, .ref o), (1, .int a1)]) C dX8_cover_16 rfl (by decide) rfl (fun _ _ => ?_)
    refine g_iconst (pc := 17) (v := 0) (by decide) C dX8_cover_17 ?_
    refine g_istore_n (pc := 18) (fun _ => [(3, .int 0), (2, .int 0), (0, .ref o), (1, .int a1)]) C dX8_cover_18 rfl (by decide) rfl (fun _ _ => ?_)
    obtain ⟨n, hD⟩ := hD
    refine g_sub [2, 3, 1, 0] rfl ?_
    refine lp_run (fun s : Int32 × Int32 × TH => G Y X 5 19 [(0, .ref o), (1, .int a1), (2, .int s.1), (3, .int s.2.1)] [] r s.2.2) (fun K s hB hK => ?_) n (0, 0, h4) hD
    refine WB_Mo_cover_19 C R t0 (fun y21 y22 h23 hk => hK _ hk) (fun x24 h25 hD => ?_) hB
    · refine g_iload_n (pc := 65) rfl 2 rfl C dX8_cover_65 ?_
      refine g_istore_n (pc := 66) (fun _ => [(3, .int x24), (0, .ref o), (1, .int a1), (2, .int x24)]) C dX8_cover_66 rfl (by decide) rfl (fun _ _ => ?_)
      refine g_iconst (pc := 67) (v := 0) (by decide) C dX8_cover_67 ?_
      refine g_istore (pc := 68) (fun _ => [(4, .int 0), (3, .int x24), (0, .ref o), (1, .int a1), (2, .int x24)]) C dX8_cover_68 (by decide) rfl (fun _ _ => ?_)
      obtain ⟨n, hD⟩ := hD
      refine g_sub [2, 3, 4, 1, 0] rfl ?_
      refine lp_run (fun s : Int32 × Int32 × TH => G Y X 5 70 [(0, .ref o), (1, .int a1), (2, .int x24), (3, .int s.1), (4, .int s.2.1)] [] r s.2.2) (fun K s hB hK => ?_) n (x24, 0, h25) hD
      refine WB_Mo_cover_70 C R t0 (fun y54 y55 h56 hk => hK _ hk) (fun x57 h58 hD => ?_) hB
      · refine g_iload_n (pc := 138) rfl 1 rfl C dX8_cover_138 ?_
        refine g_if_ne (pc := 139) 149 C dX8_cover_139 (by decide) (fun c59 => ?_) (fun c59 => ?_)
        · have hD := hD.1 c59
          refine g_iload_n (pc := 149) rfl 1 rfl C dX8_cover_149 ?_
          refine g_iconst (pc := 150) (v := 1) (by decide) C dX8_cover_150 ?_
          refine g_icmp_ne (pc := 151) 158 C dX8_cover_151 (by decide) (fun c60 => ?_) (fun c60 => ?_)
          · have hD := hD.1 c60
            refine g_aload_n (pc := 158) rfl 0 rfl C dX8_cover_158 ?_
            refine g_iload_n (pc := 159) rfl 2 rfl C dX8_cover_159 ?_
            refine g_callVi (pc := 160) (As := [.int x24]) C mv_RX8_443 (M_Mo_coveredBy t0 hD) t0 (by decide) rfl rfl (Nat.le_of_ble_eq_true rfl) dX8_cover_160 (fun x62 h61 hD => ?_)
            exact g_iret (pc := 163) C R dX8_cover_163 hD
          · have hD := hD.2 c60
            refine g_iload_n (pc := 154) rfl 3 rfl C dX8_cover_154 ?_
            refine g_goto (pc := 155) 163 C dX8_cover_155 (by decide) ?_
            exact g_iret (pc := 163) C R dX8_cover_163 hD
        · have hD := hD.2 c59
          refine g_iload_n (pc := 142) rfl 3 rfl C dX8_cover_142 ?_
          refine g_callSi (pc := 143) (As := [.int x57]) C ms_RX8_373 (M_Mo_bits  hD) (by decide) rfl rfl (Nat.le_of_ble_eq_true rfl) dX8_cover_143 (fun x64 h63 hD => ?_)
          refine g_goto (pc := 146) 163 C dX8_cover_146 (by decide) ?_
          exact g_iret (pc := 163) C R dX8_cover_163 hD
  · have hD := hD.2 c3
    refine g_iconst (pc := 9) (v := (-1)) (by decide) C dX8_cover_9 ?_
    exact g_iret (pc := 10) C R dX8_cover_10 hD
def D_Mo_isDigit (r : TR) (a0 : Int32) (h : TH) (Q : Int32 → TH → Prop) : Prop :=
  ((a0 < 48 → Q 0 h) ∧ (¬ a0 < 48 → ((57 < a0 → Q 0 h) ∧ (¬ 57 < a0 → Q 1 h))))
set_option maxRecDepth 100000 in
set_option maxHeartbeats 4000000 in
theorem M_Mo_isDigit {Y : CG} {r : TR} {l : Launch} {a0 : Int32} {h : TH} {Q : Int32 → TH → Prop} (hD : D_Mo_isDigit r a0 h Q) : Mi Y r l yX8_isDigit cX8_isDigit 1 .boolean 1 [.int a0] h Q := by
  unfold D_Mo_isDigit at hD
  refine Mi.of RX8 rfl (by decide) (by simp [lg_sl, Value.category]) [(0, .int a0)] rfl (fun X hXl C R => ?_)
  subst hXl
  refine g_wt (fun hw => ?_)
  refine g_iload_n (pc := 0) rfl 0 rfl C dX8_isDigit_0 ?_
  refine g_bipush (pc := 1) (v := 48) (by decide) C dX8_isDigit_1 ?_
  refine g_icmp_lt (pc := 3) 16 C dX8_isDigit_3 (by decide) (fun c1 => ?_) (fun c1 => ?_)
  · have hD := hD.1 c1
    refine g_iconst (pc := 16) (v := 0) (by decide) C dX8_isDigit_16 ?_
    exact g_zret (pc := 17) C R nz_0 dX8_isDigit_17 hD
  · have hD := hD.2 c1
    refine g_iload_n (pc := 6) rfl 0 rfl C dX8_isDigit_6 ?_
    refine g_bipush (pc := 7) (v := 57) (by decide) C dX8_isDigit_7 ?_
    refine g_icmp_gt (pc := 9) 16 C dX8_isDigit_9 (by decide) (fun c2 => ?_) (fun c2 => ?_)
    · have hD := hD.1 c2
      refine g_iconst (pc := 16) (v := 0) (by decide) C dX8_isDigit_16 ?_
      exact g_zret (pc := 17) C R nz_0 dX8_isDigit_17 hD
    · have hD := hD.2 c2
      refine g_iconst (pc := 12) (v := 1) (by decide) C dX8_isDigit_12 ?_
      refine g_goto (pc := 13) 17 C dX8_isDigit_13 (by decide) ?_
      exact g_zret (pc := 17) C R nz_1 dX8_isDigit_17 hD
def D_Mo_isLetter (r : TR) (a0 : Int32) (h : TH) (Q : Int32 → TH → Prop) : Prop :=
  ((a0 < 97 → Q 0 h) ∧ (¬ a0 < 97 → ((122 < a0 → Q 0 h) ∧ (¬ 122 < a0 → Q 1 h))))
set_option maxRecDepth 100000 in
set_option maxHeartbeats 4000000 in
theorem M_Mo_isLetter {Y : CG} {r : TR} {l : Launch} {a0 : Int32} {h : TH} {Q : Int32 → TH → Prop} (hD : D_Mo_isLetter r a0 h Q) : Mi Y r l yX8_isLetter cX8_isLetter 1 .boolean 1 [.int a0] h Q := by
  unfold D_Mo_isLetter at hD
  refine Mi.of RX8 rfl (by decide) (by simp [lg_sl, Value.category]) [(0, .int a0)] rfl (fun X hXl C R => ?_)
  subst hXl
  refine g_wt (fun hw => ?_)
  refine g_iload_n (pc := 0) rfl 0 rfl C dX8_isLetter_0 ?_
  refine g_bipush (pc := 1) (v := 97) (by decide) C dX8_isLetter_1 ?_
  refine g_icmp_lt (pc := 3) 16 C dX8_isLetter_3 (by decide) (fun c1 => ?_) (fun c1 => ?_)
  · have hD := hD.1 c1
    refine g_iconst (pc := 16) (v := 0) (by decide) C dX8_isLetter_16 ?_
    exact g_zret (pc := 17) C R nz_0 dX8_isLetter_17 hD
  · have hD := hD.2 c1
    refine g_iload_n (pc := 6) rfl 0 rfl C dX8_isLetter_6 ?_
    refine g_bipush (pc := 7) (v := 122) (by decide) C dX8_isLetter_7 ?_
    refine g_icmp_gt (pc := 9) 16 C dX8_isLetter_9 (by decide) (fun c2 => ?_) (fun c2 => ?_)
    · have hD := hD.1 c2
      refine g_iconst (pc := 16) (v := 0) (by decide) C dX8_isLetter_16 ?_
      exact g_zret (pc := 17) C R nz_0 dX8_isLetter_17 hD
    · have hD := hD.2 c2
      refine g_iconst (pc := 12) (v := 1) (by decide) C dX8_isLetter_12 ?_
      refine g_goto (pc := 13) 17 C dX8_isLetter_13 (by decide) ?_
      exact g_zret (pc := 17) C R nz_1 dX8_isLetter_17 hD
def D_Mo_token (r : TR) (o : Nat) (a1 : Int32) (a2 : Int32) (a3 : Int32) (a4 : Int64) (h : TH) (Q : TH → Prop) : Prop :=
  vp_in (h.1 o 10) 403 ∧ ∀ h2, h2 = pI h (r o 5) ((h.1 o 10).toNatClampNeg) a1 → vp_in (h2.1 o 10) 403 ∧ ∀ h4, h4 = pI h2 (r o 6) ((h2.1 o 10).toNatClampNeg) a2 → vp_in (h4.1 o 10) 403 ∧ ∀ h6, h6 = pI h4 (r o 7) ((h4.1 o 10).toNatClampNeg) a3 → vp_in (h6.1 o 10) 403 ∧ ∀ h8, h8 = pL h6 (r o 8) ((h6.1 o 10).toNatClampNeg) a4 → ∀ h9, h9 = pI h8 o 10 ((h8.1 o 10) + 1) → Q h9
set_option maxRecDepth 100000 in
set_option maxHeartbeats 4000000 in
theorem M_Mo_token {Y : CG} {r : TR} {l : Launch} {o : Nat} {a1 : Int32} {a2 : Int32} {a3 : Int32} {a4 : Int64} {h : TH} {Q : TH → Prop} (t0 : TO Y o 8) (hD : D_Mo_token r o a1 a2 a3 a4 h Q) : Mv Y r l yX8_token cX8_token 6 1 [.ref o, .int a1, .int a2, .int a3, .long a4] h Q := by
  unfold D_Mo_token at hD
  refine Mv.of RX8 rfl (by decide) (by simp [lg_sl, Value.category]) [(0, .ref o), (1, .int a1), (2, .int a2), (3, .int a3), (4, .long a4)] rfl (fun X hXl C R => ?_)
  subst hXl
  refine g_wt (fun hw => ?_)
  refine g_aload_n (pc := 0) rfl 0 rfl C dX8_token_0 ?_
  have u1 : TA Y (r o 5) 10 403 := wt_a hw t0 (by decide) (by decide) rfl
  refine g_getR (pc := 1) C fl_RX8_20 t0 rfl dX8_token_1 ?_
  refine g_aload_n (pc := 4) rfl 0 rfl C dX8_token_4 ?_
  refine g_getI (pc := 5) C fl_RX8_178 t0 rfl dX8_token_5 ?_
  refine g_iload_n (pc := 8) rfl 1 rfl C dX8_token_8 ?_
  obtain ⟨hb, hD⟩ := hD
  refine g_iast (pc := 9) C u1 hb dX8_token_9 (fun h2 eh2 => ?_)
  have hD := hD h2 eh2
  refine g_aload_n (pc := 10) rfl 0 rfl C dX8_token_10 ?_
  have u3 : TA Y (r o 6) 10 403 := wt_a hw t0 (by decide) (by decide) rfl
  refine g_getR (pc := 11) C fl_RX8_24 t0 rfl dX8_token_11 ?_
  refine g_aload_n (pc := 14) rfl 0 rfl C dX8_token_14 ?_
  refine g_getI (pc := 15) C fl_RX8_178 t0 rfl dX8_token_15 ?_
  refine g_iload_n (pc := 18) rfl 2 rfl C dX8_token_18 ?_
  obtain ⟨hb, hD⟩ := hD
  refine g_iast (pc := 19) C u3 hb dX8_token_19 (fun h4 eh4 => ?_)
  have hD := hD h4 eh4
  refine g_aload_n (pc := 20) rfl 0 rfl C dX8_token_20 ?_
  have u5 : TA Y (r o 7) 10 403 := wt_a hw t0 (by decide) (by decide) rfl
  refine g_getR (pc := 21) C fl_RX8_27 t0 rfl dX8_token_21 ?_
  refine g_aload_n (pc := 24) rfl 0 rfl C dX8_token_24 ?_
  refine g_getI (pc := 25) C fl_RX8_178 t0 rfl dX8_token_25 ?_
  refine g_iload_n (pc := 28) rfl 3 rfl C dX8_token_28 ?_
  obtain ⟨hb, hD⟩ := hD
  refine g_iast (pc := 29) C u5 hb dX8_token_29 (fun h6 eh6 => ?_)
  have hD := hD h6 eh6
  refine g_aload_n (pc := 30) rfl 0 rfl C dX8_token_30 ?_
  have u7 : TA Y (r o 8) 11 403 := wt_a hw t0 (by decide) (by decide) rfl
  refine g_getR (pc := 31) C fl_RX8_30 t0 rfl dX8_token_31 ?_
  refine g_aload_n (pc := 34) rfl 0 rfl C dX8_token_34 ?_
  refine g_getI (pc := 35) C fl_RX8_178 t0 rfl dX8_token_35 ?_
  refine g_lload (pc := 38) 4 rfl C dX8_token_38 ?_
  obtain ⟨hb, hD⟩ := hD
  refine g_last (pc := 40) C u7 hb dX8_token_40 (fun h8 eh8 => ?_)
  have hD := hD h8 eh8
  refine g_aload_n (pc := 41) rfl 0 rfl C dX8_token_41 ?_
  refine g_dup (pc := 42) rfl C dX8_token_42 ?_
  refine g_getI (pc := 43) C fl_RX8_178 t0 rfl dX8_token_43 ?_
  refine g_iconst (pc := 46) (v := 1) (by decide) C dX8_token_46 ?_
  refine g_iadd (pc := 47) C dX8_token_47 ?_
  refine g_putI (pc := 48) C fl_RX8_178 t0 rfl rfl rfl dX8_token_48 (fun h9 eh9 => ?_)
  have hD := hD h9 eh9
  exact g_vret (pc := 51) C R dX8_token_51 hD
def DJ_Mo_sign_85 (r : TR) (l0 : Nat) (l1 : Int32) (l2 : Int32) (l4 : Int32) (h : TH) (Q : Int32 → TH → Prop) : Prop :=
  ((¬ l2 = 60 → D_Mo_token r l0 l4 l1 0 0 h (fun h11 => Q 1 h11)) ∧ (l2 = 60 → D_Mo_token r l0 13 l1 0 0 h (fun h14 => Q 1 h14)))
set_option maxRecDepth 100000 in
set_option maxHeartbeats 4000000 in
theorem WJ_Mo_sign_85 {Y : CG} {X : CX} {r : TR} {l0 : Nat} {l1 : Int32} {l2 : Int32} {l4 : Int32} {h : TH} {Q : Int32 → TH → Prop} (C : Gd Y X cX8_sign 5 RX8 2) (R : Ri Y r X .int Q) (t0 : TO Y l0 8) (hD : DJ_Mo_sign_85 r l0 l1 l2 l4 h  Q) : G Y X 5 85 [(0, .ref l0), (1, .int l1), (2, .int l2), (4, .int l4)] [] r h := by
  unfold DJ_Mo_sign_85 at hD
  refine g_wt (fun hw => ?_)
  refine g_iload_n (pc := 85) rfl 2 rfl C dX8_sign_85 ?_
  refine g_bipush (pc := 86) (v := 60) (by decide) C dX8_sign_86 ?_
  refine g_icmp_ne (pc := 88) 95 C dX8_sign_88 (by decide) (fun c10 => ?_) (fun c10 => ?_)
  · have hD := hD.1 c10
    refine g_aload_n (pc := 95) rfl 0 rfl C dX8_sign_95 ?_
    refine g_iload (pc := 96) 3 rfl C dX8_sign_96 ?_
    refine g_iload_n (pc := 98) rfl 1 rfl C dX8_sign_98 ?_
    refine g_iconst (pc := 99) (v := 0) (by decide) C dX8_sign_99 ?_
    refine g_lconst (pc := 100) (v := 0) (by decide) C dX8_sign_100 ?_
    refine g_callVv (pc := 101) (As := [.int l4, .int l1, .int 0, .long 0]) C mv_RX8_185 (M_Mo_token t0 hD) t0 (by decide) rfl rfl (Nat.le_of_ble_eq_true rfl) dX8_sign_101 (fun h11 hD => ?_)
    refine g_iconst (pc := 104) (v := 1) (by decide) C dX8_sign_104 ?_
    exact g_iret (pc := 105) C R dX8_sign_105 hD
  · have hD := hD.2 c10
    refine g_bipush (pc := 91) (v := 13) (by decide) C dX8_sign_91 ?_
    refine g_istore (pc := 93) (fun _ => [(4, .int 13), (0, .ref l0), (1, .int l1), (2, .int l2)]) C dX8_sign_93 (by decide) rfl (fun _ _ => ?_)
    refine g_aload_n (pc := 95) rfl 1 rfl C dX8_sign_95 ?_
    refine g_iload (pc := 96) 0 rfl C dX8_sign_96 ?_
    refine g_iload_n (pc := 98) rfl 2 rfl C dX8_sign_98 ?_
    refine g_iconst (pc := 99) (v := 0) (by decide) C dX8_sign_99 ?_
    refine g_lconst (pc := 100) (v := 0) (by decide) C dX8_sign_100 ?_
    refine g_callVv (pc := 101) (As := [.int 13, .int l1, .int 0, .long 0]) C mv_RX8_185 (M_Mo_token t0 hD) t0 (by decide) rfl rfl (Nat.le_of_ble_eq_true rfl) dX8_sign_101 (fun h14 hD => ?_)
    refine g_iconst (pc := 104) (v := 1) (by decide) C dX8_sign_104 ?_
    exact g_iret (pc := 105) C R dX8_sign_105 hD
def DJ_Mo_sign_75 (r : TR) (l0 : Nat) (l1 : Int32) (l2 : Int32) (l4 : Int32) (h : TH) (Q : Int32 → TH → Prop) : Prop :=
  ((¬ l2 = 47 → DJ_Mo_sign_85 r l0 l1 l2 l4 h Q) ∧ (l2 = 47 → DJ_Mo_sign_85 r l0 l1 l2 15 h Q))
set_option maxRecDepth 100000 in
set_option maxHeartbeats 4000000 in
theorem WJ_Mo_sign_75 {Y : CG} {X : CX} {r : TR} {l0 : Nat} {l1 : Int32} {l2 : Int32} {l4 : Int32} {h : TH} {Q : Int32 → TH → Prop} (C : Gd Y X cX8_sign 5 RX8 2) (R : Ri Y r X .int Q) (t0 : TO Y l0 8) (hD : DJ_Mo_sign_75 r l0 l1 l2 l4 h  Q) : G Y X 5 75 [(0, .ref l0), (1, .int l1), (2, .int l2), (4, .int l4)] [] r h := by
  unfold DJ_Mo_sign_75 at hD
  refine g_wt (fun hw => ?_)
  refine g_iload_n (pc := 75) rfl 2 rfl C dX8_sign_75 ?_
  refine g_bipush (pc := 76) (v := 47) (by decide) C dX8_sign_76 ?_
  refine g_icmp_ne (pc := 78) 85 C dX8_sign_78 (by decide) (fun c9 => ?_) (fun c9 => ?_)
  · have hD := hD.1 c9
    refine g_sub [0, 1, 2, 3] rfl ?_
    exact WJ_Mo_sign_85 C R t0 hD
  · have hD := hD.2 c9
    refine g_bipush (pc := 81) (v := 15) (by decide) C dX8_sign_81 ?_
    refine g_istore (pc := 83) (fun _ => [(4, .int 15), (0, .ref l0), (1, .int l1), (2, .int l2)]) C dX8_sign_83 (by decide) rfl (fun _ _ => ?_)
    refine g_sub [1, 2, 3, 0] rfl ?_
    exact WJ_Mo_sign_85 C R t0 hD
def DJ_Mo_sign_65 (r : TR) (l0 : Nat) (l1 : Int32) (l2 : Int32) (l4 : Int32) (h : TH) (Q : Int32 → TH → Prop) : Prop :=
  ((¬ l2 = 42 → DJ_Mo_sign_75 r l0 l1 l2 l4 h Q) ∧ (l2 = 42 → DJ_Mo_sign_75 r l0 l1 l2 10 h Q))
set_option maxRecDepth 100000 in
set_option maxHeartbeats 4000000 in
theorem WJ_Mo_sign_65 {Y : CG} {X : CX} {r : TR} {l0 : Nat} {l1 : Int32} {l2 : Int32} {l4 : Int32} {h : TH} {Q : Int32 → TH → Prop} (C : Gd Y X cX8_sign 5 RX8 2) (R : Ri Y r X .int Q) (t0 : TO Y l0 8) (hD : DJ_Mo_sign_65 r l0 l1 l2 l4 h  Q) : G Y X 5 65 [(0, .ref l0), (1, .int l1), (2, .int l2), (4, .int l4)] [] r h := by
  unfold DJ_Mo_sign_65 at hD
  refine g_wt (fun hw => ?_)
  refine g_iload_n (pc := 65) rfl 2 rfl C dX8_sign_65 ?_
  refine g_bipush (pc := 66) (v := 42) (by decide) C dX8_sign_66 ?_
  refine g_icmp_ne (pc := 68) 75 C dX8_sign_68 (by decide) (fun c8 => ?_) (fun c8 => ?_)
  · have hD := hD.1 c8
    refine g_sub [0, 1, 2, 3] rfl ?_
    exact WJ_Mo_sign_75 C R t0 hD
  · have hD := hD.2 c8
    refine g_bipush (pc := 71) (v := 10) (by decide) C dX8_sign_71 ?_
    refine g_istore (pc := 73) (fun _ => [(4, .int 10), (0, .ref l0), (1, .int l1), (2, .int l2)]) C dX8_sign_73 (by decide) rfl (fun _ _ => ?_)
    refine g_sub [1, 2, 3, 0] rfl ?_
    exact WJ_Mo_sign_75 C R t0 hD
def DJ_Mo_sign_55 (r : TR) (l0 : Nat) (l1 : Int32) (l2 : Int32) (l4 : Int32) (h : TH) (Q : Int32 → TH → Prop) : Prop :=
  ((¬ l2 = 45 → DJ_Mo_sign_65 r l0 l1 l2 l4 h Q) ∧ (l2 = 45 → DJ_Mo_sign_65 r l0 l1 l2 9 h Q))
set_option maxRecDepth 100000 in
set_option maxHeartbeats 4000000 in
theorem WJ_Mo_sign_55 {Y : CG} {X : CX} {r : TR} {l0 : Nat} {l1 : Int32} {l2 : Int32} {l4 : Int32} {h : TH} {Q : Int32 → TH → Prop} (C : Gd Y X cX8_sign 5 RX8 2) (R : Ri Y r X .int Q) (t0 : TO Y l0 8) (hD : DJ_Mo_sign_55 r l0 l1 l2 l4 h  Q) : G Y X 5 55 [(0, .ref l0), (1, .int l1), (2, .int l2), (4, .int l4)] [] r h := by
  unfold DJ_Mo_sign_55 at hD
  refine g_wt (fun hw => ?_)
  refine g_iload_n (pc := 55) rfl 2 rfl C dX8_sign_55 ?_
  refine g_bipush (pc := 56) (v := 45) (by decide) C dX8_sign_56 ?_
  refine g_icmp_ne (pc := 58) 65 C dX8_sign_58 (by decide) (fun c7 => ?_) (fun c7 => ?_)
  · have hD := hD.1 c7
    refine g_sub [0, 1, 2, 3] rfl ?_
    exact WJ_Mo_sign_65 C R t0 hD
  · have hD := hD.2 c7
    refine g_bipush (pc := 61) (v := 9) (by decide) C dX8_sign_61 ?_
    refine g_istore (pc := 63) (fun _ => [(4, .int 9), (0, .ref l0), (1, .int l1), (2, .int l2)]) C dX8_sign_63 (by decide) rfl (fun _ _ => ?_)
    refine g_sub [1, 2, 3, 0] rfl ?_
    exact WJ_Mo_sign_65 C R t0 hD
def DJ_Mo_sign_43 (r : TR) (l0 : Nat) (l1 : Int32) (l2 : Int32) (s0 : Int32) (h : TH) (Q : Int32 → TH → Prop) : Prop :=
  ((¬ l2 = 43 → DJ_Mo_sign_55 r l0 l1 l2 s0 h Q) ∧ (l2 = 43 → DJ_Mo_sign_55 r l0 l1 l2 8 h Q))
set_option maxRecDepth 100000 in
set_option maxHeartbeats 4000000 in
theorem WJ_Mo_sign_43 {Y : CG} {X : CX} {r : TR} {l0 : Nat} {l1 : Int32} {l2 : Int32} {s0 : Int32} {h : TH} {Q : Int32 → TH → Prop} (C : Gd Y X cX8_sign 5 RX8 2) (R : Ri Y r X .int Q) (t0 : TO Y l0 8) (hD : DJ_Mo_sign_43 r l0 l1 l2 s0 h  Q) : G Y X 5 43 [(0, .ref l0), (1, .int l1), (2, .int l2)] [.int s0] r h := by
  unfold DJ_Mo_sign_43 at hD
  refine g_wt (fun hw => ?_)
  refine g_istore (pc := 43) (fun _ => [(4, .int s0), (0, .ref l0), (1, .int l1), (2, .int l2)]) C dX8_sign_43 (by decide) rfl (fun _ _ => ?_)
  refine g_iload_n (pc := 45) rfl 3 rfl C dX8_sign_45 ?_
  refine g_bipush (pc := 46) (v := 43) (by decide) C dX8_sign_46 ?_
  refine g_icmp_ne (pc := 48) 55 C dX8_sign_48 (by decide) (fun c6 => ?_) (fun c6 => ?_)
  · have hD := hD.1 c6
    refine g_sub [1, 2, 3, 0] rfl ?_
    exact WJ_Mo_sign_55 C R t0 hD
  · have hD := hD.2 c6
    refine g_bipush (pc := 51) (v := 8) (by decide) C dX8_sign_51 ?_
    refine g_istore (pc := 53) (fun _ => [(4, .int 8), (0, .ref l0), (1, .int l1), (2, .int l2)]) C dX8_sign_53 (by decide) rfl (fun _ _ => ?_)
    refine g_sub [1, 2, 3, 0] rfl ?_
    exact WJ_Mo_sign_55 C R t0 hD
def D_Mo_sign (r : TR) (o : Nat) (a1 : Int32) (a2 : Int32) (a3 : Int32) (h : TH) (Q : Int32 → TH → Prop) : Prop :=
  ((¬ a2 = 59 → ((¬ a2 = 61 → ((¬ a2 = 40 → ((¬ a2 = 41 → DJ_Mo_sign_43 r o a1 a2 3 h Q) ∧ (a2 = 41 → DJ_Mo_sign_43 r o a1 a2 7 h Q))) ∧ (a2 = 40 → DJ_Mo_sign_43 r o a1 a2 6 h Q))) ∧ (a2 = 61 → DJ_Mo_sign_43 r o a1 a2 5 h Q))) ∧ (a2 = 59 → DJ_Mo_sign_43 r o a1 a2 4 h Q))
set_option maxRecDepth 100000 in
set_option maxHeartbeats 4000000 in
theorem M_Mo_sign {Y : CG} {r : TR} {l : Launch} {o : Nat} {a1 : Int32} {a2 : Int32} {a3 : Int32} {h : TH} {Q : Int32 → TH → Prop} (t0 : TO Y o 8) (hD : D_Mo_sign r o a1 a2 a3 h Q) : Mi Y r l yX8_sign cX8_sign 5 .int 2 [.ref o, .int a1, .int a2, .int a3] h Q := by
  unfold D_Mo_sign at hD
  refine Mi.of RX8 rfl (by decide) (by simp [lg_sl, Value.category]) [(0, .ref o), (1, .int a1), (2, .int a2), (3, .int a3)] rfl (fun X hXl C R => ?_)
  subst hXl
  refine g_wt (fun hw => ?_)
  refine g_iload_n (pc := 0) rfl 2 rfl C dX8_sign_0 ?_
  refine g_bipush (pc := 1) (v := 59) (by decide) C dX8_sign_1 ?_
  refine g_icmp_ne (pc := 3) 10 C dX8_sign_3 (by decide) (fun c1 => ?_) (fun c1 => ?_)
  · have hD := hD.1 c1
    refine g_iload_n (pc := 10) rfl 2 rfl C dX8_sign_10 ?_
    refine g_bipush (pc := 11) (v := 61) (by decide) C dX8_sign_11 ?_
    refine g_icmp_ne (pc := 13) 20 C dX8_sign_13 (by decide) (fun c2 => ?_) (fun c2 => ?_)
    · have hD := hD.1 c2
      refine g_iload_n (pc := 20) rfl 2 rfl C dX8_sign_20 ?_
      refine g_bipush (pc := 21) (v := 40) (by decide) C dX8_sign_21 ?_
      refine g_icmp_ne (pc := 23) 31 C dX8_sign_23 (by decide) (fun c3 => ?_) (fun c3 => ?_)
      · have hD := hD.1 c3
        refine g_iload_n (pc := 31) rfl 2 rfl C dX8_sign_31 ?_
        refine g_bipush (pc := 32) (v := 41) (by decide) C dX8_sign_32 ?_
        refine g_icmp_ne (pc := 34) 42 C dX8_sign_34 (by decide) (fun c4 => ?_) (fun c4 => ?_)
        · have hD := hD.1 c4
          refine g_iconst (pc := 42) (v := 3) (by decide) C dX8_sign_42 ?_
          refine g_sub [0, 1, 2] rfl ?_
          exact WJ_Mo_sign_43 C R t0 hD
        · have hD := hD.2 c4
          refine g_bipush (pc := 37) (v := 7) (by decide) C dX8_sign_37 ?_
          refine g_goto (pc := 39) 43 C dX8_sign_39 (by decide) ?_
          refine g_sub [0, 1, 2] rfl ?_
          exact WJ_Mo_sign_43 C R t0 hD
      · have hD := hD.2 c3
        refine g_bipush (pc := 26) (v := 6) (by decide) C dX8_sign_26 ?_
        refine g_goto (pc := 28) 43 C dX8_sign_28 (by decide) ?_
        refine g_sub [0, 1, 2] rfl ?_
        exact WJ_Mo_sign_43 C R t0 hD
    · have hD := hD.2 c2
      refine g_iconst (pc := 16) (v := 5) (by decide) C dX8_sign_16 ?_
      refine g_goto (pc := 17) 43 C dX8_sign_17 (by decide) ?_
      refine g_sub [0, 1, 2] rfl ?_
      exact WJ_Mo_sign_43 C R t0 hD
  · have hD := hD.2 c1
    refine g_iconst (pc := 6) (v := 4) (by decide) C dX8_sign_6 ?_
    refine g_goto (pc := 7) 43 C dX8_sign_7 (by decide) ?_
    refine g_sub [0, 1, 2] rfl ?_
    exact WJ_Mo_sign_43 C R t0 hD
def DB_Mo_cut_208 (r : TR) (l0 : Nat) (l1 : Int32) (l3 : Int32) (l4 : Int32) (h : TH) (K7 : Int32 → TH → Prop) (K208 : Int32 → Int32 → TH → Prop) (K250 : Int32 → Int32 → TH → Prop) (K294 : TH → Prop) (Q : TH → Prop) : Prop :=
  D_Mo_byteAt r l0 (l1 + l3) h (fun x29 h28 => D_Mo_isDigit r x29 h28 (fun x31 h30 => ((x31 = 0 → K250 l3 l4 h30) ∧ (¬ x31 = 0 → ((4 ≤ l3 → ∀ x34 : Int32, x34 = l3 + 1 → K208 x34 l4 h30) ∧ (¬ 4 ≤ l3 → D_Mo_byteAt r l0 (l1 + l3) h30 (fun x36 h35 => ∀ x37 : Int32, x37 = ((10 * l4) + x36) - 48 → ∀ x38 : Int32, x38 = l3 + 1 → K208 x38 x37 h35)))))))
set_option maxRecDepth 100000 in
set_option maxHeartbeats 4000000 in
theorem WB_Mo_cut_208 {Y : CG} {X : CX} {r : TR} {l0 : Nat} {l1 : Int32} {l3 : Int32} {l4 : Int32} {h : TH} {K7 : Int32 → TH → Prop} {K208 : Int32 → Int32 → TH → Prop} {K250 : Int32 → Int32 → TH → Prop} {K294 : TH → Prop} {Q : TH → Prop} (C : Gd Y X cX8_cut 8 RX8 3) (R : Rv Y r X Q) (t0 : TO Y l0 8) (hK7 : ∀ (k1 : Int32) (hh : TH), K7 k1 hh → G Y X 8 7 [(0, .ref l0), (1, .int k1)] [] r hh) (hK208 : ∀ (k3 : Int32) (k4 : Int32) (hh : TH), K208 k3 k4 hh → G Y X 8 208 [(0, .ref l0), (1, .int l1), (3, .int k3), (4, .int k4)] [] r hh) (hK250 : ∀ (k3 : Int32) (k4 : Int32) (hh : TH), K250 k3 k4 hh → G Y X 8 250 [(0, .ref l0), (1, .int l1), (3, .int k3), (4, .int k4)] [] r hh) (hK294 : ∀ (hh : TH), K294 hh → G Y X 8 294 [] [] r hh) (hD : DB_Mo_cut_208 r l0 l1 l3 l4 h K7 K208 K250 K294 Q) : G Y X 8 208 [(0, .ref l0), (1, .int l1), (3, .int l3), (4, .int l4)] [] r h := by
  unfold DB_Mo_cut_208 at hD
  refine g_wt (fun hw => ?_)
  refine g_aload_n (pc := 208) rfl 0 rfl C dX8_cut_208 ?_
  refine g_iload_n (pc := 209) rfl 1 rfl C dX8_cut_209 ?_
  refine g_iload_n (pc := 210) rfl 2 rfl C dX8_cut_210 ?_
  refine g_iadd (pc := 211) C dX8_cut_211 ?_
  refine g_callVi (pc := 212) (As := [.int (l1 + l3)]) C mv_RX8_181 (M_Mo_byteAt t0 hD) t0 (by decide) rfl rfl (Nat.le_of_ble_eq_true rfl) dX8_cut_212 (fun x29 h28 hD => ?_)
  refine g_callSi (pc := 215) (As := [.int x29]) C ms_RX8_193 (M_Mo_isDigit  hD) (by decide) rfl rfl (Nat.le_of_ble_eq_true rfl) dX8_cut_215 (fun x31 h30 hD => ?_)
  refine g_if_eq (pc := 218) 250 C dX8_cut_218 (by decide) (fun c32 => ?_) (fun c32 => ?_)
  · have hD := hD.1 c32
    refine g_sub [0, 1, 2, 3] rfl ?_
    exact hK250 l3 l4 h30 hD
  · have hD := hD.2 c32
    refine g_iload_n (pc := 221) rfl 2 rfl C dX8_cut_221 ?_
    refine g_iconst (pc := 222) (v := 4) (by decide) C dX8_cut_222 ?_
    refine g_icmp_ge (pc := 223) 244 C dX8_cut_223 (by decide) (fun c33 => ?_) (fun c33 => ?_)
    · have hD := hD.1 c33
      refine g_iinc (pc := 244) (q := 2) (c := 1) (fun x34 => [(3, .int x34), (0, .ref l0), (1, .int l1), (4, .int l4)]) C dX8_cut_244 rfl (by decide) (by decide) rfl (fun x34 ex34 => ?_)
      have hD := hD x34 ex34
      refine g_goto (pc := 247) 208 C dX8_cut_247 (by decide) ?_
      refine g_sub [1, 2, 0, 3] rfl ?_
      exact hK208 x34 l4 h30 hD
    · have hD := hD.2 c33
      refine g_bipush (pc := 226) (v := 10) (by decide) C dX8_cut_226 ?_
      refine g_iload (pc := 228) 3 rfl C dX8_cut_228 ?_
      refine g_imul (pc := 230) C dX8_cut_230 ?_
      refine g_aload_n (pc := 231) rfl 0 rfl C dX8_cut_231 ?_
      refine g_iload_n (pc := 232) rfl 1 rfl C dX8_cut_232 ?_
      refine g_iload_n (pc := 233) rfl 2 rfl C dX8_cut_233 ?_
      refine g_iadd (pc := 234) C dX8_cut_234 ?_
      refine g_callVi (pc := 235) (As := [.int (l1 + l3)]) C mv_RX8_181 (M_Mo_byteAt t0 hD) t0 (by decide) rfl rfl (Nat.le_of_ble_eq_true rfl) dX8_cut_235 (fun x36 h35 hD => ?_)
      refine g_iadd (pc := 238) C dX8_cut_238 ?_
      refine g_bipush (pc := 239) (v := 48) (by decide) C dX8_cut_239 ?_
      refine g_isub (pc := 241) C dX8_cut_241 ?_
      refine g_istore (pc := 242) (fun x37 => [(4, .int x37), (0, .ref l0), (1, .int l1), (3, .int l3)]) C dX8_cut_242 (by decide) rfl (fun x37 ex37 => ?_)
      have hD := hD x37 ex37
      refine g_iinc (pc := 244) (q := 3) (c := 1) (fun x38 => [(3, .int x38), (4, .int x37), (0, .ref l0), (1, .int l1)]) C dX8_cut_244 rfl (by decide) (by decide) rfl (fun x38 ex38 => ?_)
      have hD := hD x38 ex38
      refine g_goto (pc := 247) 208 C dX8_cut_247 (by decide) ?_
      refine g_sub [2, 3, 0, 1] rfl ?_
      exact hK208 x38 x37 h35 hD
def DJ_Mo_cut_261 (r : TR) (l0 : Nat) (l1 : Int32) (l3 : Int32) (l4 : Int32) (s0 : Int32) (s1 : Nat) (h : TH) (K7 : Int32 → TH → Prop) (K294 : TH → Prop) (Q : TH → Prop) : Prop :=
  D_Mo_token r s1 s0 l1 l4 0 h (fun h46 => ∀ x48 : Int32, x48 = l1 + l3 → K7 x48 h46)
set_option maxRecDepth 100000 in
set_option maxHeartbeats 4000000 in
theorem WJ_Mo_cut_261 {Y : CG} {X : CX} {r : TR} {l0 : Nat} {l1 : Int32} {l3 : Int32} {l4 : Int32} {s0 : Int32} {s1 : Nat} {h : TH} {K7 : Int32 → TH → Prop} {K294 : TH → Prop} {Q : TH → Prop} (C : Gd Y X cX8_cut 8 RX8 3) (R : Rv Y r X Q) (t0 : TO Y l0 8) (ts1 : TO Y s1 8) (hK7 : ∀ (k1 : Int32) (hh : TH), K7 k1 hh → G Y X 8 7 [(0, .ref l0), (1, .int k1)] [] r hh) (hK294 : ∀ (hh : TH), K294 hh → G Y X 8 294 [] [] r hh) (hD : DJ_Mo_cut_261 r l0 l1 l3 l4 s0 s1 h K7 K294 Q) : G Y X 8 261 [(0, .ref l0), (1, .int l1), (3, .int l3), (4, .int l4)] [.int s0, .ref s1] r h := by
  unfold DJ_Mo_cut_261 at hD
  refine g_wt (fun hw => ?_)
  refine g_iload_n (pc := 261) rfl 1 rfl C dX8_cut_261 ?_
  refine g_iload (pc := 262) 3 rfl C dX8_cut_262 ?_
  refine g_lconst (pc := 264) (v := 0) (by decide) C dX8_cut_264 ?_
  refine g_callVv (pc := 265) (As := [.int s0, .int l1, .int l4, .long 0]) C mv_RX8_185 (M_Mo_token ts1 hD) ts1 (by decide) rfl rfl (Nat.le_of_ble_eq_true rfl) dX8_cut_265 (fun h46 hD => ?_)
  refine g_iload_n (pc := 268) rfl 1 rfl C dX8_cut_268 ?_
  refine g_iload_n (pc := 269) rfl 2 rfl C dX8_cut_269 ?_
  refine g_iadd (pc := 270) C dX8_cut_270 ?_
  refine g_istore_n (pc := 271) (fun x48 => [(1, .int x48), (0, .ref l0), (3, .int l3), (4, .int l4)]) C dX8_cut_271 rfl (by decide) rfl (fun x48 ex48 => ?_)
  have hD := hD x48 ex48
  refine g_goto (pc := 272) 291 C dX8_cut_272 (by decide) ?_
  refine g_goto (pc := 291) 7 C dX8_cut_291 (by decide) ?_
  refine g_sub [1, 0] rfl ?_
  exact hK7 x48 h46 hD
def DB_Mo_cut_85 (r : TR) (l0 : Nat) (l1 : Int32) (l3 : Int32) (l4 : Int64) (h : TH) (K7 : Int32 → TH → Prop) (K85 : Int32 → Int64 → TH → Prop) (K124 : Int32 → Int64 → TH → Prop) (K294 : TH → Prop) (Q : TH → Prop) : Prop :=
  D_Mo_byteAt r l0 (l1 + l3) h (fun x52 h51 => D_Mo_isLetter r x52 h51 (fun x54 h53 => ((x54 = 0 → K124 l3 l4 h53) ∧ (¬ x54 = 0 → ((8 ≤ l3 → ∀ x57 : Int32, x57 = l3 + 1 → K85 x57 l4 h53) ∧ (¬ 8 ≤ l3 → D_Mo_byteAt r l0 (l1 + l3) h53 (fun x59 h58 => D_Mo_appends r l4 x59 h58 (fun x61 h60 => ∀ x63 : Int32, x63 = l3 + 1 → K85 x63 x61 h60))))))))
set_option maxRecDepth 100000 in
set_option maxHeartbeats 4000000 in
theorem WB_Mo_cut_85 {Y : CG} {X : CX} {r : TR} {l0 : Nat} {l1 : Int32} {l3 : Int32} {l4 : Int64} {h : TH} {K7 : Int32 → TH → Prop} {K85 : Int32 → Int64 → TH → Prop} {K124 : Int32 → Int64 → TH → Prop} {K294 : TH → Prop} {Q : TH → Prop} (C : Gd Y X cX8_cut 8 RX8 3) (R : Rv Y r X Q) (t0 : TO Y l0 8) (hK7 : ∀ (k1 : Int32) (hh : TH), K7 k1 hh → G Y X 8 7 [(0, .ref l0), (1, .int k1)] [] r hh) (hK85 : ∀ (k3 : Int32) (k4 : Int64) (hh : TH), K85 k3 k4 hh → G Y X 8 85 [(0, .ref l0), (1, .int l1), (3, .int k3), (4, .long k4)] [] r hh) (hK124 : ∀ (k3 : Int32) (k4 : Int64) (hh : TH), K124 k3 k4 hh → G Y X 8 124 [(0, .ref l0), (1, .int l1), (3, .int k3), (4, .long k4)] [] r hh) (hK294 : ∀ (hh : TH), K294 hh → G Y X 8 294 [] [] r hh) (hD : DB_Mo_cut_85 r l0 l1 l3 l4 h K7 K85 K124 K294 Q) : G Y X 8 85 [(0, .ref l0), (1, .int l1), (3, .int l3), (4, .long l4)] [] r h := by
  unfold DB_Mo_cut_85 at hD
  refine g_wt (fun hw => ?_)
  refine g_aload_n (pc := 85) rfl 0 rfl C dX8_cut_85 ?_
  refine g_iload_n (pc := 86) rfl 1 rfl C dX8_cut_86 ?_
  refine g_iload_n (pc := 87) rfl 2 rfl C dX8_cut_87 ?_
  refine g_iadd (pc := 88) C dX8_cut_88 ?_
  refine g_callVi (pc := 89) (As := [.int (l1 + l3)]) C mv_RX8_181 (M_Mo_byteAt t0 hD) t0 (by decide) rfl rfl (Nat.le_of_ble_eq_true rfl) dX8_cut_89 (fun x52 h51 hD => ?_)
  refine g_callSi (pc := 92) (As := [.int x52]) C ms_RX8_189 (M_Mo_isLetter  hD) (by decide) rfl rfl (Nat.le_of_ble_eq_true rfl) dX8_cut_92 (fun x54 h53 hD => ?_)
  refine g_if_eq (pc := 95) 124 C dX8_cut_95 (by decide) (fun c55 => ?_) (fun c55 => ?_)
  · have hD := hD.1 c55
    refine g_sub [0, 1, 2, 3] rfl ?_
    exact hK124 l3 l4 h53 hD
  · have hD := hD.2 c55
    refine g_iload_n (pc := 98) rfl 2 rfl C dX8_cut_98 ?_
    refine g_bipush (pc := 99) (v := 8) (by decide) C dX8_cut_99 ?_
    refine g_icmp_ge (pc := 101) 118 C dX8_cut_101 (by decide) (fun c56 => ?_) (fun c56 => ?_)
    · have hD := hD.1 c56
      refine g_iinc (pc := 118) (q := 2) (c := 1) (fun x57 => [(3, .int x57), (0, .ref l0), (1, .int l1), (4, .long l4)]) C dX8_cut_118 rfl (by decide) (by decide) rfl (fun x57 ex57 => ?_)
      have hD := hD x57 ex57
      refine g_goto (pc := 121) 85 C dX8_cut_121 (by decide) ?_
      refine g_sub [1, 2, 0, 3] rfl ?_
      exact hK85 x57 l4 h53 hD
    · have hD := hD.2 c56
      refine g_lload (pc := 104) 3 rfl C dX8_cut_104 ?_
      refine g_aload_n (pc := 106) rfl 0 rfl C dX8_cut_106 ?_
      refine g_iload_n (pc := 107) rfl 1 rfl C dX8_cut_107 ?_
      refine g_iload_n (pc := 108) rfl 2 rfl C dX8_cut_108 ?_
      refine g_iadd (pc := 109) C dX8_cut_109 ?_
      refine g_callVi (pc := 110) (As := [.int (l1 + l3)]) C mv_RX8_181 (M_Mo_byteAt t0 hD) t0 (by decide) rfl rfl (Nat.le_of_ble_eq_true rfl) dX8_cut_110 (fun x59 h58 hD => ?_)
      refine g_callSl (pc := 113) (As := [.long l4, .int x59]) C ms_RX8_174 (M_Mo_appends  hD) (by decide) rfl rfl (Nat.le_of_ble_eq_true rfl) dX8_cut_113 (fun x61 h60 hD => ?_)
      refine g_lstore (pc := 116) (fun _ => [(4, .long x61), (0, .ref l0), (1, .int l1), (3, .int l3)]) C dX8_cut_116 (by decide) rfl (fun _ _ => ?_)
      refine g_iinc (pc := 118) (q := 3) (c := 1) (fun x63 => [(3, .int x63), (4, .long x61), (0, .ref l0), (1, .int l1)]) C dX8_cut_118 rfl (by decide) (by decide) rfl (fun x63 ex63 => ?_)
      have hD := hD x63 ex63
      refine g_goto (pc := 121) 85 C dX8_cut_121 (by decide) ?_
      refine g_sub [2, 3, 0, 1] rfl ?_
      exact hK85 x63 x61 h60 hD
def DJ_Mo_cut_179 (r : TR) (l0 : Nat) (l1 : Int32) (l3 : Int32) (l4 : Int64) (l6 : Int32) (h : TH) (K7 : Int32 → TH → Prop) (K294 : TH → Prop) (Q : TH → Prop) : Prop :=
  D_Mo_token r l0 l6 l1 0 l4 h (fun h73 => ∀ x75 : Int32, x75 = l1 + l3 → K7 x75 h73)
set_option maxRecDepth 100000 in
set_option maxHeartbeats 4000000 in
theorem WJ_Mo_cut_179 {Y : CG} {X : CX} {r : TR} {l0 : Nat} {l1 : Int32} {l3 : Int32} {l4 : Int64} {l6 : Int32} {h : TH} {K7 : Int32 → TH → Prop} {K294 : TH → Prop} {Q : TH → Prop} (C : Gd Y X cX8_cut 8 RX8 3) (R : Rv Y r X Q) (t0 : TO Y l0 8) (hK7 : ∀ (k1 : Int32) (hh : TH), K7 k1 hh → G Y X 8 7 [(0, .ref l0), (1, .int k1)] [] r hh) (hK294 : ∀ (hh : TH), K294 hh → G Y X 8 294 [] [] r hh) (hD : DJ_Mo_cut_179 r l0 l1 l3 l4 l6 h K7 K294 Q) : G Y X 8 179 [(0, .ref l0), (1, .int l1), (3, .int l3), (4, .long l4), (6, .int l6)] [] r h := by
  unfold DJ_Mo_cut_179 at hD
  refine g_wt (fun hw => ?_)
  refine g_aload_n (pc := 179) rfl 0 rfl C dX8_cut_179 ?_
  refine g_iload (pc := 180) 4 rfl C dX8_cut_180 ?_
  refine g_iload_n (pc := 182) rfl 1 rfl C dX8_cut_182 ?_
  refine g_iconst (pc := 183) (v := 0) (by decide) C dX8_cut_183 ?_
  refine g_lload (pc := 184) 3 rfl C dX8_cut_184 ?_
  refine g_callVv (pc := 186) (As := [.int l6, .int l1, .int 0, .long l4]) C mv_RX8_185 (M_Mo_token t0 hD) t0 (by decide) rfl rfl (Nat.le_of_ble_eq_true rfl) dX8_cut_186 (fun h73 hD => ?_)
  refine g_iload_n (pc := 189) rfl 1 rfl C dX8_cut_189 ?_
  refine g_iload_n (pc := 190) rfl 2 rfl C dX8_cut_190 ?_
  refine g_iadd (pc := 191) C dX8_cut_191 ?_
  refine g_istore_n (pc := 192) (fun x75 => [(1, .int x75), (0, .ref l0), (3, .int l3), (4, .long l4), (6, .int l6)]) C dX8_cut_192 rfl (by decide) rfl (fun x75 ex75 => ?_)
  have hD := hD x75 ex75
  refine g_goto (pc := 193) 291 C dX8_cut_193 (by decide) ?_
  refine g_goto (pc := 291) 7 C dX8_cut_291 (by decide) ?_
  refine g_sub [1, 0] rfl ?_
  exact hK7 x75 h73 hD
def DB_Mo_cut_146 (r : TR) (l0 : Nat) (l1 : Int32) (l3 : Int32) (l4 : Int64) (l6 : Int32) (l7 : Int32) (h : TH) (K7 : Int32 → TH → Prop) (K146 : Int32 → Int32 → TH → Prop) (K179 : Int32 → TH → Prop) (K294 : TH → Prop) (Q : TH → Prop) : Prop :=
  ((19 ≤ l7 → K179 l6 h) ∧ (¬ 19 ≤ l7 → vp_in l7 19 ∧ ((¬ (lg_cmp (h.2 (r l0 9) l7.toNatClampNeg) l4) = 0 → ∀ x80 : Int32, x80 = l7 + 1 → K146 l6 x80 h) ∧ ((lg_cmp (h.2 (r l0 9) l7.toNatClampNeg) l4) = 0 → ∀ x81 : Int32, x81 = 20 + l7 → ∀ x82 : Int32, x82 = l7 + 1 → K146 x81 x82 h))))
set_option maxRecDepth 100000 in
set_option maxHeartbeats 4000000 in
theorem WB_Mo_cut_146 {Y : CG} {X : CX} {r : TR} {l0 : Nat} {l1 : Int32} {l3 : Int32} {l4 : Int64} {l6 : Int32} {l7 : Int32} {h : TH} {K7 : Int32 → TH → Prop} {K146 : Int32 → Int32 → TH → Prop} {K179 : Int32 → TH → Prop} {K294 : TH → Prop} {Q : TH → Prop} (C : Gd Y X cX8_cut 8 RX8 3) (R : Rv Y r X Q) (t0 : TO Y l0 8) (hK7 : ∀ (k1 : Int32) (hh : TH), K7 k1 hh → G Y X 8 7 [(0, .ref l0), (1, .int k1)] [] r hh) (hK146 : ∀ (k6 : Int32) (k7 : Int32) (hh : TH), K146 k6 k7 hh → G Y X 8 146 [(0, .ref l0), (1, .int l1), (3, .int l3), (4, .long l4), (6, .int k6), (7, .int k7)] [] r hh) (hK179 : ∀ (k6 : Int32) (hh : TH), K179 k6 hh → G Y X 8 179 [(0, .ref l0), (1, .int l1), (3, .int l3), (4, .long l4), (6, .int k6)] [] r hh) (hK294 : ∀ (hh : TH), K294 hh → G Y X 8 294 [] [] r hh) (hD : DB_Mo_cut_146 r l0 l1 l3 l4 l6 l7 h K7 K146 K179 K294 Q) : G Y X 8 146 [(0, .ref l0), (1, .int l1), (3, .int l3), (4, .long l4), (6, .int l6), (7, .int l7)] [] r h := by
  unfold DB_Mo_cut_146 at hD
  refine g_wt (fun hw => ?_)
  refine g_iload (pc := 146) 5 rfl C dX8_cut_146 ?_
  refine g_bipush (pc := 148) (v := 19) (by decide) C dX8_cut_148 ?_
  refine g_icmp_ge (pc := 150) 179 C dX8_cut_150 (by decide) (fun c77 => ?_) (fun c77 => ?_)
  · have hD := hD.1 c77
    refine g_sub [0, 1, 2, 3, 4] rfl ?_
    exact hK179 l6 h hD
  · have hD := hD.2 c77
    refine g_aload_n (pc := 153) rfl 0 rfl C dX8_cut_153 ?_
    have u78 : TA Y (r l0 9) 11 19 := wt_a hw t0 (by decide) (by decide) rfl
    refine g_getR (pc := 154) C fl_RX8_34 t0 rfl dX8_cut_154 ?_
    refine g_iload (pc := 157) 5 rfl C dX8_cut_157 ?_
    obtain ⟨hb, hD⟩ := hD
    refine g_lald (pc := 159) C u78 hb dX8_cut_159 ?_
    refine g_lload (pc := 160) 3 rfl C dX8_cut_160 ?_
    refine g_lcmp (pc := 162) C dX8_cut_162 ?_
    refine g_if_ne (pc := 163) 173 C dX8_cut_163 (by decide) (fun c79 => ?_) (fun c79 => ?_)
    · have hD := hD.1 c79
      refine g_iinc (pc := 173) (q := 5) (c := 1) (fun x80 => [(7, .int x80), (0, .ref l0), (1, .int l1), (3, .int l3), (4, .long l4), (6, .int l6)]) C dX8_cut_173 rfl (by decide) (by decide) rfl (fun x80 ex80 => ?_)
      have hD := hD x80 ex80
      refine g_goto (pc := 176) 146 C dX8_cut_176 (by decide) ?_
      refine g_sub [1, 2, 3, 4, 5, 0] rfl ?_
      exact hK146 l6 x80 h hD
    · have hD := hD.2 c79
      refine g_bipush (pc := 166) (v := 20) (by decide) C dX8_cut_166 ?_
      refine g_iload (pc := 168) 5 rfl C dX8_cut_168 ?_
      refine g_iadd (pc := 170) C dX8_cut_170 ?_
      refine g_istore (pc := 171) (fun x81 => [(6, .int x81), (0, .ref l0), (1, .int l1), (3, .int l3), (4, .long l4), (7, .int l7)]) C dX8_cut_171 (by decide) rfl (fun x81 ex81 => ?_)
      have hD := hD x81 ex81
      refine g_iinc (pc := 173) (q := 5) (c := 1) (fun x82 => [(7, .int x82), (6, .int x81), (0, .ref l0), (1, .int l1), (3, .int l3), (4, .long l4)]) C dX8_cut_173 rfl (by decide) (by decide) rfl (fun x82 ex82 => ?_)
      have hD := hD x82 ex82
      refine g_goto (pc := 176) 146 C dX8_cut_176 (by decide) ?_
      refine g_sub [2, 3, 4, 5, 1, 0] rfl ?_
      exact hK146 x81 x82 h hD
def DJ_Mo_cut_135 (r : TR) (l0 : Nat) (l1 : Int32) (l3 : Int32) (l4 : Int64) (s0 : Int32) (h : TH) (K7 : Int32 → TH → Prop) (K294 : TH → Prop) (Q : TH → Prop) : Prop :=
  ((7 < l3 → DJ_Mo_cut_179 r l0 l1 l3 l4 s0 h (K7) (K294) Q) ∧ (¬ 7 < l3 → ∃ n, lp (fun (K : Int32 × Int32 × TH → Prop) (s : Int32 × Int32 × TH) => DB_Mo_cut_146 r l0 l1 l3 l4 s.1 s.2.1 s.2.2 K7 (fun y83 y84 h85 => K (y83, y84, h85)) (fun x86 h87 => DJ_Mo_cut_179 r l0 l1 l3 l4 x86 h87 (K7) (K294) Q) K294 Q) n (s0, 0, h)))
set_option maxRecDepth 100000 in
set_option maxHeartbeats 4000000 in
theorem WJ_Mo_cut_135 {Y : CG} {X : CX} {r : TR} {l0 : Nat} {l1 : Int32} {l3 : Int32} {l4 : Int64} {s0 : Int32} {h : TH} {K7 : Int32 → TH → Prop} {K294 : TH → Prop} {Q : TH → Prop} (C : Gd Y X cX8_cut 8 RX8 3) (R : Rv Y r X Q) (t0 : TO Y l0 8) (hK7 : ∀ (k1 : Int32) (hh : TH), K7 k1 hh → G Y X 8 7 [(0, .ref l0), (1, .int k1)] [] r hh) (hK294 : ∀ (hh : TH), K294 hh → G Y X 8 294 [] [] r hh) (hD : DJ_Mo_cut_135 r l0 l1 l3 l4 s0 h K7 K294 Q) : G Y X 8 135 [(0, .ref l0), (1, .int l1), (3, .int l3), (4, .long l4)] [.int s0] r h := by
  unfold DJ_Mo_cut_135 at hD
  refine g_wt (fun hw => ?_)
  refine g_istore (pc := 135) (fun _ => [(6, .int s0), (0, .ref l0), (1, .int l1), (3, .int l3), (4, .long l4)]) C dX8_cut_135 (by decide) rfl (fun _ _ => ?_)
  refine g_iload_n (pc := 137) rfl 3 rfl C dX8_cut_137 ?_
  refine g_bipush (pc := 138) (v := 7) (by decide) C dX8_cut_138 ?_
  refine g_icmp_gt (pc := 140) 179 C dX8_cut_140 (by decide) (fun c72 => ?_) (fun c72 => ?_)
  · have hD := hD.1 c72
    refine g_sub [1, 2, 3, 4, 0] rfl ?_
    exact WJ_Mo_cut_179 C R t0 (hK7) (hK294) hD
  · have hD := hD.2 c72
    refine g_iconst (pc := 143) (v := 0) (by decide) C dX8_cut_143 ?_
    refine g_istore (pc := 144) (fun _ => [(7, .int 0), (6, .int s0), (0, .ref l0), (1, .int l1), (3, .int l3), (4, .long l4)]) C dX8_cut_144 (by decide) rfl (fun _ _ => ?_)
    obtain ⟨n, hD⟩ := hD
    refine g_sub [2, 3, 4, 5, 1, 0] rfl ?_
    refine lp_run (fun s : Int32 × Int32 × TH => G Y X 8 146 [(0, .ref l0), (1, .int l1), (3, .int l3), (4, .long l4), (6, .int s.1), (7, .int s.2.1)] [] r s.2.2) (fun K s hB hK => ?_) n (s0, 0, h) hD
    refine WB_Mo_cut_146 C R t0 hK7 (fun y83 y84 h85 hk => hK _ hk) (fun x86 h87 hD => ?_) hK294 hB
    · refine g_sub [0, 1, 2, 3, 4] rfl ?_
      exact WJ_Mo_cut_179 C R t0 (hK7) (hK294) hD
def DB_Mo_cut_7 (r : TR) (l0 : Nat) (l1 : Int32) (h : TH) (K7 : Int32 → TH → Prop) (K294 : TH → Prop) (Q : TH → Prop) : Prop :=
  ((400 < (h.1 l0 10) → K294 h) ∧ (¬ 400 < (h.1 l0 10) → D_Mo_byteAt r l0 l1 h (fun x5 h4 => ((l1 < (h4.1 l0 4) → ((x5 = 9 → ∀ x9 : Int32, x9 = l1 + 1 → K7 x9 h4) ∧ (¬ x5 = 9 → ((x5 = 10 → ∀ x11 : Int32, x11 = l1 + 1 → K7 x11 h4) ∧ (¬ x5 = 10 → ((x5 = 13 → ∀ x13 : Int32, x13 = l1 + 1 → K7 x13 h4) ∧ (¬ x5 = 13 → ((¬ x5 = 32 → D_Mo_isLetter r x5 h4 (fun x16 h15 => ((x16 = 0 → D_Mo_isDigit r x5 h15 (fun x19 h18 => ((x19 = 0 → D_Mo_byteAt r l0 (l1 + 1) h18 (fun x22 h21 => D_Mo_sign r l0 l1 x5 x22 h21 (fun x24 h23 => ∀ x25 : Int32, x25 = l1 + x24 → K7 x25 h23))) ∧ (¬ x19 = 0 → ∃ n, lp (fun (K : Int32 × Int32 × TH → Prop) (s : Int32 × Int32 × TH) => DB_Mo_cut_208 r l0 l1 s.1 s.2.1 s.2.2 K7 (fun y39 y40 h41 => K (y39, y40, h41)) (fun x42 x43 h44 => ((x42 ≤ 4 → DJ_Mo_cut_261 r l0 l1 x42 x43 2 l0 h44 (K7) (K294) Q) ∧ (¬ x42 ≤ 4 → DJ_Mo_cut_261 r l0 l1 x42 x43 3 l0 h44 (K7) (K294) Q))) K294 Q) n (0, 0, h18))))) ∧ (¬ x16 = 0 → ∃ n, lp (fun (K : Int32 × Int64 × TH → Prop) (s : Int32 × Int64 × TH) => DB_Mo_cut_85 r l0 l1 s.1 s.2.1 s.2.2 K7 (fun y64 y65 h66 => K (y64, y65, h66)) (fun x67 x68 h69 => ((x67 ≤ 8 → DJ_Mo_cut_135 r l0 l1 x67 x68 1 h69 (K7) (K294) Q) ∧ (¬ x67 ≤ 8 → DJ_Mo_cut_135 r l0 l1 x67 x68 3 h69 (K7) (K294) Q))) K294 Q) n (0, 0, h15))))) ∧ (x5 = 32 → ∀ x88 : Int32, x88 = l1 + 1 → K7 x88 h4))))))))) ∧ (¬ l1 < (h4.1 l0 4) → D_Mo_token r l0 0 (h4.1 l0 4) 0 0 h4 (fun h89 => Q h89))))))
set_option maxRecDepth 100000 in
set_option maxHeartbeats 4000000 in
theorem WB_Mo_cut_7 {Y : CG} {X : CX} {r : TR} {l0 : Nat} {l1 : Int32} {h : TH} {K7 : Int32 → TH → Prop} {K294 : TH → Prop} {Q : TH → Prop} (C : Gd Y X cX8_cut 8 RX8 3) (R : Rv Y r X Q) (t0 : TO Y l0 8) (hK7 : ∀ (k1 : Int32) (hh : TH), K7 k1 hh → G Y X 8 7 [(0, .ref l0), (1, .int k1)] [] r hh) (hK294 : ∀ (hh : TH), K294 hh → G Y X 8 294 [] [] r hh) (hD : DB_Mo_cut_7 r l0 l1 h K7 K294 Q) : G Y X 8 7 [(0, .ref l0), (1, .int l1)] [] r h := by
  unfold DB_Mo_cut_7 at hD
  refine g_wt (fun hw => ?_)
  refine g_aload_n (pc := 7) rfl 0 rfl C dX8_cut_7 ?_
  refine g_getI (pc := 8) C fl_RX8_178 t0 rfl dX8_cut_8 ?_
  refine g_sipush (pc := 11) (v := 400) (by decide) C dX8_cut_11 ?_
  refine g_icmp_gt (pc := 14) 294 C dX8_cut_14 (by decide) (fun c3 => ?_) (fun c3 => ?_)
  · have hD := hD.1 c3
    refine g_sub [] rfl ?_
    exact hK294 h hD
  · have hD := hD.2 c3
    refine g_aload_n (pc := 17) rfl 0 rfl C dX8_cut_17 ?_
    refine g_iload_n (pc := 18) rfl 1 rfl C dX8_cut_18 ?_
    refine g_callVi (pc := 19) (As := [.int l1]) C mv_RX8_181 (M_Mo_byteAt t0 hD) t0 (by decide) rfl rfl (Nat.le_of_ble_eq_true rfl) dX8_cut_19 (fun x5 h4 hD => ?_)
    refine g_istore_n (pc := 22) (fun _ => [(2, .int x5), (0, .ref l0), (1, .int l1)]) C dX8_cut_22 rfl (by decide) rfl (fun _ _ => ?_)
    refine g_iload_n (pc := 23) rfl 2 rfl C dX8_cut_23 ?_
    refine g_aload_n (pc := 24) rfl 1 rfl C dX8_cut_24 ?_
    refine g_getI (pc := 25) C fl_RX8_169 t0 rfl dX8_cut_25 ?_
    refine g_icmp_lt (pc := 28) 43 C dX8_cut_28 (by decide) (fun c7 => ?_) (fun c7 => ?_)
    · have hD := hD.1 c7
      refine g_iload_n (pc := 43) rfl 0 rfl C dX8_cut_43 ?_
      refine g_bipush (pc := 44) (v := 9) (by decide) C dX8_cut_44 ?_
      refine g_icmp_eq (pc := 46) 67 C dX8_cut_46 (by decide) (fun c8 => ?_) (fun c8 => ?_)
      · have hD := hD.1 c8
        refine g_iinc (pc := 67) (q := 2) (c := 1) (fun x9 => [(1, .int x9), (2, .int x5), (0, .ref l0)]) C dX8_cut_67 rfl (by decide) (by decide) rfl (fun x9 ex9 => ?_)
        have hD := hD x9 ex9
        refine g_goto (pc := 70) 291 C dX8_cut_70 (by decide) ?_
        refine g_goto (pc := 291) 7 C dX8_cut_291 (by decide) ?_
        refine g_sub [2, 0] rfl ?_
        exact hK7 x9 h4 hD
      · have hD := hD.2 c8
        refine g_iload_n (pc := 49) rfl 0 rfl C dX8_cut_49 ?_
        refine g_bipush (pc := 50) (v := 10) (by decide) C dX8_cut_50 ?_
        refine g_icmp_eq (pc := 52) 67 C dX8_cut_52 (by decide) (fun c10 => ?_) (fun c10 => ?_)
        · have hD := hD.1 c10
          refine g_iinc (pc := 67) (q := 2) (c := 1) (fun x11 => [(1, .int x11), (2, .int x5), (0, .ref l0)]) C dX8_cut_67 rfl (by decide) (by decide) rfl (fun x11 ex11 => ?_)
          have hD := hD x11 ex11
          refine g_goto (pc := 70) 291 C dX8_cut_70 (by decide) ?_
          refine g_goto (pc := 291) 7 C dX8_cut_291 (by decide) ?_
          refine g_sub [2, 0] rfl ?_
          exact hK7 x11 h4 hD
        · have hD := hD.2 c10
          refine g_iload_n (pc := 55) rfl 0 rfl C dX8_cut_55 ?_
          refine g_bipush (pc := 56) (v := 13) (by decide) C dX8_cut_56 ?_
          refine g_icmp_eq (pc := 58) 67 C dX8_cut_58 (by decide) (fun c12 => ?_) (fun c12 => ?_)
          · have hD := hD.1 c12
            refine g_iinc (pc := 67) (q := 2) (c := 1) (fun x13 => [(1, .int x13), (2, .int x5), (0, .ref l0)]) C dX8_cut_67 rfl (by decide) (by decide) rfl (fun x13 ex13 => ?_)
            have hD := hD x13 ex13
            refine g_goto (pc := 70) 291 C dX8_cut_70 (by decide) ?_
            refine g_goto (pc := 291) 7 C dX8_cut_291 (by decide) ?_
            refine g_sub [2, 0] rfl ?_
            exact hK7 x13 h4 hD
          · have hD := hD.2 c12
            refine g_iload_n (pc := 61) rfl 0 rfl C dX8_cut_61 ?_
            refine g_bipush (pc := 62) (v := 32) (by decide) C dX8_cut_62 ?_
            refine g_icmp_ne (pc := 64) 73 C dX8_cut_64 (by decide) (fun c14 => ?_) (fun c14 => ?_)
            · have hD := hD.1 c14
              refine g_iload_n (pc := 73) rfl 0 rfl C dX8_cut_73 ?_
              refine g_callSi (pc := 74) (As := [.int x5]) C ms_RX8_189 (M_Mo_isLetter  hD) (by decide) rfl rfl (Nat.le_of_ble_eq_true rfl) dX8_cut_74 (fun x16 h15 hD => ?_)
              refine g_if_eq (pc := 77) 196 C dX8_cut_77 (by decide) (fun c17 => ?_) (fun c17 => ?_)
              · have hD := hD.1 c17
                refine g_iload_n (pc := 196) rfl 0 rfl C dX8_cut_196 ?_
                refine g_callSi (pc := 197) (As := [.int x5]) C ms_RX8_193 (M_Mo_isDigit  hD) (by decide) rfl rfl (Nat.le_of_ble_eq_true rfl) dX8_cut_197 (fun x19 h18 hD => ?_)
                refine g_if_eq (pc := 200) 275 C dX8_cut_200 (by decide) (fun c20 => ?_) (fun c20 => ?_)
                · have hD := hD.1 c20
                  refine g_iload_n (pc := 275) rfl 2 rfl C dX8_cut_275 ?_
                  refine g_aload_n (pc := 276) rfl 1 rfl C dX8_cut_276 ?_
                  refine g_iload_n (pc := 277) rfl 2 rfl C dX8_cut_277 ?_
                  refine g_iload_n (pc := 278) rfl 0 rfl C dX8_cut_278 ?_
                  refine g_aload_n (pc := 279) rfl 1 rfl C dX8_cut_279 ?_
                  refine g_iload_n (pc := 280) rfl 2 rfl C dX8_cut_280 ?_
                  refine g_iconst (pc := 281) (v := 1) (by decide) C dX8_cut_281 ?_
                  refine g_iadd (pc := 282) C dX8_cut_282 ?_
                  refine g_callVi (pc := 283) (As := [.int (l1 + 1)]) C mv_RX8_181 (M_Mo_byteAt t0 hD) t0 (by decide) rfl rfl (Nat.le_of_ble_eq_true rfl) dX8_cut_283 (fun x22 h21 hD => ?_)
                  refine g_callVi (pc := 286) (As := [.int l1, .int x5, .int x22]) C mv_RX8_196 (M_Mo_sign t0 hD) t0 (by decide) rfl rfl (Nat.le_of_ble_eq_true rfl) dX8_cut_286 (fun x24 h23 hD => ?_)
                  refine g_iadd (pc := 289) C dX8_cut_289 ?_
                  refine g_istore_n (pc := 290) (fun x25 => [(1, .int x25), (2, .int x5), (0, .ref l0)]) C dX8_cut_290 rfl (by decide) rfl (fun x25 ex25 => ?_)
                  have hD := hD x25 ex25
                  refine g_goto (pc := 291) 7 C dX8_cut_291 (by decide) ?_
                  refine g_sub [2, 0] rfl ?_
                  exact hK7 x25 h23 hD
                · have hD := hD.2 c20
                  refine g_iconst (pc := 203) (v := 0) (by decide) C dX8_cut_203 ?_
                  refine g_istore_n (pc := 204) (fun _ => [(3, .int 0), (2, .int x5), (0, .ref l0), (1, .int l1)]) C dX8_cut_204 rfl (by decide) rfl (fun _ _ => ?_)
                  refine g_iconst (pc := 205) (v := 0) (by decide) C dX8_cut_205 ?_
                  refine g_istore (pc := 206) (fun _ => [(4, .int 0), (3, .int 0), (2, .int x5), (0, .ref l0), (1, .int l1)]) C dX8_cut_206 (by decide) rfl (fun _ _ => ?_)
                  obtain ⟨n, hD⟩ := hD
                  refine g_sub [3, 4, 1, 0] rfl ?_
                  refine lp_run (fun s : Int32 × Int32 × TH => G Y X 8 208 [(0, .ref l0), (1, .int l1), (3, .int s.1), (4, .int s.2.1)] [] r s.2.2) (fun K s hB hK => ?_) n (0, 0, h18) hD
                  refine WB_Mo_cut_208 C R t0 hK7 (fun y39 y40 h41 hk => hK _ hk) (fun x42 x43 h44 hD => ?_) hK294 hB
                  · refine g_aload_n (pc := 250) rfl 0 rfl C dX8_cut_250 ?_
                    refine g_iload_n (pc := 251) rfl 2 rfl C dX8_cut_251 ?_
                    refine g_iconst (pc := 252) (v := 4) (by decide) C dX8_cut_252 ?_
                    refine g_icmp_le (pc := 253) 260 C dX8_cut_253 (by decide) (fun c45 => ?_) (fun c45 => ?_)
                    · have hD := hD.1 c45
                      refine g_iconst (pc := 260) (v := 2) (by decide) C dX8_cut_260 ?_
                      refine g_sub [0, 1, 2, 3] rfl ?_
                      exact WJ_Mo_cut_261 C R t0 t0 (hK7) (hK294) hD
                    · have hD := hD.2 c45
                      refine g_iconst (pc := 256) (v := 3) (by decide) C dX8_cut_256 ?_
                      refine g_goto (pc := 257) 261 C dX8_cut_257 (by decide) ?_
                      refine g_sub [0, 1, 2, 3] rfl ?_
                      exact WJ_Mo_cut_261 C R t0 t0 (hK7) (hK294) hD
              · have hD := hD.2 c17
                refine g_iconst (pc := 80) (v := 0) (by decide) C dX8_cut_80 ?_
                refine g_istore_n (pc := 81) (fun _ => [(3, .int 0), (2, .int x5), (0, .ref l0), (1, .int l1)]) C dX8_cut_81 rfl (by decide) rfl (fun _ _ => ?_)
                refine g_lconst (pc := 82) (v := 0) (by decide) C dX8_cut_82 ?_
                refine g_lstore (pc := 83) (fun _ => [(4, .long 0), (3, .int 0), (2, .int x5), (0, .ref l0), (1, .int l1)]) C dX8_cut_83 (by decide) rfl (fun _ _ => ?_)
                obtain ⟨n, hD⟩ := hD
                refine g_sub [3, 4, 1, 0] rfl ?_
                refine lp_run (fun s : Int32 × Int64 × TH => G Y X 8 85 [(0, .ref l0), (1, .int l1), (3, .int s.1), (4, .long s.2.1)] [] r s.2.2) (fun K s hB hK => ?_) n (0, 0, h15) hD
                refine WB_Mo_cut_85 C R t0 hK7 (fun y64 y65 h66 hk => hK _ hk) (fun x67 x68 h69 hD => ?_) hK294 hB
                · refine g_iload_n (pc := 124) rfl 2 rfl C dX8_cut_124 ?_
                  refine g_bipush (pc := 125) (v := 8) (by decide) C dX8_cut_125 ?_
                  refine g_icmp_le (pc := 127) 134 C dX8_cut_127 (by decide) (fun c70 => ?_) (fun c70 => ?_)
                  · have hD := hD.1 c70
                    refine g_iconst (pc := 134) (v := 1) (by decide) C dX8_cut_134 ?_
                    refine g_sub [0, 1, 2, 3] rfl ?_
                    exact WJ_Mo_cut_135 C R t0 (hK7) (hK294) hD
                  · have hD := hD.2 c70
                    refine g_iconst (pc := 130) (v := 3) (by decide) C dX8_cut_130 ?_
                    refine g_goto (pc := 131) 135 C dX8_cut_131 (by decide) ?_
                    refine g_sub [0, 1, 2, 3] rfl ?_
                    exact WJ_Mo_cut_135 C R t0 (hK7) (hK294) hD
            · have hD := hD.2 c14
              refine g_iinc (pc := 67) (q := 2) (c := 1) (fun x88 => [(1, .int x88), (2, .int x5), (0, .ref l0)]) C dX8_cut_67 rfl (by decide) (by decide) rfl (fun x88 ex88 => ?_)
              have hD := hD x88 ex88
              refine g_goto (pc := 70) 291 C dX8_cut_70 (by decide) ?_
              refine g_goto (pc := 291) 7 C dX8_cut_291 (by decide) ?_
              refine g_sub [2, 0] rfl ?_
              exact hK7 x88 h4 hD
    · have hD := hD.2 c7
      refine g_aload_n (pc := 31) rfl 1 rfl C dX8_cut_31 ?_
      refine g_iconst (pc := 32) (v := 0) (by decide) C dX8_cut_32 ?_
      refine g_aload_n (pc := 33) rfl 1 rfl C dX8_cut_33 ?_
      refine g_getI (pc := 34) C fl_RX8_169 t0 rfl dX8_cut_34 ?_
      refine g_iconst (pc := 37) (v := 0) (by decide) C dX8_cut_37 ?_
      refine g_lconst (pc := 38) (v := 0) (by decide) C dX8_cut_38 ?_
      refine g_callVv (pc := 39) (As := [.int 0, .int (h4.1 l0 4), .int 0, .long 0]) C mv_RX8_185 (M_Mo_token t0 hD) t0 (by decide) rfl rfl (Nat.le_of_ble_eq_true rfl) dX8_cut_39 (fun h89 hD => ?_)
      exact g_vret (pc := 42) C R dX8_cut_42 hD
def D_Mo_cut (r : TR) (o : Nat) (h : TH) (Q : TH → Prop) : Prop :=
  ∀ h1, h1 = pI h o 10 0 → ∃ n, lp (fun (K : Int32 × TH → Prop) (s : Int32 × TH) => DB_Mo_cut_7 r o s.1 s.2 (fun y91 h92 => K (y91, h92)) (fun h93 => Q h93) Q) n (0, h1)
set_option maxRecDepth 100000 in
set_option maxHeartbeats 4000000 in
theorem M_Mo_cut {Y : CG} {r : TR} {l : Launch} {o : Nat} {h : TH} {Q : TH → Prop} (t0 : TO Y o 8) (hD : D_Mo_cut r o h Q) : Mv Y r l yX8_cut cX8_cut 8 3 [.ref o] h Q := by
  unfold D_Mo_cut at hD
  refine Mv.of RX8 rfl (by decide) (by simp [lg_sl, Value.category]) [(0, .ref o)] rfl (fun X hXl C R => ?_)
  subst hXl
  refine g_wt (fun hw => ?_)
  refine g_aload_n (pc := 0) rfl 0 rfl C dX8_cut_0 ?_
  refine g_iconst (pc := 1) (v := 0) (by decide) C dX8_cut_1 ?_
  refine g_putI (pc := 2) C fl_RX8_178 t0 rfl rfl rfl dX8_cut_2 (fun h1 eh1 => ?_)
  have hD := hD h1 eh1
  refine g_iconst (pc := 5) (v := 0) (by decide) C dX8_cut_5 ?_
  refine g_istore_n (pc := 6) (fun _ => [(1, .int 0), (0, .ref o)]) C dX8_cut_6 rfl (by decide) rfl (fun _ _ => ?_)
  obtain ⟨n, hD⟩ := hD
  refine g_sub [1, 0] rfl ?_
  refine lp_run (fun s : Int32 × TH => G Y X 8 7 [(0, .ref o), (1, .int s.1)] [] r s.2) (fun K s hB hK => ?_) n (0, h1) hD
  refine WB_Mo_cut_7 C R t0 (fun y91 h92 hk => hK _ hk) (fun h93 hD => ?_) hB
  · exact g_vret (pc := 294) C R dX8_cut_294 hD
def D_Mo_unit (r : TR) (o : Nat) (h : TH) (Q : TH → Prop) : Prop :=
  D_Mo_is r o 2 h (fun x2 h1 => ((x2 = 0 → ((¬ (h1.1 o 13) = 0 → D_Mo_fail r o 1 h1 (fun h5 => Q h5)) ∧ ((h1.1 o 13) = 0 → ∀ i8 : Int32, i8 = h1.1 o 11 → vp_in i8 403 ∧ (((h1.1 (r o 5) i8.toNatClampNeg) < 30 → D_Mo_fail r o 1 h1 (fun h10 => Q h10)) ∧ (¬ (h1.1 (r o 5) i8.toNatClampNeg) < 30 → ∀ i13 : Int32, i13 = h1.1 o 11 → vp_in i13 403 ∧ ((38 < (h1.1 (r o 5) i13.toNatClampNeg) → D_Mo_fail r o 1 h1 (fun h15 => Q h15)) ∧ (¬ 38 < (h1.1 (r o 5) i13.toNatClampNeg) → ∀ i18 : Int32, i18 = h1.1 o 11 → vp_in i18 403 ∧ D_Mo_emit r o 1 ((h1.1 (r o 5) i18.toNatClampNeg) - 30) h1 (fun h19 => D_Mo_goesOn r o h19 (fun h21 => Q h21))))))))) ∧ (¬ x2 = 0 → ∀ i24 : Int32, i24 = h1.1 o 11 → vp_in i24 403 ∧ D_Mo_emit r o 0 (h1.1 (r o 7) i24.toNatClampNeg) h1 (fun h25 => D_Mo_goesOn r o h25 (fun h27 => Q h27)))))
set_option maxRecDepth 100000 in
set_option maxHeartbeats 4000000 in
theorem M_Mo_unit {Y : CG} {r : TR} {l : Launch} {o : Nat} {h : TH} {Q : TH → Prop} (t0 : TO Y o 8) (hD : D_Mo_unit r o h Q) : Mv Y r l yX8_unit cX8_unit 1 3 [.ref o] h Q := by
  unfold D_Mo_unit at hD
  refine Mv.of RX8 rfl (by decide) (by simp [lg_sl, Value.category]) [(0, .ref o)] rfl (fun X hXl C R => ?_)
  subst hXl
  refine g_wt (fun hw => ?_)
  refine g_aload_n (pc := 0) rfl 0 rfl C dX8_unit_0 ?_
  refine g_iconst (pc := 1) (v := 2) (by decide) C dX8_unit_1 ?_
  refine g_callVi (pc := 2) (As := [.int 2]) C mv_RX8_218 (M_Mo_is t0 hD) t0 (by decide) rfl rfl (Nat.le_of_ble_eq_true rfl) dX8_unit_2 (fun x2 h1 hD => ?_)
  refine g_if_eq (pc := 5) 29 C dX8_unit_5 (by decide) (fun c3 => ?_) (fun c3 => ?_)
  · have hD := hD.1 c3
    refine g_aload_n (pc := 29) rfl 0 rfl C dX8_unit_29 ?_
    refine g_getI (pc := 30) C fl_RX8_200 t0 rfl dX8_unit_30 ?_
    refine g_if_ne (pc := 33) 88 C dX8_unit_33 (by decide) (fun c4 => ?_) (fun c4 => ?_)
    · have hD := hD.1 c4
      refine g_aload_n (pc := 88) rfl 0 rfl C dX8_unit_88 ?_
      refine g_iconst (pc := 89) (v := 1) (by decide) C dX8_unit_89 ?_
      refine g_callVv (pc := 90) (As := [.int 1]) C mv_RX8_215 (M_Mo_fail t0 hD) t0 (by decide) rfl rfl (Nat.le_of_ble_eq_true rfl) dX8_unit_90 (fun h5 hD => ?_)
      exact g_vret (pc := 93) C R dX8_unit_93 hD
    · have hD := hD.2 c4
      refine g_aload_n (pc := 36) rfl 0 rfl C dX8_unit_36 ?_
      have u7 : TA Y (r o 5) 10 403 := wt_a hw t0 (by decide) (by decide) rfl
      refine g_getR (pc := 37) C fl_RX8_20 t0 rfl dX8_unit_37 ?_
      refine g_aload_n (pc := 40) rfl 0 rfl C dX8_unit_40 ?_
      refine g_getI (pc := 41) C fl_RX8_203 t0 rfl dX8_unit_41 ?_
      refine g_topi (fun i8 ei8 => ?_)
      have hD := hD i8 ei8
      obtain ⟨hb, hD⟩ := hD
      refine g_iald (pc := 44) C u7 hb dX8_unit_44 ?_
      refine g_bipush (pc := 45) (v := 30) (by decide) C dX8_unit_45 ?_
      refine g_icmp_lt (pc := 47) 88 C dX8_unit_47 (by decide) (fun c9 => ?_) (fun c9 => ?_)
      · have hD := hD.1 c9
        refine g_aload_n (pc := 88) rfl 0 rfl C dX8_unit_88 ?_
        refine g_iconst (pc := 89) (v := 1) (by decide) C dX8_unit_89 ?_
        refine g_callVv (pc := 90) (As := [.int 1]) C mv_RX8_215 (M_Mo_fail t0 hD) t0 (by decide) rfl rfl (Nat.le_of_ble_eq_true rfl) dX8_unit_90 (fun h10 hD => ?_)
        exact g_vret (pc := 93) C R dX8_unit_93 hD
      · have hD := hD.2 c9
        refine g_aload_n (pc := 50) rfl 0 rfl C dX8_unit_50 ?_
        have u12 : TA Y (r o 5) 10 403 := wt_a hw t0 (by decide) (by decide) rfl
        refine g_getR (pc := 51) C fl_RX8_20 t0 rfl dX8_unit_51 ?_
        refine g_aload_n (pc := 54) rfl 0 rfl C dX8_unit_54 ?_
        refine g_getI (pc := 55) C fl_RX8_203 t0 rfl dX8_unit_55 ?_
        refine g_topi (fun i13 ei13 => ?_)
        have hD := hD i13 ei13
        obtain ⟨hb, hD⟩ := hD
        refine g_iald (pc := 58) C u12 hb dX8_unit_58 ?_
        refine g_bipush (pc := 59) (v := 38) (by decide) C dX8_unit_59 ?_
        refine g_icmp_gt (pc := 61) 88 C dX8_unit_61 (by decide) (fun c14 => ?_) (fun c14 => ?_)
        · have hD := hD.1 c14
          refine g_aload_n (pc := 88) rfl 0 rfl C dX8_unit_88 ?_
          refine g_iconst (pc := 89) (v := 1) (by decide) C dX8_unit_89 ?_
          refine g_callVv (pc := 90) (As := [.int 1]) C mv_RX8_215 (M_Mo_fail t0 hD) t0 (by decide) rfl rfl (Nat.le_of_ble_eq_true rfl) dX8_unit_90 (fun h15 hD => ?_)
          exact g_vret (pc := 93) C R dX8_unit_93 hD
        · have hD := hD.2 c14
          refine g_aload_n (pc := 64) rfl 0 rfl C dX8_unit_64 ?_
          refine g_iconst (pc := 65) (v := 1) (by decide) C dX8_unit_65 ?_
          refine g_aload_n (pc := 66) rfl 0 rfl C dX8_unit_66 ?_
          have u17 : TA Y (r o 5) 10 403 := wt_a hw t0 (by decide) (by decide) rfl
          refine g_getR (pc := 67) C fl_RX8_20 t0 rfl dX8_unit_67 ?_
          refine g_aload_n (pc := 70) rfl 0 rfl C dX8_unit_70 ?_
          refine g_getI (pc := 71) C fl_RX8_203 t0 rfl dX8_unit_71 ?_
          refine g_topi (fun i18 ei18 => ?_)
          have hD := hD i18 ei18
          obtain ⟨hb, hD⟩ := hD
          refine g_iald (pc := 74) C u17 hb dX8_unit_74 ?_
          refine g_bipush (pc := 75) (v := 30) (by decide) C dX8_unit_75 ?_
          refine g_isub (pc := 77) C dX8_unit_77 ?_
          refine g_callVv (pc := 78) (As := [.int 1, .int ((h1.1 (r o 5) i18.toNatClampNeg) - 30)]) C mv_RX8_289 (M_Mo_emit t0 hD) t0 (by decide) rfl rfl (Nat.le_of_ble_eq_true rfl) dX8_unit_78 (fun h19 hD => ?_)
          refine g_aload_n (pc := 81) rfl 0 rfl C dX8_unit_81 ?_
          refine g_callVv (pc := 82) (As := []) C mv_RX8_221 (M_Mo_goesOn t0 hD) t0 (by decide) rfl rfl (Nat.le_of_ble_eq_true rfl) dX8_unit_82 (fun h21 hD => ?_)
          refine g_goto (pc := 85) 93 C dX8_unit_85 (by decide) ?_
          exact g_vret (pc := 93) C R dX8_unit_93 hD
  · have hD := hD.2 c3
    refine g_aload_n (pc := 8) rfl 0 rfl C dX8_unit_8 ?_
    refine g_iconst (pc := 9) (v := 0) (by decide) C dX8_unit_9 ?_
    refine g_aload_n (pc := 10) rfl 0 rfl C dX8_unit_10 ?_
    have u23 : TA Y (r o 7) 10 403 := wt_a hw t0 (by decide) (by decide) rfl
    refine g_getR (pc := 11) C fl_RX8_27 t0 rfl dX8_unit_11 ?_
    refine g_aload_n (pc := 14) rfl 0 rfl C dX8_unit_14 ?_
    refine g_getI (pc := 15) C fl_RX8_203 t0 rfl dX8_unit_15 ?_
    refine g_topi (fun i24 ei24 => ?_)
    have hD := hD i24 ei24
    obtain ⟨hb, hD⟩ := hD
    refine g_iald (pc := 18) C u23 hb dX8_unit_18 ?_
    refine g_callVv (pc := 19) (As := [.int 0, .int (h1.1 (r o 7) i24.toNatClampNeg)]) C mv_RX8_289 (M_Mo_emit t0 hD) t0 (by decide) rfl rfl (Nat.le_of_ble_eq_true rfl) dX8_unit_19 (fun h25 hD => ?_)
    refine g_aload_n (pc := 22) rfl 0 rfl C dX8_unit_22 ?_
    refine g_callVv (pc := 23) (As := []) C mv_RX8_221 (M_Mo_goesOn t0 hD) t0 (by decide) rfl rfl (Nat.le_of_ble_eq_true rfl) dX8_unit_23 (fun h27 hD => ?_)
    refine g_goto (pc := 26) 93 C dX8_unit_26 (by decide) ?_
    exact g_vret (pc := 93) C R dX8_unit_93 hD
def DJ_Mo_expression_46 (r : TR) (l0 : Nat) (l1 : Int32) (h : TH) (K12 : Int32 → TH → Prop) (K23 : TH → Prop) (K84 : TH → Prop) (K272 : TH → Prop) (Q : TH → Prop) : Prop :=
  ∀ h10, h10 = pI h l0 12 ((h.1 l0 12) + 1) → D_Mo_goesOn r l0 h10 (fun h11 => vp_in (h11.1 l0 44) 64 ∧ ∀ h14, h14 = pI h11 (r l0 43) ((h11.1 l0 44).toNatClampNeg) 6 → ∀ h15, h15 = pI h14 l0 44 ((h14.1 l0 44) + 1) → K23 h15)
set_option maxRecDepth 100000 in
set_option maxHeartbeats 4000000 in
theorem WJ_Mo_expression_46 {Y : CG} {X : CX} {r : TR} {l0 : Nat} {l1 : Int32} {h : TH} {K12 : Int32 → TH → Prop} {K23 : TH → Prop} {K84 : TH → Prop} {K272 : TH → Prop} {Q : TH → Prop} (C : Gd Y X cX8_expression 3 RX8 4) (R : Rv Y r X Q) (t0 : TO Y l0 8) (hK12 : ∀ (k2 : Int32) (hh : TH), K12 k2 hh → G Y X 3 12 [(0, .ref l0), (1, .int l1), (2, .int k2)] [] r hh) (hK23 : ∀ (hh : TH), K23 hh → G Y X 3 23 [(0, .ref l0), (1, .int l1)] [] r hh) (hK84 : ∀ (hh : TH), K84 hh → G Y X 3 84 [(0, .ref l0), (1, .int l1)] [] r hh) (hK272 : ∀ (hh : TH), K272 hh → G Y X 3 272 [] [] r hh) (hD : DJ_Mo_expression_46 r l0 l1 h K12 K23 K84 K272 Q) : G Y X 3 46 [(0, .ref l0), (1, .int l1)] [] r h := by
  unfold DJ_Mo_expression_46 at hD
  refine g_wt (fun hw => ?_)
  refine g_aload_n (pc := 46) rfl 0 rfl C dX8_expression_46 ?_
  refine g_dup (pc := 47) rfl C dX8_expression_47 ?_
  refine g_getI (pc := 48) C fl_RX8_227 t0 rfl dX8_expression_48 ?_
  refine g_iconst (pc := 51) (v := 1) (by decide) C dX8_expression_51 ?_
  refine g_iadd (pc := 52) C dX8_expression_52 ?_
  refine g_putI (pc := 53) C fl_RX8_227 t0 rfl rfl rfl dX8_expression_53 (fun h10 eh10 => ?_)
  have hD := hD h10 eh10
  refine g_aload_n (pc := 56) rfl 0 rfl C dX8_expression_56 ?_
  refine g_callVv (pc := 57) (As := []) C mv_RX8_221 (M_Mo_goesOn t0 hD) t0 (by decide) rfl rfl (Nat.le_of_ble_eq_true rfl) dX8_expression_57 (fun h11 hD => ?_)
  refine g_aload_n (pc := 60) rfl 0 rfl C dX8_expression_60 ?_
  have u13 : TA Y (r l0 43) 10 64 := wt_a hw t0 (by decide) (by decide) rfl
  refine g_getR (pc := 61) C fl_RX8_101 t0 rfl dX8_expression_61 ?_
  refine g_aload_n (pc := 64) rfl 0 rfl C dX8_expression_64 ?_
  refine g_getI (pc := 65) C fl_RX8_286 t0 rfl dX8_expression_65 ?_
  refine g_bipush (pc := 68) (v := 6) (by decide) C dX8_expression_68 ?_
  obtain ⟨hb, hD⟩ := hD
  refine g_iast (pc := 70) C u13 hb dX8_expression_70 (fun h14 eh14 => ?_)
  have hD := hD h14 eh14
  refine g_aload_n (pc := 71) rfl 0 rfl C dX8_expression_71 ?_
  refine g_dup (pc := 72) rfl C dX8_expression_72 ?_
  refine g_getI (pc := 73) C fl_RX8_286 t0 rfl dX8_expression_73 ?_
  refine g_iconst (pc := 76) (v := 1) (by decide) C dX8_expression_76 ?_
  refine g_iadd (pc := 77) C dX8_expression_77 ?_
  refine g_putI (pc := 78) C fl_RX8_286 t0 rfl rfl rfl dX8_expression_78 (fun h15 eh15 => ?_)
  have hD := hD h15 eh15
  refine g_goto (pc := 81) 23 C dX8_expression_81 (by decide) ?_
  refine g_sub [0, 1] rfl ?_
  exact hK23 h15 hD
def DB_Mo_expression_23 (r : TR) (l0 : Nat) (l1 : Int32) (h : TH) (K12 : Int32 → TH → Prop) (K23 : TH → Prop) (K84 : TH → Prop) (K272 : TH → Prop) (Q : TH → Prop) : Prop :=
  D_Mo_is r l0 6 h (fun x7 h6 => ((x7 = 0 → K84 h6) ∧ (¬ x7 = 0 → ((¬ (h6.1 l0 12) = 6 → DJ_Mo_expression_46 r l0 l1 h6 (K12) (K23) (K84) (K272) Q) ∧ ((h6.1 l0 12) = 6 → D_Mo_fail r l0 2 h6 (fun h16 => DJ_Mo_expression_46 r l0 l1 h16 (K12) (K23) (K84) (K272) Q))))))
set_option maxRecDepth 100000 in
set_option maxHeartbeats 4000000 in
theorem WB_Mo_expression_23 {Y : CG} {X : CX} {r : TR} {l0 : Nat} {l1 : Int32} {h : TH} {K12 : Int32 → TH → Prop} {K23 : TH → Prop} {K84 : TH → Prop} {K272 : TH → Prop} {Q : TH → Prop} (C : Gd Y X cX8_expression 3 RX8 4) (R : Rv Y r X Q) (t0 : TO Y l0 8) (hK12 : ∀ (k2 : Int32) (hh : TH), K12 k2 hh → G Y X 3 12 [(0, .ref l0), (1, .int l1), (2, .int k2)] [] r hh) (hK23 : ∀ (hh : TH), K23 hh → G Y X 3 23 [(0, .ref l0), (1, .int l1)] [] r hh) (hK84 : ∀ (hh : TH), K84 hh → G Y X 3 84 [(0, .ref l0), (1, .int l1)] [] r hh) (hK272 : ∀ (hh : TH), K272 hh → G Y X 3 272 [] [] r hh) (hD : DB_Mo_expression_23 r l0 l1 h K12 K23 K84 K272 Q) : G Y X 3 23 [(0, .ref l0), (1, .int l1)] [] r h := by
  unfold DB_Mo_expression_23 at hD
  refine g_wt (fun hw => ?_)
  refine g_aload_n (pc := 23) rfl 0 rfl C dX8_expression_23 ?_
  refine g_bipush (pc := 24) (v := 6) (by decide) C dX8_expression_24 ?_
  refine g_callVi (pc := 26) (As := [.int 6]) C mv_RX8_218 (M_Mo_is t0 hD) t0 (by decide) rfl rfl (Nat.le_of_ble_eq_true rfl) dX8_expression_26 (fun x7 h6 hD => ?_)
  refine g_if_eq (pc := 29) 84 C dX8_expression_29 (by decide) (fun c8 => ?_) (fun c8 => ?_)
  · have hD := hD.1 c8
    refine g_sub [0, 1] rfl ?_
    exact hK84 h6 hD
  · have hD := hD.2 c8
    refine g_aload_n (pc := 32) rfl 0 rfl C dX8_expression_32 ?_
    refine g_getI (pc := 33) C fl_RX8_227 t0 rfl dX8_expression_33 ?_
    refine g_bipush (pc := 36) (v := 6) (by decide) C dX8_expression_36 ?_
    refine g_icmp_ne (pc := 38) 46 C dX8_expression_38 (by decide) (fun c9 => ?_) (fun c9 => ?_)
    · have hD := hD.1 c9
      refine g_sub [0, 1] rfl ?_
      exact WJ_Mo_expression_46 C R t0 (hK12) (hK23) (hK84) (hK272) hD
    · have hD := hD.2 c9
      refine g_aload_n (pc := 41) rfl 0 rfl C dX8_expression_41 ?_
      refine g_iconst (pc := 42) (v := 2) (by decide) C dX8_expression_42 ?_
      refine g_callVv (pc := 43) (As := [.int 2]) C mv_RX8_215 (M_Mo_fail t0 hD) t0 (by decide) rfl rfl (Nat.le_of_ble_eq_true rfl) dX8_expression_43 (fun h16 hD => ?_)
      refine g_sub [0, 1] rfl ?_
      exact WJ_Mo_expression_46 C R t0 (hK12) (hK23) (hK84) (hK272) hD
def DB_Mo_expression_96 (r : TR) (l0 : Nat) (l1 : Int32) (h : TH) (K12 : Int32 → TH → Prop) (K96 : TH → Prop) (K145 : TH → Prop) (K272 : TH → Prop) (Q : TH → Prop) : Prop :=
  D_Mo_is r l0 7 h (fun x24 h23 => ((x24 = 0 → K145 h23) ∧ (¬ x24 = 0 → (((h23.1 l0 12) ≤ l1 → K145 h23) ∧ (¬ (h23.1 l0 12) ≤ l1 → D_Mo_comesOut r l0 0 h23 (fun h27 => ∀ h29, h29 = pI h27 l0 44 ((h27.1 l0 44) - 1) → ∀ h30, h30 = pI h29 l0 12 ((h29.1 l0 12) - 1) → D_Mo_goesOn r l0 h30 (fun h31 => K96 h31)))))))
set_option maxRecDepth 100000 in
set_option maxHeartbeats 4000000 in
theorem WB_Mo_expression_96 {Y : CG} {X : CX} {r : TR} {l0 : Nat} {l1 : Int32} {h : TH} {K12 : Int32 → TH → Prop} {K96 : TH → Prop} {K145 : TH → Prop} {K272 : TH → Prop} {Q : TH → Prop} (C : Gd Y X cX8_expression 3 RX8 4) (R : Rv Y r X Q) (t0 : TO Y l0 8) (hK12 : ∀ (k2 : Int32) (hh : TH), K12 k2 hh → G Y X 3 12 [(0, .ref l0), (1, .int l1), (2, .int k2)] [] r hh) (hK96 : ∀ (hh : TH), K96 hh → G Y X 3 96 [(0, .ref l0), (1, .int l1)] [] r hh) (hK145 : ∀ (hh : TH), K145 hh → G Y X 3 145 [(0, .ref l0), (1, .int l1)] [] r hh) (hK272 : ∀ (hh : TH), K272 hh → G Y X 3 272 [] [] r hh) (hD : DB_Mo_expression_96 r l0 l1 h K12 K96 K145 K272 Q) : G Y X 3 96 [(0, .ref l0), (1, .int l1)] [] r h := by
  unfold DB_Mo_expression_96 at hD
  refine g_wt (fun hw => ?_)
  refine g_aload_n (pc := 96) rfl 0 rfl C dX8_expression_96 ?_
  refine g_bipush (pc := 97) (v := 7) (by decide) C dX8_expression_97 ?_
  refine g_callVi (pc := 99) (As := [.int 7]) C mv_RX8_218 (M_Mo_is t0 hD) t0 (by decide) rfl rfl (Nat.le_of_ble_eq_true rfl) dX8_expression_99 (fun x24 h23 hD => ?_)
  refine g_if_eq (pc := 102) 145 C dX8_expression_102 (by decide) (fun c25 => ?_) (fun c25 => ?_)
  · have hD := hD.1 c25
    refine g_sub [0, 1] rfl ?_
    exact hK145 h23 hD
  · have hD := hD.2 c25
    refine g_aload_n (pc := 105) rfl 0 rfl C dX8_expression_105 ?_
    refine g_getI (pc := 106) C fl_RX8_227 t0 rfl dX8_expression_106 ?_
    refine g_iload_n (pc := 109) rfl 1 rfl C dX8_expression_109 ?_
    refine g_icmp_le (pc := 110) 145 C dX8_expression_110 (by decide) (fun c26 => ?_) (fun c26 => ?_)
    · have hD := hD.1 c26
      refine g_sub [0, 1] rfl ?_
      exact hK145 h23 hD
    · have hD := hD.2 c26
      refine g_aload_n (pc := 113) rfl 0 rfl C dX8_expression_113 ?_
      refine g_iconst (pc := 114) (v := 0) (by decide) C dX8_expression_114 ?_
      refine g_callVv (pc := 115) (As := [.int 0]) C mv_RX8_295 (M_Mo_comesOut t0 hD) t0 (by decide) rfl rfl (Nat.le_of_ble_eq_true rfl) dX8_expression_115 (fun h27 hD => ?_)
      refine g_aload_n (pc := 118) rfl 0 rfl C dX8_expression_118 ?_
      refine g_dup (pc := 119) rfl C dX8_expression_119 ?_
      refine g_getI (pc := 120) C fl_RX8_286 t0 rfl dX8_expression_120 ?_
      refine g_iconst (pc := 123) (v := 1) (by decide) C dX8_expression_123 ?_
      refine g_isub (pc := 124) C dX8_expression_124 ?_
      refine g_putI (pc := 125) C fl_RX8_286 t0 rfl rfl rfl dX8_expression_125 (fun h29 eh29 => ?_)
      have hD := hD h29 eh29
      refine g_aload_n (pc := 128) rfl 0 rfl C dX8_expression_128 ?_
      refine g_dup (pc := 129) rfl C dX8_expression_129 ?_
      refine g_getI (pc := 130) C fl_RX8_227 t0 rfl dX8_expression_130 ?_
      refine g_iconst (pc := 133) (v := 1) (by decide) C dX8_expression_133 ?_
      refine g_isub (pc := 134) C dX8_expression_134 ?_
      refine g_putI (pc := 135) C fl_RX8_227 t0 rfl rfl rfl dX8_expression_135 (fun h30 eh30 => ?_)
      have hD := hD h30 eh30
      refine g_aload_n (pc := 138) rfl 0 rfl C dX8_expression_138 ?_
      refine g_callVv (pc := 139) (As := []) C mv_RX8_221 (M_Mo_goesOn t0 hD) t0 (by decide) rfl rfl (Nat.le_of_ble_eq_true rfl) dX8_expression_139 (fun h31 hD => ?_)
      refine g_goto (pc := 142) 96 C dX8_expression_142 (by decide) ?_
      refine g_sub [0, 1] rfl ?_
      exact hK96 h31 hD
def DJ_Mo_expression_234 (r : TR) (l0 : Nat) (l1 : Int32) (l2 : Int32) (s0 : Int32) (s1 : Nat) (h : TH) (K12 : Int32 → TH → Prop) (K272 : TH → Prop) (Q : TH → Prop) : Prop :=
  D_Mo_comesOut r s1 s0 h (fun h43 => ∀ i47 : Int32, i47 = h43.1 l0 11 → vp_in i47 403 ∧ vp_in (h43.1 l0 44) 64 ∧ ∀ h48, h48 = pI h43 (r l0 43) ((h43.1 l0 44).toNatClampNeg) (h43.1 (r l0 5) i47.toNatClampNeg) → ∀ h49, h49 = pI h48 l0 44 ((h48.1 l0 44) + 1) → D_Mo_goesOn r l0 h49 (fun h50 => K12 l2 h50))
set_option maxRecDepth 100000 in
set_option maxHeartbeats 4000000 in
theorem WJ_Mo_expression_234 {Y : CG} {X : CX} {r : TR} {l0 : Nat} {l1 : Int32} {l2 : Int32} {s0 : Int32} {s1 : Nat} {h : TH} {K12 : Int32 → TH → Prop} {K272 : TH → Prop} {Q : TH → Prop} (C : Gd Y X cX8_expression 3 RX8 4) (R : Rv Y r X Q) (t0 : TO Y l0 8) (ts1 : TO Y s1 8) (hK12 : ∀ (k2 : Int32) (hh : TH), K12 k2 hh → G Y X 3 12 [(0, .ref l0), (1, .int l1), (2, .int k2)] [] r hh) (hK272 : ∀ (hh : TH), K272 hh → G Y X 3 272 [] [] r hh) (hD : DJ_Mo_expression_234 r l0 l1 l2 s0 s1 h K12 K272 Q) : G Y X 3 234 [(0, .ref l0), (1, .int l1), (2, .int l2)] [.int s0, .ref s1] r h := by
  unfold DJ_Mo_expression_234 at hD
  refine g_wt (fun hw => ?_)
  refine g_callVv (pc := 234) (As := [.int s0]) C mv_RX8_295 (M_Mo_comesOut ts1 hD) ts1 (by decide) rfl rfl (Nat.le_of_ble_eq_true rfl) dX8_expression_234 (fun h43 hD => ?_)
  refine g_aload_n (pc := 237) rfl 0 rfl C dX8_expression_237 ?_
  have u45 : TA Y (r l0 43) 10 64 := wt_a hw t0 (by decide) (by decide) rfl
  refine g_getR (pc := 238) C fl_RX8_101 t0 rfl dX8_expression_238 ?_
  refine g_aload_n (pc := 241) rfl 0 rfl C dX8_expression_241 ?_
  refine g_getI (pc := 242) C fl_RX8_286 t0 rfl dX8_expression_242 ?_
  refine g_aload_n (pc := 245) rfl 0 rfl C dX8_expression_245 ?_
  have u46 : TA Y (r l0 5) 10 403 := wt_a hw t0 (by decide) (by decide) rfl
  refine g_getR (pc := 246) C fl_RX8_20 t0 rfl dX8_expression_246 ?_
  refine g_aload_n (pc := 249) rfl 0 rfl C dX8_expression_249 ?_
  refine g_getI (pc := 250) C fl_RX8_203 t0 rfl dX8_expression_250 ?_
  refine g_topi (fun i47 ei47 => ?_)
  have hD := hD i47 ei47
  obtain ⟨hb, hD⟩ := hD
  refine g_iald (pc := 253) C u46 hb dX8_expression_253 ?_
  obtain ⟨hb, hD⟩ := hD
  refine g_iast (pc := 254) C u45 hb dX8_expression_254 (fun h48 eh48 => ?_)
  have hD := hD h48 eh48
  refine g_aload_n (pc := 255) rfl 0 rfl C dX8_expression_255 ?_
  refine g_dup (pc := 256) rfl C dX8_expression_256 ?_
  refine g_getI (pc := 257) C fl_RX8_286 t0 rfl dX8_expression_257 ?_
  refine g_iconst (pc := 260) (v := 1) (by decide) C dX8_expression_260 ?_
  refine g_iadd (pc := 261) C dX8_expression_261 ?_
  refine g_putI (pc := 262) C fl_RX8_286 t0 rfl rfl rfl dX8_expression_262 (fun h49 eh49 => ?_)
  have hD := hD h49 eh49
  refine g_aload_n (pc := 265) rfl 0 rfl C dX8_expression_265 ?_
  refine g_callVv (pc := 266) (As := []) C mv_RX8_221 (M_Mo_goesOn t0 hD) t0 (by decide) rfl rfl (Nat.le_of_ble_eq_true rfl) dX8_expression_266 (fun h50 hD => ?_)
  refine g_goto (pc := 269) 12 C dX8_expression_269 (by decide) ?_
  refine g_sub [0, 1, 2] rfl ?_
  exact hK12 l2 h50 hD
def DJ_Mo_expression_229 (r : TR) (l0 : Nat) (l1 : Int32) (l2 : Int32) (s0 : Nat) (h : TH) (K12 : Int32 → TH → Prop) (K272 : TH → Prop) (Q : TH → Prop) : Prop :=
  DJ_Mo_expression_234 r l0 l1 l2 1 s0 h (K12) (K272) Q
set_option maxRecDepth 100000 in
set_option maxHeartbeats 4000000 in
theorem WJ_Mo_expression_229 {Y : CG} {X : CX} {r : TR} {l0 : Nat} {l1 : Int32} {l2 : Int32} {s0 : Nat} {h : TH} {K12 : Int32 → TH → Prop} {K272 : TH → Prop} {Q : TH → Prop} (C : Gd Y X cX8_expression 3 RX8 4) (R : Rv Y r X Q) (t0 : TO Y l0 8) (ts0 : TO Y s0 8) (hK12 : ∀ (k2 : Int32) (hh : TH), K12 k2 hh → G Y X 3 12 [(0, .ref l0), (1, .int l1), (2, .int k2)] [] r hh) (hK272 : ∀ (hh : TH), K272 hh → G Y X 3 272 [] [] r hh) (hD : DJ_Mo_expression_229 r l0 l1 l2 s0 h K12 K272 Q) : G Y X 3 229 [(0, .ref l0), (1, .int l1), (2, .int l2)] [.ref s0] r h := by
  unfold DJ_Mo_expression_229 at hD
  refine g_wt (fun hw => ?_)
  refine g_iconst (pc := 229) (v := 1) (by decide) C dX8_expression_229 ?_
  refine g_goto (pc := 230) 234 C dX8_expression_230 (by decide) ?_
  refine g_sub [0, 1, 2] rfl ?_
  exact WJ_Mo_expression_234 C R t0 ts0 (hK12) (hK272) hD
def DJ_Mo_expression_186 (r : TR) (l0 : Nat) (l1 : Int32) (s0 : Int32) (h : TH) (K12 : Int32 → TH → Prop) (K272 : TH → Prop) (Q : TH → Prop) : Prop :=
  ((¬ s0 = 0 → D_Mo_is r l0 10 h (fun x41 h40 => ((¬ x41 = 0 → DJ_Mo_expression_229 r l0 l1 s0 l0 h40 (K12) (K272) Q) ∧ (x41 = 0 → D_Mo_is r l0 15 h40 (fun x53 h52 => ((x53 = 0 → DJ_Mo_expression_234 r l0 l1 s0 0 l0 h52 (K12) (K272) Q) ∧ (¬ x53 = 0 → DJ_Mo_expression_229 r l0 l1 s0 l0 h52 (K12) (K272) Q))))))) ∧ (s0 = 0 → (((h.1 l0 12) ≤ l1 → D_Mo_comesOut r l0 0 h (fun h56 => Q h56)) ∧ (¬ (h.1 l0 12) ≤ l1 → D_Mo_fail r l0 1 h (fun h58 => D_Mo_comesOut r l0 0 h58 (fun h60 => Q h60))))))
set_option maxRecDepth 100000 in
set_option maxHeartbeats 4000000 in
theorem WJ_Mo_expression_186 {Y : CG} {X : CX} {r : TR} {l0 : Nat} {l1 : Int32} {s0 : Int32} {h : TH} {K12 : Int32 → TH → Prop} {K272 : TH → Prop} {Q : TH → Prop} (C : Gd Y X cX8_expression 3 RX8 4) (R : Rv Y r X Q) (t0 : TO Y l0 8) (hK12 : ∀ (k2 : Int32) (hh : TH), K12 k2 hh → G Y X 3 12 [(0, .ref l0), (1, .int l1), (2, .int k2)] [] r hh) (hK272 : ∀ (hh : TH), K272 hh → G Y X 3 272 [] [] r hh) (hD : DJ_Mo_expression_186 r l0 l1 s0 h K12 K272 Q) : G Y X 3 186 [(0, .ref l0), (1, .int l1)] [.int s0] r h := by
  unfold DJ_Mo_expression_186 at hD
  refine g_wt (fun hw => ?_)
  refine g_istore_n (pc := 186) (fun _ => [(2, .int s0), (0, .ref l0), (1, .int l1)]) C dX8_expression_186 rfl (by decide) rfl (fun _ _ => ?_)
  refine g_iload_n (pc := 187) rfl 0 rfl C dX8_expression_187 ?_
  refine g_if_ne (pc := 188) 210 C dX8_expression_188 (by decide) (fun c39 => ?_) (fun c39 => ?_)
  · have hD := hD.1 c39
    refine g_aload_n (pc := 210) rfl 1 rfl C dX8_expression_210 ?_
    refine g_aload_n (pc := 211) rfl 1 rfl C dX8_expression_211 ?_
    refine g_bipush (pc := 212) (v := 10) (by decide) C dX8_expression_212 ?_
    refine g_callVi (pc := 214) (As := [.int 10]) C mv_RX8_218 (M_Mo_is t0 hD) t0 (by decide) rfl rfl (Nat.le_of_ble_eq_true rfl) dX8_expression_214 (fun x41 h40 hD => ?_)
    refine g_if_ne (pc := 217) 229 C dX8_expression_217 (by decide) (fun c42 => ?_) (fun c42 => ?_)
    · have hD := hD.1 c42
      refine g_sub [1, 2, 0] rfl ?_
      exact WJ_Mo_expression_229 C R t0 t0 (hK12) (hK272) hD
    · have hD := hD.2 c42
      refine g_aload_n (pc := 220) rfl 1 rfl C dX8_expression_220 ?_
      refine g_bipush (pc := 221) (v := 15) (by decide) C dX8_expression_221 ?_
      refine g_callVi (pc := 223) (As := [.int 15]) C mv_RX8_218 (M_Mo_is t0 hD) t0 (by decide) rfl rfl (Nat.le_of_ble_eq_true rfl) dX8_expression_223 (fun x53 h52 hD => ?_)
      refine g_if_eq (pc := 226) 233 C dX8_expression_226 (by decide) (fun c54 => ?_) (fun c54 => ?_)
      · have hD := hD.1 c54
        refine g_iconst (pc := 233) (v := 0) (by decide) C dX8_expression_233 ?_
        refine g_sub [1, 2, 0] rfl ?_
        exact WJ_Mo_expression_234 C R t0 t0 (hK12) (hK272) hD
      · have hD := hD.2 c54
        refine g_sub [1, 2, 0] rfl ?_
        exact WJ_Mo_expression_229 C R t0 t0 (hK12) (hK272) hD
  · have hD := hD.2 c39
    refine g_aload_n (pc := 191) rfl 1 rfl C dX8_expression_191 ?_
    refine g_getI (pc := 192) C fl_RX8_227 t0 rfl dX8_expression_192 ?_
    refine g_iload_n (pc := 195) rfl 2 rfl C dX8_expression_195 ?_
    refine g_icmp_le (pc := 196) 204 C dX8_expression_196 (by decide) (fun c55 => ?_) (fun c55 => ?_)
    · have hD := hD.1 c55
      refine g_aload_n (pc := 204) rfl 1 rfl C dX8_expression_204 ?_
      refine g_iconst (pc := 205) (v := 0) (by decide) C dX8_expression_205 ?_
      refine g_callVv (pc := 206) (As := [.int 0]) C mv_RX8_295 (M_Mo_comesOut t0 hD) t0 (by decide) rfl rfl (Nat.le_of_ble_eq_true rfl) dX8_expression_206 (fun h56 hD => ?_)
      exact g_vret (pc := 209) C R dX8_expression_209 hD
    · have hD := hD.2 c55
      refine g_aload_n (pc := 199) rfl 1 rfl C dX8_expression_199 ?_
      refine g_iconst (pc := 200) (v := 1) (by decide) C dX8_expression_200 ?_
      refine g_callVv (pc := 201) (As := [.int 1]) C mv_RX8_215 (M_Mo_fail t0 hD) t0 (by decide) rfl rfl (Nat.le_of_ble_eq_true rfl) dX8_expression_201 (fun h58 hD => ?_)
      refine g_aload_n (pc := 204) rfl 1 rfl C dX8_expression_204 ?_
      refine g_iconst (pc := 205) (v := 0) (by decide) C dX8_expression_205 ?_
      refine g_callVv (pc := 206) (As := [.int 0]) C mv_RX8_295 (M_Mo_comesOut t0 hD) t0 (by decide) rfl rfl (Nat.le_of_ble_eq_true rfl) dX8_expression_206 (fun h60 hD => ?_)
      exact g_vret (pc := 209) C R dX8_expression_209 hD
def DJ_Mo_expression_181 (r : TR) (l0 : Nat) (l1 : Int32) (h : TH) (K12 : Int32 → TH → Prop) (K272 : TH → Prop) (Q : TH → Prop) : Prop :=
  DJ_Mo_expression_186 r l0 l1 1 h (K12) (K272) Q
set_option maxRecDepth 100000 in
set_option maxHeartbeats 4000000 in
theorem WJ_Mo_expression_181 {Y : CG} {X : CX} {r : TR} {l0 : Nat} {l1 : Int32} {h : TH} {K12 : Int32 → TH → Prop} {K272 : TH → Prop} {Q : TH → Prop} (C : Gd Y X cX8_expression 3 RX8 4) (R : Rv Y r X Q) (t0 : TO Y l0 8) (hK12 : ∀ (k2 : Int32) (hh : TH), K12 k2 hh → G Y X 3 12 [(0, .ref l0), (1, .int l1), (2, .int k2)] [] r hh) (hK272 : ∀ (hh : TH), K272 hh → G Y X 3 272 [] [] r hh) (hD : DJ_Mo_expression_181 r l0 l1 h K12 K272 Q) : G Y X 3 181 [(0, .ref l0), (1, .int l1)] [] r h := by
  unfold DJ_Mo_expression_181 at hD
  refine g_wt (fun hw => ?_)
  refine g_iconst (pc := 181) (v := 1) (by decide) C dX8_expression_181 ?_
  refine g_goto (pc := 182) 186 C dX8_expression_182 (by decide) ?_
  refine g_sub [0, 1] rfl ?_
  exact WJ_Mo_expression_186 C R t0 (hK12) (hK272) hD
def DJ_Mo_expression_145 (r : TR) (l0 : Nat) (l1 : Int32) (h : TH) (K12 : Int32 → TH → Prop) (K272 : TH → Prop) (Q : TH → Prop) : Prop :=
  D_Mo_is r l0 8 h (fun x36 h35 => ((¬ x36 = 0 → DJ_Mo_expression_181 r l0 l1 h35 (K12) (K272) Q) ∧ (x36 = 0 → D_Mo_is r l0 9 h35 (fun x63 h62 => ((¬ x63 = 0 → DJ_Mo_expression_181 r l0 l1 h62 (K12) (K272) Q) ∧ (x63 = 0 → D_Mo_is r l0 10 h62 (fun x66 h65 => ((¬ x66 = 0 → DJ_Mo_expression_181 r l0 l1 h65 (K12) (K272) Q) ∧ (x66 = 0 → D_Mo_is r l0 15 h65 (fun x69 h68 => ((x69 = 0 → DJ_Mo_expression_186 r l0 l1 0 h68 (K12) (K272) Q) ∧ (¬ x69 = 0 → DJ_Mo_expression_181 r l0 l1 h68 (K12) (K272) Q))))))))))))
set_option maxRecDepth 100000 in
set_option maxHeartbeats 4000000 in
theorem WJ_Mo_expression_145 {Y : CG} {X : CX} {r : TR} {l0 : Nat} {l1 : Int32} {h : TH} {K12 : Int32 → TH → Prop} {K272 : TH → Prop} {Q : TH → Prop} (C : Gd Y X cX8_expression 3 RX8 4) (R : Rv Y r X Q) (t0 : TO Y l0 8) (hK12 : ∀ (k2 : Int32) (hh : TH), K12 k2 hh → G Y X 3 12 [(0, .ref l0), (1, .int l1), (2, .int k2)] [] r hh) (hK272 : ∀ (hh : TH), K272 hh → G Y X 3 272 [] [] r hh) (hD : DJ_Mo_expression_145 r l0 l1 h K12 K272 Q) : G Y X 3 145 [(0, .ref l0), (1, .int l1)] [] r h := by
  unfold DJ_Mo_expression_145 at hD
  refine g_wt (fun hw => ?_)
  refine g_aload_n (pc := 145) rfl 0 rfl C dX8_expression_145 ?_
  refine g_bipush (pc := 146) (v := 8) (by decide) C dX8_expression_146 ?_
  refine g_callVi (pc := 148) (As := [.int 8]) C mv_RX8_218 (M_Mo_is t0 hD) t0 (by decide) rfl rfl (Nat.le_of_ble_eq_true rfl) dX8_expression_148 (fun x36 h35 hD => ?_)
  refine g_if_ne (pc := 151) 181 C dX8_expression_151 (by decide) (fun c37 => ?_) (fun c37 => ?_)
  · have hD := hD.1 c37
    refine g_sub [0, 1] rfl ?_
    exact WJ_Mo_expression_181 C R t0 (hK12) (hK272) hD
  · have hD := hD.2 c37
    refine g_aload_n (pc := 154) rfl 0 rfl C dX8_expression_154 ?_
    refine g_bipush (pc := 155) (v := 9) (by decide) C dX8_expression_155 ?_
    refine g_callVi (pc := 157) (As := [.int 9]) C mv_RX8_218 (M_Mo_is t0 hD) t0 (by decide) rfl rfl (Nat.le_of_ble_eq_true rfl) dX8_expression_157 (fun x63 h62 hD => ?_)
    refine g_if_ne (pc := 160) 181 C dX8_expression_160 (by decide) (fun c64 => ?_) (fun c64 => ?_)
    · have hD := hD.1 c64
      refine g_sub [0, 1] rfl ?_
      exact WJ_Mo_expression_181 C R t0 (hK12) (hK272) hD
    · have hD := hD.2 c64
      refine g_aload_n (pc := 163) rfl 0 rfl C dX8_expression_163 ?_
      refine g_bipush (pc := 164) (v := 10) (by decide) C dX8_expression_164 ?_
      refine g_callVi (pc := 166) (As := [.int 10]) C mv_RX8_218 (M_Mo_is t0 hD) t0 (by decide) rfl rfl (Nat.le_of_ble_eq_true rfl) dX8_expression_166 (fun x66 h65 hD => ?_)
      refine g_if_ne (pc := 169) 181 C dX8_expression_169 (by decide) (fun c67 => ?_) (fun c67 => ?_)
      · have hD := hD.1 c67
        refine g_sub [0, 1] rfl ?_
        exact WJ_Mo_expression_181 C R t0 (hK12) (hK272) hD
      · have hD := hD.2 c67
        refine g_aload_n (pc := 172) rfl 0 rfl C dX8_expression_172 ?_
        refine g_bipush (pc := 173) (v := 15) (by decide) C dX8_expression_173 ?_
        refine g_callVi (pc := 175) (As := [.int 15]) C mv_RX8_218 (M_Mo_is t0 hD) t0 (by decide) rfl rfl (Nat.le_of_ble_eq_true rfl) dX8_expression_175 (fun x69 h68 hD => ?_)
        refine g_if_eq (pc := 178) 185 C dX8_expression_178 (by decide) (fun c70 => ?_) (fun c70 => ?_)
        · have hD := hD.1 c70
          refine g_iconst (pc := 185) (v := 0) (by decide) C dX8_expression_185 ?_
          refine g_sub [0, 1] rfl ?_
          exact WJ_Mo_expression_186 C R t0 (hK12) (hK272) hD
        · have hD := hD.2 c70
          refine g_sub [0, 1] rfl ?_
          exact WJ_Mo_expression_181 C R t0 (hK12) (hK272) hD
def DB_Mo_expression_12 (r : TR) (l0 : Nat) (l1 : Int32) (l2 : Int32) (h : TH) (K12 : Int32 → TH → Prop) (K272 : TH → Prop) (Q : TH → Prop) : Prop :=
  ((l2 = 0 → K272 h) ∧ (¬ l2 = 0 → ((¬ (h.1 l0 13) = 0 → K272 h) ∧ ((h.1 l0 13) = 0 → ∃ n, lp (fun (K : TH → Prop) (s : TH) => DB_Mo_expression_23 r l0 l1 s K12 (fun h18 => K h18) (fun h19 => D_Mo_unit r l0 h19 (fun h20 => (((h20.1 l0 13) ≤ 0 → ∃ n, lp (fun (K : TH → Prop) (s : TH) => DB_Mo_expression_96 r l0 l1 s K12 (fun h33 => K h33) (fun h34 => DJ_Mo_expression_145 r l0 l1 h34 (K12) (K272) Q) K272 Q) n h20) ∧ (¬ (h20.1 l0 13) ≤ 0 → Q h20)))) K272 Q) n h))))
set_option maxRecDepth 100000 in
set_option maxHeartbeats 4000000 in
theorem WB_Mo_expression_12 {Y : CG} {X : CX} {r : TR} {l0 : Nat} {l1 : Int32} {l2 : Int32} {h : TH} {K12 : Int32 → TH → Prop} {K272 : TH → Prop} {Q : TH → Prop} (C : Gd Y X cX8_expression 3 RX8 4) (R : Rv Y r X Q) (t0 : TO Y l0 8) (hK12 : ∀ (k2 : Int32) (hh : TH), K12 k2 hh → G Y X 3 12 [(0, .ref l0), (1, .int l1), (2, .int k2)] [] r hh) (hK272 : ∀ (hh : TH), K272 hh → G Y X 3 272 [] [] r hh) (hD : DB_Mo_expression_12 r l0 l1 l2 h K12 K272 Q) : G Y X 3 12 [(0, .ref l0), (1, .int l1), (2, .int l2)] [] r h := by
  unfold DB_Mo_expression_12 at hD
  refine g_wt (fun hw => ?_)
  refine g_iload_n (pc := 12) rfl 2 rfl C dX8_expression_12 ?_
  refine g_if_eq (pc := 13) 272 C dX8_expression_13 (by decide) (fun c4 => ?_) (fun c4 => ?_)
  · have hD := hD.1 c4
    refine g_sub [] rfl ?_
    exact hK272 h hD
  · have hD := hD.2 c4
    refine g_aload_n (pc := 16) rfl 0 rfl C dX8_expression_16 ?_
    refine g_getI (pc := 17) C fl_RX8_200 t0 rfl dX8_expression_17 ?_
    refine g_if_ne (pc := 20) 272 C dX8_expression_20 (by decide) (fun c5 => ?_) (fun c5 => ?_)
    · have hD := hD.1 c5
      refine g_sub [] rfl ?_
      exact hK272 h hD
    · have hD := hD.2 c5
      obtain ⟨n, hD⟩ := hD
      refine g_sub [0, 1] rfl ?_
      refine lp_run (fun s : TH => G Y X 3 23 [(0, .ref l0), (1, .int l1)] [] r s) (fun K s hB hK => ?_) n h hD
      refine WB_Mo_expression_23 C R t0 hK12 (fun h18 hk => hK _ hk) (fun h19 hD => ?_) hK272 hB
      · refine g_aload_n (pc := 84) rfl 0 rfl C dX8_expression_84 ?_
        refine g_callVv (pc := 85) (As := []) C mv_RX8_292 (M_Mo_unit t0 hD) t0 (by decide) rfl rfl (Nat.le_of_ble_eq_true rfl) dX8_expression_85 (fun h20 hD => ?_)
        refine g_aload_n (pc := 88) rfl 0 rfl C dX8_expression_88 ?_
        refine g_getI (pc := 89) C fl_RX8_200 t0 rfl dX8_expression_89 ?_
        refine g_if_le (pc := 92) 96 C dX8_expression_92 (by decide) (fun c22 => ?_) (fun c22 => ?_)
        · have hD := hD.1 c22
          obtain ⟨n, hD⟩ := hD
          refine g_sub [0, 1] rfl ?_
          refine lp_run (fun s : TH => G Y X 3 96 [(0, .ref l0), (1, .int l1)] [] r s) (fun K s hB hK => ?_) n h20 hD
          refine WB_Mo_expression_96 C R t0 hK12 (fun h33 hk => hK _ hk) (fun h34 hD => ?_) hK272 hB
          · refine g_sub [0, 1] rfl ?_
            exact WJ_Mo_expression_145 C R t0 (hK12) (hK272) hD
        · have hD := hD.2 c22
          exact g_vret (pc := 95) C R dX8_expression_95 hD
def D_Mo_expression (r : TR) (o : Nat) (h : TH) (Q : TH → Prop) : Prop :=
  ∀ h1, h1 = pI h o 44 0 → ∀ x2 : Int32, x2 = h1.1 o 12 → ∃ n, lp (fun (K : Int32 × TH → Prop) (s : Int32 × TH) => DB_Mo_expression_12 r o x2 s.1 s.2 (fun y71 h72 => K (y71, h72)) (fun h73 => Q h73) Q) n (1, h1)
set_option maxRecDepth 100000 in
set_option maxHeartbeats 4000000 in
theorem M_Mo_expression {Y : CG} {r : TR} {l : Launch} {o : Nat} {h : TH} {Q : TH → Prop} (t0 : TO Y o 8) (hD : D_Mo_expression r o h Q) : Mv Y r l yX8_expression cX8_expression 3 4 [.ref o] h Q := by
  unfold D_Mo_expression at hD
  refine Mv.of RX8 rfl (by decide) (by simp [lg_sl, Value.category]) [(0, .ref o)] rfl (fun X hXl C R => ?_)
  subst hXl
  refine g_wt (fun hw => ?_)
  refine g_aload_n (pc := 0) rfl 0 rfl C dX8_expression_0 ?_
  refine g_iconst (pc := 1) (v := 0) (by decide) C dX8_expression_1 ?_
  refine g_putI (pc := 2) C fl_RX8_286 t0 rfl rfl rfl dX8_expression_2 (fun h1 eh1 => ?_)
  have hD := hD h1 eh1
  refine g_aload_n (pc := 5) rfl 0 rfl C dX8_expression_5 ?_
  refine g_getI (pc := 6) C fl_RX8_227 t0 rfl dX8_expression_6 ?_
  refine g_istore_n (pc := 9) (fun x2 => [(1, .int x2), (0, .ref o)]) C dX8_expression_9 rfl (by decide) rfl (fun x2 ex2 => ?_)
  have hD := hD x2 ex2
  refine g_iconst (pc := 10) (v := 1) (by decide) C dX8_expression_10 ?_
  refine g_istore_n (pc := 11) (fun _ => [(2, .int 1), (1, .int x2), (0, .ref o)]) C dX8_expression_11 rfl (by decide) rfl (fun _ _ => ?_)
  obtain ⟨n, hD⟩ := hD
  refine g_sub [2, 1, 0] rfl ?_
  refine lp_run (fun s : Int32 × TH => G Y X 3 12 [(0, .ref o), (1, .int x2), (2, .int s.1)] [] r s.2) (fun K s hB hK => ?_) n (1, h1) hD
  refine WB_Mo_expression_12 C R t0 (fun y71 h72 hk => hK _ hk) (fun h73 hD => ?_) hB
  · exact g_vret (pc := 272) C R dX8_expression_272 hD
def D_Mo_farAt (r : TR) (o : Nat) (a1 : Int32) (a2 : Int32) (h : TH) (Q : Int32 → TH → Prop) : Prop :=
  D_Mo_isCell r o a1 a2 h (fun x2 h1 => ((x2 = 0 → Q (-1) h1) ∧ (¬ x2 = 0 → ∀ i5 : Int32, i5 = (8 * a2) + a1 → vp_in i5 40 ∧ Q (h1.1 (r o 56) i5.toNatClampNeg) h1)))
set_option maxRecDepth 100000 in
set_option maxHeartbeats 4000000 in
theorem M_Mo_farAt {Y : CG} {r : TR} {l : Launch} {o : Nat} {a1 : Int32} {a2 : Int32} {h : TH} {Q : Int32 → TH → Prop} (t0 : TO Y o 8) (hD : D_Mo_farAt r o a1 a2 h Q) : Mi Y r l yX8_farAt cX8_farAt 3 .int 3 [.ref o, .int a1, .int a2] h Q := by
  unfold D_Mo_farAt at hD
  refine Mi.of RX8 rfl (by decide) (by simp [lg_sl, Value.category]) [(0, .ref o), (1, .int a1), (2, .int a2)] rfl (fun X hXl C R => ?_)
  subst hXl
  refine g_wt (fun hw => ?_)
  refine g_aload_n (pc := 0) rfl 0 rfl C dX8_farAt_0 ?_
  refine g_iload_n (pc := 1) rfl 1 rfl C dX8_farAt_1 ?_
  refine g_iload_n (pc := 2) rfl 2 rfl C dX8_farAt_2 ?_
  refine g_callVi (pc := 3) (As := [.int a1, .int a2]) C mv_RX8_360 (M_Mo_isCell t0 hD) t0 (by decide) rfl rfl (Nat.le_of_ble_eq_true rfl) dX8_farAt_3 (fun x2 h1 hD => ?_)
  refine g_if_eq (pc := 6) 23 C dX8_farAt_6 (by decide) (fun c3 => ?_) (fun c3 => ?_)
  · have hD := hD.1 c3
    refine g_iconst (pc := 23) (v := (-1)) (by decide) C dX8_farAt_23 ?_
    exact g_iret (pc := 24) C R dX8_farAt_24 hD
  · have hD := hD.2 c3
    refine g_aload_n (pc := 9) rfl 0 rfl C dX8_farAt_9 ?_
    have u4 : TA Y (r o 56) 10 40 := wt_a hw t0 (by decide) (by decide) rfl
    refine g_getR (pc := 10) C fl_RX8_122 t0 rfl dX8_farAt_10 ?_
    refine g_bipush (pc := 13) (v := 8) (by decide) C dX8_farAt_13 ?_
    refine g_iload_n (pc := 15) rfl 2 rfl C dX8_farAt_15 ?_
    refine g_imul (pc := 16) C dX8_farAt_16 ?_
    refine g_iload_n (pc := 17) rfl 1 rfl C dX8_farAt_17 ?_
    refine g_iadd (pc := 18) C dX8_farAt_18 ?_
    refine g_topi (fun i5 ei5 => ?_)
    have hD := hD i5 ei5
    obtain ⟨hb, hD⟩ := hD
    refine g_iald (pc := 19) C u4 hb dX8_farAt_19 ?_
    refine g_goto (pc := 20) 24 C dX8_farAt_20 (by decide) ?_
    exact g_iret (pc := 24) C R dX8_farAt_24 hD
def DB_Mo_put_3 (r : TR) (l0 : Nat) (l1 : Int32) (l2 : Int32) (h : TH) (K3 : Int32 → TH → Prop) (K36 : TH → Prop) (Q : TH → Prop) : Prop :=
  ((l2 < 0 → K36 h) ∧ (¬ l2 < 0 → vp_in (h.1 l0 2) 2000 ∧ ∀ h4, h4 = pI h (r l0 1) ((h.1 l0 2).toNatClampNeg) (vp_nar .byte ((l1 >>> (l2 &&& 31)).toInt8.toInt32)) → ∀ h5, h5 = pI h4 l0 2 ((h4.1 l0 2) + 1) → ∀ x6 : Int32, x6 = l2 + (-8) → K3 x6 h5))
set_option maxRecDepth 100000 in
set_option maxHeartbeats 4000000 in
theorem WB_Mo_put_3 {Y : CG} {X : CX} {r : TR} {l0 : Nat} {l1 : Int32} {l2 : Int32} {h : TH} {K3 : Int32 → TH → Prop} {K36 : TH → Prop} {Q : TH → Prop} (C : Gd Y X cX8_put 3 RX8 1) (R : Rv Y r X Q) (t0 : TO Y l0 8) (hK3 : ∀ (k2 : Int32) (hh : TH), K3 k2 hh → G Y X 3 3 [(0, .ref l0), (1, .int l1), (2, .int k2)] [] r hh) (hK36 : ∀ (hh : TH), K36 hh → G Y X 3 36 [] [] r hh) (hD : DB_Mo_put_3 r l0 l1 l2 h K3 K36 Q) : G Y X 3 3 [(0, .ref l0), (1, .int l1), (2, .int l2)] [] r h := by
  unfold DB_Mo_put_3 at hD
  refine g_wt (fun hw => ?_)
  refine g_iload_n (pc := 3) rfl 2 rfl C dX8_put_3 ?_
  refine g_if_lt (pc := 4) 36 C dX8_put_4 (by decide) (fun c2 => ?_) (fun c2 => ?_)
  · have hD := hD.1 c2
    refine g_sub [] rfl ?_
    exact hK36 h hD
  · have hD := hD.2 c2
    refine g_aload_n (pc := 7) rfl 0 rfl C dX8_put_7 ?_
    have u3 : TA Y (r l0 1) 9 2000 := wt_a hw t0 (by decide) (by decide) rfl
    refine g_getR (pc := 8) C fl_RX8_13 t0 rfl dX8_put_8 ?_
    refine g_aload_n (pc := 11) rfl 0 rfl C dX8_put_11 ?_
    refine g_getI (pc := 12) C fl_RX8_163 t0 rfl dX8_put_12 ?_
    refine g_iload_n (pc := 15) rfl 1 rfl C dX8_put_15 ?_
    refine g_iload_n (pc := 16) rfl 2 rfl C dX8_put_16 ?_
    refine g_ishr (pc := 17) C dX8_put_17 ?_
    refine g_i2b (pc := 18) C dX8_put_18 ?_
    obtain ⟨hb, hD⟩ := hD
    refine g_bast (pc := 19) C u3 hb dX8_put_19 (fun h4 eh4 => ?_)
    have hD := hD h4 eh4
    refine g_aload_n (pc := 20) rfl 0 rfl C dX8_put_20 ?_
    refine g_dup (pc := 21) rfl C dX8_put_21 ?_
    refine g_getI (pc := 22) C fl_RX8_163 t0 rfl dX8_put_22 ?_
    refine g_iconst (pc := 25) (v := 1) (by decide) C dX8_put_25 ?_
    refine g_iadd (pc := 26) C dX8_put_26 ?_
    refine g_putI (pc := 27) C fl_RX8_163 t0 rfl rfl rfl dX8_put_27 (fun h5 eh5 => ?_)
    have hD := hD h5 eh5
    refine g_iinc (pc := 30) (q := 2) (c := (-8)) (fun x6 => [(2, .int x6), (0, .ref l0), (1, .int l1)]) C dX8_put_30 rfl (by decide) (by decide) rfl (fun x6 ex6 => ?_)
    have hD := hD x6 ex6
    refine g_goto (pc := 33) 3 C dX8_put_33 (by decide) ?_
    refine g_sub [1, 2, 0] rfl ?_
    exact hK3 x6 h5 hD
def D_Mo_put (r : TR) (o : Nat) (a1 : Int32) (h : TH) (Q : TH → Prop) : Prop :=
  ∃ n, lp (fun (K : Int32 × TH → Prop) (s : Int32 × TH) => DB_Mo_put_3 r o a1 s.1 s.2 (fun y7 h8 => K (y7, h8)) (fun h9 => Q h9) Q) n (24, h)
set_option maxRecDepth 100000 in
set_option maxHeartbeats 4000000 in
theorem M_Mo_put {Y : CG} {r : TR} {l : Launch} {o : Nat} {a1 : Int32} {h : TH} {Q : TH → Prop} (t0 : TO Y o 8) (hD : D_Mo_put r o a1 h Q) : Mv Y r l yX8_put cX8_put 3 1 [.ref o, .int a1] h Q := by
  unfold D_Mo_put at hD
  refine Mv.of RX8 rfl (by decide) (by simp [lg_sl, Value.category]) [(0, .ref o), (1, .int a1)] rfl (fun X hXl C R => ?_)
  subst hXl
  refine g_wt (fun hw => ?_)
  refine g_bipush (pc := 0) (v := 24) (by decide) C dX8_put_0 ?_
  refine g_istore_n (pc := 2) (fun _ => [(2, .int 24), (0, .ref o), (1, .int a1)]) C dX8_put_2 rfl (by decide) rfl (fun _ _ => ?_)
  obtain ⟨n, hD⟩ := hD
  refine g_sub [1, 2, 0] rfl ?_
  refine lp_run (fun s : Int32 × TH => G Y X 3 3 [(0, .ref o), (1, .int a1), (2, .int s.1)] [] r s.2) (fun K s hB hK => ?_) n (24, h) hD
  refine WB_Mo_put_3 C R t0 (fun y7 h8 hk => hK _ hk) (fun h9 hD => ?_) hB
  · exact g_vret (pc := 36) C R dX8_put_36 hD
def D_Mo_feed (r : TR) (o : Nat) (a1 : Int32) (a2 : Int32) (a3 : Int32) (a4 : Int32) (a5 : Int32) (h : TH) (Q : Int32 → TH → Prop) : Prop :=
  ((((h.1 o 2) + 20) ≤ 2000 → D_Mo_put r o a1 h (fun h2 => D_Mo_put r o a2 h2 (fun h4 => D_Mo_put r o a3 h4 (fun h6 => D_Mo_put r o a4 h6 (fun h8 => D_Mo_put r o a5 h8 (fun h10 => Q (h10.1 o 2) h10)))))) ∧ (¬ ((h.1 o 2) + 20) ≤ 2000 → Q (-1) h))
set_option maxRecDepth 100000 in
set_option maxHeartbeats 4000000 in
theorem M_Mo_feed {Y : CG} {r : TR} {l : Launch} {o : Nat} {a1 : Int32} {a2 : Int32} {a3 : Int32} {a4 : Int32} {a5 : Int32} {h : TH} {Q : Int32 → TH → Prop} (t0 : TO Y o 8) (hD : D_Mo_feed r o a1 a2 a3 a4 a5 h Q) : Mi Y r l yX8_feed cX8_feed 6 .int 2 [.ref o, .int a1, .int a2, .int a3, .int a4, .int a5] h Q := by
  unfold D_Mo_feed at hD
  refine Mi.of RX8 rfl (by decide) (by simp [lg_sl, Value.category]) [(0, .ref o), (1, .int a1), (2, .int a2), (3, .int a3), (4, .int a4), (5, .int a5)] rfl (fun X hXl C R => ?_)
  subst hXl
  refine g_wt (fun hw => ?_)
  refine g_aload_n (pc := 0) rfl 0 rfl C dX8_feed_0 ?_
  refine g_getI (pc := 1) C fl_RX8_163 t0 rfl dX8_feed_1 ?_
  refine g_bipush (pc := 4) (v := 20) (by decide) C dX8_feed_4 ?_
  refine g_iadd (pc := 6) C dX8_feed_6 ?_
  refine g_sipush (pc := 7) (v := 2000) (by decide) C dX8_feed_7 ?_
  refine g_icmp_le (pc := 10) 15 C dX8_feed_10 (by decide) (fun c1 => ?_) (fun c1 => ?_)
  · have hD := hD.1 c1
    refine g_aload_n (pc := 15) rfl 0 rfl C dX8_feed_15 ?_
    refine g_iload_n (pc := 16) rfl 1 rfl C dX8_feed_16 ?_
    refine g_callVv (pc := 17) (As := [.int a1]) C mv_RX8_166 (M_Mo_put t0 hD) t0 (by decide) rfl rfl (Nat.le_of_ble_eq_true rfl) dX8_feed_17 (fun h2 hD => ?_)
    refine g_aload_n (pc := 20) rfl 0 rfl C dX8_feed_20 ?_
    refine g_iload_n (pc := 21) rfl 2 rfl C dX8_feed_21 ?_
    refine g_callVv (pc := 22) (As := [.int a2]) C mv_RX8_166 (M_Mo_put t0 hD) t0 (by decide) rfl rfl (Nat.le_of_ble_eq_true rfl) dX8_feed_22 (fun h4 hD => ?_)
    refine g_aload_n (pc := 25) rfl 0 rfl C dX8_feed_25 ?_
    refine g_iload_n (pc := 26) rfl 3 rfl C dX8_feed_26 ?_
    refine g_callVv (pc := 27) (As := [.int a3]) C mv_RX8_166 (M_Mo_put t0 hD) t0 (by decide) rfl rfl (Nat.le_of_ble_eq_true rfl) dX8_feed_27 (fun h6 hD => ?_)
    refine g_aload_n (pc := 30) rfl 0 rfl C dX8_feed_30 ?_
    refine g_iload (pc := 31) 4 rfl C dX8_feed_31 ?_
    refine g_callVv (pc := 33) (As := [.int a4]) C mv_RX8_166 (M_Mo_put t0 hD) t0 (by decide) rfl rfl (Nat.le_of_ble_eq_true rfl) dX8_feed_33 (fun h8 hD => ?_)
    refine g_aload_n (pc := 36) rfl 0 rfl C dX8_feed_36 ?_
    refine g_iload (pc := 37) 5 rfl C dX8_feed_37 ?_
    refine g_callVv (pc := 39) (As := [.int a5]) C mv_RX8_166 (M_Mo_put t0 hD) t0 (by decide) rfl rfl (Nat.le_of_ble_eq_true rfl) dX8_feed_39 (fun h10 hD => ?_)
    refine g_aload_n (pc := 42) rfl 0 rfl C dX8_feed_42 ?_
    refine g_getI (pc := 43) C fl_RX8_163 t0 rfl dX8_feed_43 ?_
    exact g_iret (pc := 46) C R dX8_feed_46 hD
  · have hD := hD.2 c1
    refine g_iconst (pc := 13) (v := (-1)) (by decide) C dX8_feed_13 ?_
    exact g_iret (pc := 14) C R dX8_feed_14 hD
