def D_Bay_wayOf (r : TR) (o : Nat) (a1 : Nat) (a2 : Int32) (a3 : Int32) (a4 : Int32) (h : TH) (Q : Int32 → TH → Prop) : Prop :=
  D_Bay_dishesSmelledBy r o a1 a2 a4 h (fun x2 h1 => ∀ h7, h7 = pI h1 (r (r o 13) 0) ((0 : Int32).toNatClampNeg) (h1.1 a1 0) → D_Sc_eastOf r a1 a2 h7 (fun x9 h8 => ∀ h10, h10 = pI h8 (r (r o 13) 0) ((1 : Int32).toNatClampNeg) x9 → D_Sc_southOf r a1 a2 h10 (fun x12 h11 => ∀ h13, h13 = pI h11 (r (r o 13) 0) ((2 : Int32).toNatClampNeg) x12 → ∀ h14, h14 = pI h13 (r (r o 13) 0) ((3 : Int32).toNatClampNeg) a3 → D_JI_bitCount r x2 h14 (fun x16 h15 => ∀ h17, h17 = pI h15 (r (r o 13) 0) ((4 : Int32).toNatClampNeg) x16 → D_SR_leastOf r x2 h17 (fun x19 h18 => ∀ h20, h20 = pI h18 (r (r o 13) 0) ((5 : Int32).toNatClampNeg) x19 → ∀ h21, h21 = pI h20 (r (r o 13) 0) ((6 : Int32).toNatClampNeg) a2 → vp_in a2 6 ∧ ∀ h23, h23 = pI h21 (r (r o 13) 0) ((7 : Int32).toNatClampNeg) (h21.1 (r o 10) a2.toNatClampNeg) → D_JI_bitCount r (h23.1 a1 3) h23 (fun x25 h24 => ∀ h26, h26 = pI h24 (r (r o 13) 0) ((8 : Int32).toNatClampNeg) x25 → D_Law_tells r (r o 13) h26 (fun x29 h28 => ((0 ≤ x29 → Q (jrem x29 5) h28) ∧ (¬ 0 ≤ x29 → Q 0 h28)))))))))
set_option maxRecDepth 100000 in
set_option maxHeartbeats 4000000 in
theorem M_Bay_wayOf {Y : CG} {r : TR} {l : Launch} {o : Nat} {a1 : Nat} {a2 : Int32} {a3 : Int32} {a4 : Int32} {h : TH} {Q : Int32 → TH → Prop} (t0 : TO Y o 0) (t1 : TO Y a1 5) (hD : D_Bay_wayOf r o a1 a2 a3 a4 h Q) : Mi Y r l yX0_wayOf cX0_wayOf 8 .int 4 [.ref o, .ref a1, .int a2, .int a3, .int a4] h Q := by
  unfold D_Bay_wayOf at hD
  refine Mi.of RX0 rfl (by decide) (by simp [lg_sl, Value.category]) [(0, .ref o), (1, .ref a1), (2, .int a2), (3, .int a3), (4, .int a4)] rfl (fun X hXl C R => ?_)
  subst hXl
  refine g_wt (fun hw => ?_)
  refine g_aload_n (pc := 0) rfl 0 rfl C dX0_wayOf_0 ?_
  refine g_aload_n (pc := 1) rfl 1 rfl C dX0_wayOf_1 ?_
  refine g_iload_n (pc := 2) rfl 2 rfl C dX0_wayOf_2 ?_
  refine g_iload (pc := 3) 4 rfl C dX0_wayOf_3 ?_
  refine g_callVi (pc := 5) (As := [.ref a1, .int a2, .int a4]) C mv_RX0_187 (M_Bay_dishesSmelledBy t0 t1 hD) t0 (by decide) rfl rfl (Nat.le_of_ble_eq_true rfl) dX0_wayOf_5 (fun x2 h1 hD => ?_)
  refine g_istore (pc := 8) (fun _ => [(5, .int x2), (0, .ref o), (1, .ref a1), (2, .int a2), (3, .int a3), (4, .int a4)]) C dX0_wayOf_8 (by decide) rfl (fun _ _ => ?_)
  refine g_aload_n (pc := 10) rfl 1 rfl C dX0_wayOf_10 ?_
  have u4 : TO Y (r o 13) 1 := wt_o hw t0 (by decide) rfl
  refine g_getR (pc := 11) C fl_RX0_57 t0 rfl dX0_wayOf_11 ?_
  have u5 : TA Y (r (r o 13) 0) 10 9 := wt_a hw u4 (by decide) (by decide) rfl
  refine g_getR (pc := 14) C fl_RX0_123 u4 rfl dX0_wayOf_14 ?_
  refine g_astore (pc := 17) (fun _ => [(6, .ref (r (r o 13) 0)), (5, .int x2), (0, .ref o), (1, .ref a1), (2, .int a2), (3, .int a3), (4, .int a4)]) C dX0_wayOf_17 (by decide) rfl (fun _ _ => ?_)
  refine g_aload (pc := 19) 0 rfl C dX0_wayOf_19 ?_
  refine g_iconst (pc := 21) (v := 0) (by decide) C dX0_wayOf_21 ?_
  refine g_aload_n (pc := 22) rfl 3 rfl C dX0_wayOf_22 ?_
  refine g_getI (pc := 23) C fl_RX0_103 t1 rfl dX0_wayOf_23 ?_
  refine g_iast (pc := 26) C u5 (by unfold vp_in; decide) dX0_wayOf_26 (fun h7 eh7 => ?_)
  have hD := hD h7 eh7
  refine g_aload (pc := 27) 0 rfl C dX0_wayOf_27 ?_
  refine g_iconst (pc := 29) (v := 1) (by decide) C dX0_wayOf_29 ?_
  refine g_aload_n (pc := 30) rfl 3 rfl C dX0_wayOf_30 ?_
  refine g_iload_n (pc := 31) rfl 4 rfl C dX0_wayOf_31 ?_
  refine g_callVi (pc := 32) (As := [.int a2]) C mv_RX0_190 (M_Sc_eastOf t1 hD) t1 (by decide) rfl rfl (Nat.le_of_ble_eq_true rfl) dX0_wayOf_32 (fun x9 h8 hD => ?_)
  refine g_iast (pc := 35) C u5 (by unfold vp_in; decide) dX0_wayOf_35 (fun h10 eh10 => ?_)
  have hD := hD h10 eh10
  refine g_aload (pc := 36) 0 rfl C dX0_wayOf_36 ?_
  refine g_iconst (pc := 38) (v := 2) (by decide) C dX0_wayOf_38 ?_
  refine g_aload_n (pc := 39) rfl 3 rfl C dX0_wayOf_39 ?_
  refine g_iload_n (pc := 40) rfl 4 rfl C dX0_wayOf_40 ?_
  refine g_callVi (pc := 41) (As := [.int a2]) C mv_RX0_193 (M_Sc_southOf t1 hD) t1 (by decide) rfl rfl (Nat.le_of_ble_eq_true rfl) dX0_wayOf_41 (fun x12 h11 hD => ?_)
  refine g_iast (pc := 44) C u5 (by unfold vp_in; decide) dX0_wayOf_44 (fun h13 eh13 => ?_)
  have hD := hD h13 eh13
  refine g_aload (pc := 45) 0 rfl C dX0_wayOf_45 ?_
  refine g_iconst (pc := 47) (v := 3) (by decide) C dX0_wayOf_47 ?_
  refine g_iload_n (pc := 48) rfl 5 rfl C dX0_wayOf_48 ?_
  refine g_iast (pc := 49) C u5 (by unfold vp_in; decide) dX0_wayOf_49 (fun h14 eh14 => ?_)
  have hD := hD h14 eh14
  refine g_aload (pc := 50) 0 rfl C dX0_wayOf_50 ?_
  refine g_iconst (pc := 52) (v := 4) (by decide) C dX0_wayOf_52 ?_
  refine g_iload (pc := 53) 1 rfl C dX0_wayOf_53 ?_
  refine g_callSi (pc := 55) (As := [.int x2]) C ms_RX0_196 (M_JI_bitCount  hD) (by decide) rfl rfl (Nat.le_of_ble_eq_true rfl) dX0_wayOf_55 (fun x16 h15 hD => ?_)
  refine g_iast (pc := 58) C u5 (by unfold vp_in; decide) dX0_wayOf_58 (fun h17 eh17 => ?_)
  have hD := hD h17 eh17
  refine g_aload (pc := 59) 0 rfl C dX0_wayOf_59 ?_
  refine g_iconst (pc := 61) (v := 5) (by decide) C dX0_wayOf_61 ?_
  refine g_iload (pc := 62) 1 rfl C dX0_wayOf_62 ?_
  refine g_callNi (pc := 64) (As := [.int x2]) C mn_RX0_201 (M_SR_leastOf  hD) (by decide) rfl rfl (Nat.le_of_ble_eq_true rfl) dX0_wayOf_64 (fun x19 h18 hD => ?_)
  refine g_iast (pc := 67) C u5 (by unfold vp_in; decide) dX0_wayOf_67 (fun h20 eh20 => ?_)
  have hD := hD h20 eh20
  refine g_aload (pc := 68) 0 rfl C dX0_wayOf_68 ?_
  refine g_bipush (pc := 70) (v := 6) (by decide) C dX0_wayOf_70 ?_
  refine g_iload_n (pc := 72) rfl 4 rfl C dX0_wayOf_72 ?_
  refine g_iast (pc := 73) C u5 (by unfold vp_in; decide) dX0_wayOf_73 (fun h21 eh21 => ?_)
  have hD := hD h21 eh21
  refine g_aload (pc := 74) 0 rfl C dX0_wayOf_74 ?_
  refine g_bipush (pc := 76) (v := 7) (by decide) C dX0_wayOf_76 ?_
  refine g_aload_n (pc := 78) rfl 2 rfl C dX0_wayOf_78 ?_
  have u22 : TA Y (r o 10) 10 6 := wt_a hw t0 (by decide) (by decide) rfl
  refine g_getR (pc := 79) C fl_RX0_44 t0 rfl dX0_wayOf_79 ?_
  refine g_iload_n (pc := 82) rfl 4 rfl C dX0_wayOf_82 ?_
  obtain ⟨hb, hD⟩ := hD
  refine g_iald (pc := 83) C u22 hb dX0_wayOf_83 ?_
  refine g_iast (pc := 84) C u5 (by unfold vp_in; decide) dX0_wayOf_84 (fun h23 eh23 => ?_)
  have hD := hD h23 eh23
  refine g_aload (pc := 85) 0 rfl C dX0_wayOf_85 ?_
  refine g_bipush (pc := 87) (v := 8) (by decide) C dX0_wayOf_87 ?_
  refine g_aload_n (pc := 89) rfl 3 rfl C dX0_wayOf_89 ?_
  refine g_getI (pc := 90) C fl_RX0_93 t1 rfl dX0_wayOf_90 ?_
  refine g_callSi (pc := 93) (As := [.int (h23.1 a1 3)]) C ms_RX0_196 (M_JI_bitCount  hD) (by decide) rfl rfl (Nat.le_of_ble_eq_true rfl) dX0_wayOf_93 (fun x25 h24 hD => ?_)
  refine g_iast (pc := 96) C u5 (by unfold vp_in; decide) dX0_wayOf_96 (fun h26 eh26 => ?_)
  have hD := hD h26 eh26
  refine g_aload_n (pc := 97) rfl 2 rfl C dX0_wayOf_97 ?_
  have u27 : TO Y (r o 13) 1 := wt_o hw t0 (by decide) rfl
  refine g_getR (pc := 98) C fl_RX0_57 t0 rfl dX0_wayOf_98 ?_
  refine g_callVi (pc := 101) (As := []) C mv_RX0_126 (M_Law_tells u27 hD) u27 (by decide) rfl rfl (Nat.le_of_ble_eq_true rfl) dX0_wayOf_101 (fun x29 h28 hD => ?_)
  refine g_istore (pc := 104) (fun _ => [(7, .int x29), (6, .ref (r (r o 13) 0)), (5, .int x2), (0, .ref o), (1, .ref a1), (2, .int a2), (3, .int a3), (4, .int a4)]) C dX0_wayOf_104 (by decide) rfl (fun _ _ => ?_)
  refine g_iload (pc := 106) 0 rfl C dX0_wayOf_106 ?_
  refine g_if_ge (pc := 108) 115 C dX0_wayOf_108 (by decide) (fun c31 => ?_) (fun c31 => ?_)
  · have hD := hD.1 c31
    refine g_iload (pc := 115) 0 rfl C dX0_wayOf_115 ?_
    refine g_iconst (pc := 117) (v := 5) (by decide) C dX0_wayOf_117 ?_
    refine g_irem (pc := 118) (by decide) C dX0_wayOf_118 ?_
    exact g_iret (pc := 119) C R dX0_wayOf_119 hD
  · have hD := hD.2 c31
    refine g_iconst (pc := 111) (v := 0) (by decide) C dX0_wayOf_111 ?_
    refine g_goto (pc := 112) 119 C dX0_wayOf_112 (by decide) ?_
    exact g_iret (pc := 119) C R dX0_wayOf_119 hD
def DB_Bay_passHour_22 (r : TR) (l0 : Nat) (l1 : Nat) (l2 : Int32) (l3 : Int32) (l4 : Int32) (l5 : Int32) (l6 : Int32) (h : TH) (K22 : Int32 → Int32 → TH → Prop) (K67 : Int32 → TH → Prop) (Q : TH → Prop) : Prop :=
  (((h.1 l0 2) ≤ l6 → K67 l5 h) ∧ (¬ (h.1 l0 2) ≤ l6 → ((¬ ((l3 >>> (l6 &&& 31)) &&& 1) = 1 → ∀ x11 : Int32, x11 = l6 + 1 → K22 l5 x11 h) ∧ (((l3 >>> (l6 &&& 31)) &&& 1) = 1 → D_Bay_wayOf r l0 l1 l6 l4 l2 h (fun x13 h12 => ∀ x14 : Int32, x14 = l5 ||| (x13 <<< ((3 * l6) &&& 31)) → ∀ x15 : Int32, x15 = l6 + 1 → K22 x14 x15 h12)))))
set_option maxRecDepth 100000 in
set_option maxHeartbeats 4000000 in
theorem WB_Bay_passHour_22 {Y : CG} {X : CX} {r : TR} {l0 : Nat} {l1 : Nat} {l2 : Int32} {l3 : Int32} {l4 : Int32} {l5 : Int32} {l6 : Int32} {h : TH} {K22 : Int32 → Int32 → TH → Prop} {K67 : Int32 → TH → Prop} {Q : TH → Prop} (C : Gd Y X cX0_passHour 7 RX0 5) (R : Rv Y r X Q) (t0 : TO Y l0 0) (t1 : TO Y l1 5) (hK22 : ∀ (k5 : Int32) (k6 : Int32) (hh : TH), K22 k5 k6 hh → G Y X 7 22 [(0, .ref l0), (1, .ref l1), (2, .int l2), (3, .int l3), (4, .int l4), (5, .int k5), (6, .int k6)] [] r hh) (hK67 : ∀ (k5 : Int32) (hh : TH), K67 k5 hh → G Y X 7 67 [(0, .ref l0), (1, .ref l1), (3, .int l3), (5, .int k5)] [] r hh) (hD : DB_Bay_passHour_22 r l0 l1 l2 l3 l4 l5 l6 h K22 K67 Q) : G Y X 7 22 [(0, .ref l0), (1, .ref l1), (2, .int l2), (3, .int l3), (4, .int l4), (5, .int l5), (6, .int l6)] [] r h := by
  unfold DB_Bay_passHour_22 at hD
  refine g_wt (fun hw => ?_)
  refine g_iload (pc := 22) 6 rfl C dX0_passHour_22 ?_
  refine g_aload_n (pc := 24) rfl 0 rfl C dX0_passHour_24 ?_
  refine g_getI (pc := 25) C fl_RX0_18 t0 rfl dX0_passHour_25 ?_
  refine g_icmp_ge (pc := 28) 67 C dX0_passHour_28 (by decide) (fun c9 => ?_) (fun c9 => ?_)
  · have hD := hD.1 c9
    refine g_sub [0, 1, 3, 5] rfl ?_
    exact hK67 l5 h hD
  · have hD := hD.2 c9
    refine g_iload_n (pc := 31) rfl 3 rfl C dX0_passHour_31 ?_
    refine g_iload (pc := 32) 6 rfl C dX0_passHour_32 ?_
    refine g_ishr (pc := 34) C dX0_passHour_34 ?_
    refine g_iconst (pc := 35) (v := 1) (by decide) C dX0_passHour_35 ?_
    refine g_iand (pc := 36) C dX0_passHour_36 ?_
    refine g_iconst (pc := 37) (v := 1) (by decide) C dX0_passHour_37 ?_
    refine g_icmp_ne (pc := 38) 61 C dX0_passHour_38 (by decide) (fun c10 => ?_) (fun c10 => ?_)
    · have hD := hD.1 c10
      refine g_iinc (pc := 61) (q := 6) (c := 1) (fun x11 => [(6, .int x11), (0, .ref l0), (1, .ref l1), (2, .int l2), (3, .int l3), (4, .int l4), (5, .int l5)]) C dX0_passHour_61 rfl (by decide) (by decide) rfl (fun x11 ex11 => ?_)
      have hD := hD x11 ex11
      refine g_goto (pc := 64) 22 C dX0_passHour_64 (by decide) ?_
      refine g_sub [1, 2, 3, 4, 5, 6, 0] rfl ?_
      exact hK22 l5 x11 h hD
    · have hD := hD.2 c10
      refine g_iload (pc := 41) 5 rfl C dX0_passHour_41 ?_
      refine g_aload_n (pc := 43) rfl 0 rfl C dX0_passHour_43 ?_
      refine g_aload_n (pc := 44) rfl 1 rfl C dX0_passHour_44 ?_
      refine g_iload (pc := 45) 6 rfl C dX0_passHour_45 ?_
      refine g_iload (pc := 47) 4 rfl C dX0_passHour_47 ?_
      refine g_iload_n (pc := 49) rfl 2 rfl C dX0_passHour_49 ?_
      refine g_callVi (pc := 50) (As := [.ref l1, .int l6, .int l4, .int l2]) C mv_RX0_179 (M_Bay_wayOf t0 t1 hD) t0 (by decide) rfl rfl (Nat.le_of_ble_eq_true rfl) dX0_passHour_50 (fun x13 h12 hD => ?_)
      refine g_iconst (pc := 53) (v := 3) (by decide) C dX0_passHour_53 ?_
      refine g_iload (pc := 54) 6 rfl C dX0_passHour_54 ?_
      refine g_imul (pc := 56) C dX0_passHour_56 ?_
      refine g_ishl (pc := 57) C dX0_passHour_57 ?_
      refine g_ior (pc := 58) C dX0_passHour_58 ?_
      refine g_istore (pc := 59) (fun x14 => [(5, .int x14), (0, .ref l0), (1, .ref l1), (2, .int l2), (3, .int l3), (4, .int l4), (6, .int l6)]) C dX0_passHour_59 (by decide) rfl (fun x14 ex14 => ?_)
      have hD := hD x14 ex14
      refine g_iinc (pc := 61) (q := 6) (c := 1) (fun x15 => [(6, .int x15), (5, .int x14), (0, .ref l0), (1, .ref l1), (2, .int l2), (3, .int l3), (4, .int l4)]) C dX0_passHour_61 rfl (by decide) (by decide) rfl (fun x15 ex15 => ?_)
      have hD := hD x15 ex15
      refine g_goto (pc := 64) 22 C dX0_passHour_64 (by decide) ?_
      refine g_sub [2, 3, 4, 5, 6, 1, 0] rfl ?_
      exact hK22 x14 x15 h12 hD
def DB_Bay_passHour_70 (r : TR) (l0 : Nat) (l1 : Nat) (l3 : Int32) (l5 : Int32) (l6 : Int32) (h : TH) (K70 : Int32 → TH → Prop) (K113 : TH → Prop) (Q : TH → Prop) : Prop :=
  (((h.1 l0 2) ≤ l6 → K113 h) ∧ (¬ (h.1 l0 2) ≤ l6 → ((¬ ((l3 >>> (l6 &&& 31)) &&& 1) = 1 → ∀ x24 : Int32, x24 = l6 + 1 → K70 x24 h) ∧ (((l3 >>> (l6 &&& 31)) &&& 1) = 1 → D_Bay_move r l0 l1 l6 ((l5 >>> ((3 * l6) &&& 31)) &&& 7) h (fun x26 h25 => ∀ x27 : Int32, x27 = l6 + 1 → K70 x27 h25)))))
set_option maxRecDepth 100000 in
set_option maxHeartbeats 4000000 in
theorem WB_Bay_passHour_70 {Y : CG} {X : CX} {r : TR} {l0 : Nat} {l1 : Nat} {l3 : Int32} {l5 : Int32} {l6 : Int32} {h : TH} {K70 : Int32 → TH → Prop} {K113 : TH → Prop} {Q : TH → Prop} (C : Gd Y X cX0_passHour 7 RX0 5) (R : Rv Y r X Q) (t0 : TO Y l0 0) (t1 : TO Y l1 5) (hK70 : ∀ (k6 : Int32) (hh : TH), K70 k6 hh → G Y X 7 70 [(0, .ref l0), (1, .ref l1), (3, .int l3), (5, .int l5), (6, .int k6)] [] r hh) (hK113 : ∀ (hh : TH), K113 hh → G Y X 7 113 [(0, .ref l0), (1, .ref l1)] [] r hh) (hD : DB_Bay_passHour_70 r l0 l1 l3 l5 l6 h K70 K113 Q) : G Y X 7 70 [(0, .ref l0), (1, .ref l1), (3, .int l3), (5, .int l5), (6, .int l6)] [] r h := by
  unfold DB_Bay_passHour_70 at hD
  refine g_wt (fun hw => ?_)
  refine g_iload (pc := 70) 4 rfl C dX0_passHour_70 ?_
  refine g_aload_n (pc := 72) rfl 0 rfl C dX0_passHour_72 ?_
  refine g_getI (pc := 73) C fl_RX0_18 t0 rfl dX0_passHour_73 ?_
  refine g_icmp_ge (pc := 76) 113 C dX0_passHour_76 (by decide) (fun c22 => ?_) (fun c22 => ?_)
  · have hD := hD.1 c22
    refine g_sub [0, 1] rfl ?_
    exact hK113 h hD
  · have hD := hD.2 c22
    refine g_iload_n (pc := 79) rfl 2 rfl C dX0_passHour_79 ?_
    refine g_iload (pc := 80) 4 rfl C dX0_passHour_80 ?_
    refine g_ishr (pc := 82) C dX0_passHour_82 ?_
    refine g_iconst (pc := 83) (v := 1) (by decide) C dX0_passHour_83 ?_
    refine g_iand (pc := 84) C dX0_passHour_84 ?_
    refine g_iconst (pc := 85) (v := 1) (by decide) C dX0_passHour_85 ?_
    refine g_icmp_ne (pc := 86) 107 C dX0_passHour_86 (by decide) (fun c23 => ?_) (fun c23 => ?_)
    · have hD := hD.1 c23
      refine g_iinc (pc := 107) (q := 4) (c := 1) (fun x24 => [(6, .int x24), (0, .ref l0), (1, .ref l1), (3, .int l3), (5, .int l5)]) C dX0_passHour_107 rfl (by decide) (by decide) rfl (fun x24 ex24 => ?_)
      have hD := hD x24 ex24
      refine g_goto (pc := 110) 70 C dX0_passHour_110 (by decide) ?_
      refine g_sub [1, 2, 3, 4, 0] rfl ?_
      exact hK70 x24 h hD
    · have hD := hD.2 c23
      refine g_aload_n (pc := 89) rfl 0 rfl C dX0_passHour_89 ?_
      refine g_aload_n (pc := 90) rfl 1 rfl C dX0_passHour_90 ?_
      refine g_iload (pc := 91) 4 rfl C dX0_passHour_91 ?_
      refine g_iload (pc := 93) 3 rfl C dX0_passHour_93 ?_
      refine g_iconst (pc := 95) (v := 3) (by decide) C dX0_passHour_95 ?_
      refine g_iload (pc := 96) 4 rfl C dX0_passHour_96 ?_
      refine g_imul (pc := 98) C dX0_passHour_98 ?_
      refine g_ishr (pc := 99) C dX0_passHour_99 ?_
      refine g_bipush (pc := 100) (v := 7) (by decide) C dX0_passHour_100 ?_
      refine g_iand (pc := 102) C dX0_passHour_102 ?_
      refine g_callVi (pc := 103) (As := [.ref l1, .int l6, .int ((l5 >>> ((3 * l6) &&& 31)) &&& 7)]) C mv_RX0_183 (M_Bay_move t0 t1 hD) t0 (by decide) rfl rfl (Nat.le_of_ble_eq_true rfl) dX0_passHour_103 (fun x26 h25 hD => ?_)
      refine g_pop (pc := 106) rfl C dX0_passHour_106 ?_
      refine g_iinc (pc := 107) (q := 4) (c := 1) (fun x27 => [(6, .int x27), (0, .ref l0), (1, .ref l1), (3, .int l3), (5, .int l5)]) C dX0_passHour_107 rfl (by decide) (by decide) rfl (fun x27 ex27 => ?_)
      have hD := hD x27 ex27
      refine g_goto (pc := 110) 70 C dX0_passHour_110 (by decide) ?_
      refine g_sub [1, 2, 3, 4, 0] rfl ?_
      exact hK70 x27 h25 hD
def D_Bay_passHour (r : TR) (o : Nat) (a1 : Nat) (a2 : Int32) (h : TH) (Q : TH → Prop) : Prop :=
  D_Bay_sailing r o a1 h (fun x2 h1 => D_Bay_windAt r o (h1.1 a1 0) h1 (fun x5 h4 => ∃ n, lp (fun (K : Int32 × Int32 × TH → Prop) (s : Int32 × Int32 × TH) => DB_Bay_passHour_22 r o a1 a2 x2 x5 s.1 s.2.1 s.2.2 (fun y16 y17 h18 => K (y16, y17, h18)) (fun x19 h20 => ∃ n, lp (fun (K : Int32 × TH → Prop) (s : Int32 × TH) => DB_Bay_passHour_70 r o a1 x2 x19 s.1 s.2 (fun y28 h29 => K (y28, h29)) (fun h30 => ∀ h31, h31 = pI h30 a1 0 ((h30.1 a1 0) + 1) → D_Bay_layDishes r o a1 h31 (fun h32 => Q h32)) Q) n (0, h20)) Q) n (0, 0, h4)))
set_option maxRecDepth 100000 in
set_option maxHeartbeats 4000000 in
theorem M_Bay_passHour {Y : CG} {r : TR} {l : Launch} {o : Nat} {a1 : Nat} {a2 : Int32} {h : TH} {Q : TH → Prop} (t0 : TO Y o 0) (t1 : TO Y a1 5) (hD : D_Bay_passHour r o a1 a2 h Q) : Mv Y r l yX0_passHour cX0_passHour 7 5 [.ref o, .ref a1, .int a2] h Q := by
  unfold D_Bay_passHour at hD
  refine Mv.of RX0 rfl (by decide) (by simp [lg_sl, Value.category]) [(0, .ref o), (1, .ref a1), (2, .int a2)] rfl (fun X hXl C R => ?_)
  subst hXl
  refine g_wt (fun hw => ?_)
  refine g_aload_n (pc := 0) rfl 0 rfl C dX0_passHour_0 ?_
  refine g_aload_n (pc := 1) rfl 1 rfl C dX0_passHour_1 ?_
  refine g_callVi (pc := 2) (As := [.ref a1]) C mv_RX0_144 (M_Bay_sailing t0 t1 hD) t0 (by decide) rfl rfl (Nat.le_of_ble_eq_true rfl) dX0_passHour_2 (fun x2 h1 hD => ?_)
  refine g_istore_n (pc := 5) (fun _ => [(3, .int x2), (0, .ref o), (1, .ref a1), (2, .int a2)]) C dX0_passHour_5 rfl (by decide) rfl (fun _ _ => ?_)
  refine g_aload_n (pc := 6) rfl 1 rfl C dX0_passHour_6 ?_
  refine g_aload_n (pc := 7) rfl 2 rfl C dX0_passHour_7 ?_
  refine g_getI (pc := 8) C fl_RX0_103 t1 rfl dX0_passHour_8 ?_
  refine g_callVi (pc := 11) (As := [.int (h1.1 a1 0)]) C mv_RX0_106 (M_Bay_windAt t0 hD) t0 (by decide) rfl rfl (Nat.le_of_ble_eq_true rfl) dX0_passHour_11 (fun x5 h4 hD => ?_)
  refine g_istore (pc := 14) (fun _ => [(4, .int x5), (3, .int x2), (0, .ref o), (1, .ref a1), (2, .int a2)]) C dX0_passHour_14 (by decide) rfl (fun _ _ => ?_)
  refine g_iconst (pc := 16) (v := 0) (by decide) C dX0_passHour_16 ?_
  refine g_istore (pc := 17) (fun _ => [(5, .int 0), (4, .int x5), (3, .int x2), (0, .ref o), (1, .ref a1), (2, .int a2)]) C dX0_passHour_17 (by decide) rfl (fun _ _ => ?_)
  refine g_iconst (pc := 19) (v := 0) (by decide) C dX0_passHour_19 ?_
  refine g_istore (pc := 20) (fun _ => [(6, .int 0), (5, .int 0), (4, .int x5), (3, .int x2), (0, .ref o), (1, .ref a1), (2, .int a2)]) C dX0_passHour_20 (by decide) rfl (fun _ _ => ?_)
  obtain ⟨n, hD⟩ := hD
  refine g_sub [4, 5, 6, 3, 2, 1, 0] rfl ?_
  refine lp_run (fun s : Int32 × Int32 × TH => G Y X 7 22 [(0, .ref o), (1, .ref a1), (2, .int a2), (3, .int x2), (4, .int x5), (5, .int s.1), (6, .int s.2.1)] [] r s.2.2) (fun K s hB hK => ?_) n (0, 0, h4) hD
  refine WB_Bay_passHour_22 C R t0 t1 (fun y16 y17 h18 hk => hK _ hk) (fun x19 h20 hD => ?_) hB
  · refine g_iconst (pc := 67) (v := 0) (by decide) C dX0_passHour_67 ?_
    refine g_istore (pc := 68) (fun _ => [(6, .int 0), (0, .ref o), (1, .ref a1), (3, .int x2), (5, .int x19)]) C dX0_passHour_68 (by decide) rfl (fun _ _ => ?_)
    obtain ⟨n, hD⟩ := hD
    refine g_sub [1, 2, 3, 4, 0] rfl ?_
    refine lp_run (fun s : Int32 × TH => G Y X 7 70 [(0, .ref o), (1, .ref a1), (3, .int x2), (5, .int x19), (6, .int s.1)] [] r s.2) (fun K s hB hK => ?_) n (0, h20) hD
    refine WB_Bay_passHour_70 C R t0 t1 (fun y28 h29 hk => hK _ hk) (fun h30 hD => ?_) hB
    · refine g_aload_n (pc := 113) rfl 1 rfl C dX0_passHour_113 ?_
      refine g_dup (pc := 114) rfl C dX0_passHour_114 ?_
      refine g_getI (pc := 115) C fl_RX0_103 t1 rfl dX0_passHour_115 ?_
      refine g_iconst (pc := 118) (v := 1) (by decide) C dX0_passHour_118 ?_
      refine g_iadd (pc := 119) C dX0_passHour_119 ?_
      refine g_putI (pc := 120) C fl_RX0_103 t1 rfl rfl rfl dX0_passHour_120 (fun h31 eh31 => ?_)
      have hD := hD h31 eh31
      refine g_aload_n (pc := 123) rfl 0 rfl C dX0_passHour_123 ?_
      refine g_aload_n (pc := 124) rfl 1 rfl C dX0_passHour_124 ?_
      refine g_callVv (pc := 125) (As := [.ref a1]) C mv_RX0_171 (M_Bay_layDishes t0 t1 hD) t0 (by decide) rfl rfl (Nat.le_of_ble_eq_true rfl) dX0_passHour_125 (fun h32 hD => ?_)
      exact g_vret (pc := 128) C R dX0_passHour_128 hD
def DB_Bay_passHours_3 (r : TR) (l0 : Nat) (l1 : Nat) (l2 : Int32) (l3 : Int32) (l4 : Int32) (h : TH) (K3 : Int32 → TH → Prop) (K21 : TH → Prop) (Q : TH → Prop) : Prop :=
  ((l2 ≤ l4 → K21 h) ∧ (¬ l2 ≤ l4 → D_Bay_passHour r l0 l1 l3 h (fun h3 => ∀ x5 : Int32, x5 = l4 + 1 → K3 x5 h3)))
set_option maxRecDepth 100000 in
set_option maxHeartbeats 4000000 in
theorem WB_Bay_passHours_3 {Y : CG} {X : CX} {r : TR} {l0 : Nat} {l1 : Nat} {l2 : Int32} {l3 : Int32} {l4 : Int32} {h : TH} {K3 : Int32 → TH → Prop} {K21 : TH → Prop} {Q : TH → Prop} (C : Gd Y X cX0_passHours 5 RX0 6) (R : Rv Y r X Q) (t0 : TO Y l0 0) (t1 : TO Y l1 5) (hK3 : ∀ (k4 : Int32) (hh : TH), K3 k4 hh → G Y X 5 3 [(0, .ref l0), (1, .ref l1), (2, .int l2), (3, .int l3), (4, .int k4)] [] r hh) (hK21 : ∀ (hh : TH), K21 hh → G Y X 5 21 [] [] r hh) (hD : DB_Bay_passHours_3 r l0 l1 l2 l3 l4 h K3 K21 Q) : G Y X 5 3 [(0, .ref l0), (1, .ref l1), (2, .int l2), (3, .int l3), (4, .int l4)] [] r h := by
  unfold DB_Bay_passHours_3 at hD
  refine g_wt (fun hw => ?_)
  refine g_iload (pc := 3) 4 rfl C dX0_passHours_3 ?_
  refine g_iload_n (pc := 5) rfl 2 rfl C dX0_passHours_5 ?_
  refine g_icmp_ge (pc := 6) 21 C dX0_passHours_6 (by decide) (fun c2 => ?_) (fun c2 => ?_)
  · have hD := hD.1 c2
    refine g_sub [] rfl ?_
    exact hK21 h hD
  · have hD := hD.2 c2
    refine g_aload_n (pc := 9) rfl 0 rfl C dX0_passHours_9 ?_
    refine g_aload_n (pc := 10) rfl 1 rfl C dX0_passHours_10 ?_
    refine g_iload_n (pc := 11) rfl 3 rfl C dX0_passHours_11 ?_
    refine g_callVv (pc := 12) (As := [.ref l1, .int l3]) C mv_RX0_175 (M_Bay_passHour t0 t1 hD) t0 (by decide) rfl rfl (Nat.le_of_ble_eq_true rfl) dX0_passHours_12 (fun h3 hD => ?_)
    refine g_iinc (pc := 15) (q := 4) (c := 1) (fun x5 => [(4, .int x5), (0, .ref l0), (1, .ref l1), (2, .int l2), (3, .int l3)]) C dX0_passHours_15 rfl (by decide) (by decide) rfl (fun x5 ex5 => ?_)
    have hD := hD x5 ex5
    refine g_goto (pc := 18) 3 C dX0_passHours_18 (by decide) ?_
    refine g_sub [1, 2, 3, 4, 0] rfl ?_
    exact hK3 x5 h3 hD
def D_Bay_passHours (r : TR) (o : Nat) (a1 : Nat) (a2 : Int32) (a3 : Int32) (h : TH) (Q : TH → Prop) : Prop :=
  ∃ n, lp (fun (K : Int32 × TH → Prop) (s : Int32 × TH) => DB_Bay_passHours_3 r o a1 a2 a3 s.1 s.2 (fun y6 h7 => K (y6, h7)) (fun h8 => Q h8) Q) n (0, h)
set_option maxRecDepth 100000 in
set_option maxHeartbeats 4000000 in
theorem M_Bay_passHours {Y : CG} {r : TR} {l : Launch} {o : Nat} {a1 : Nat} {a2 : Int32} {a3 : Int32} {h : TH} {Q : TH → Prop} (t0 : TO Y o 0) (t1 : TO Y a1 5) (hD : D_Bay_passHours r o a1 a2 a3 h Q) : Mv Y r l yX0_passHours cX0_passHours 5 6 [.ref o, .ref a1, .int a2, .int a3] h Q := by
  unfold D_Bay_passHours at hD
  refine Mv.of RX0 rfl (by decide) (by simp [lg_sl, Value.category]) [(0, .ref o), (1, .ref a1), (2, .int a2), (3, .int a3)] rfl (fun X hXl C R => ?_)
  subst hXl
  refine g_wt (fun hw => ?_)
  refine g_iconst (pc := 0) (v := 0) (by decide) C dX0_passHours_0 ?_
  refine g_istore (pc := 1) (fun _ => [(4, .int 0), (0, .ref o), (1, .ref a1), (2, .int a2), (3, .int a3)]) C dX0_passHours_1 (by decide) rfl (fun _ _ => ?_)
  obtain ⟨n, hD⟩ := hD
  refine g_sub [1, 2, 3, 4, 0] rfl ?_
  refine lp_run (fun s : Int32 × TH => G Y X 5 3 [(0, .ref o), (1, .ref a1), (2, .int a2), (3, .int a3), (4, .int s.1)] [] r s.2) (fun K s hB hK => ?_) n (0, h) hD
  refine WB_Bay_passHours_3 C R t0 t1 (fun y6 h7 hk => hK _ hk) (fun h8 hD => ?_) hB
  · exact g_vret (pc := 21) C R dX0_passHours_21 hD
def DB_Bay_plume_9 (r : TR) (l0 : Nat) (l2 : Int32) (l3 : Int32) (l4 : Int64) (l6 : Int32) (l7 : Int32) (h : TH) (K9 : Int64 → Int32 → Int32 → TH → Prop) (K45 : Int64 → TH → Prop) (Q : Int64 → TH → Prop) : Prop :=
  ((l2 < l7 → K45 l4 h) ∧ (¬ l2 < l7 → ((l6 = (-1) → K45 l4 h) ∧ (¬ l6 = (-1) → ∀ x6 : Int64, x6 = l4 ||| (jshl 1 l6) → D_Bay_downwind r l0 l6 l3 h (fun x8 h7 => ∀ x10 : Int32, x10 = l7 + 1 → K9 x6 x8 x10 h7)))))
set_option maxRecDepth 100000 in
set_option maxHeartbeats 4000000 in
theorem WB_Bay_plume_9 {Y : CG} {X : CX} {r : TR} {l0 : Nat} {l2 : Int32} {l3 : Int32} {l4 : Int64} {l6 : Int32} {l7 : Int32} {h : TH} {K9 : Int64 → Int32 → Int32 → TH → Prop} {K45 : Int64 → TH → Prop} {Q : Int64 → TH → Prop} (C : Gd Y X cX0_plume 8 RX0 3) (R : Rl Y r X Q) (t0 : TO Y l0 0) (hK9 : ∀ (k4 : Int64) (k6 : Int32) (k7 : Int32) (hh : TH), K9 k4 k6 k7 hh → G Y X 8 9 [(0, .ref l0), (2, .int l2), (3, .int l3), (4, .long k4), (6, .int k6), (7, .int k7)] [] r hh) (hK45 : ∀ (k4 : Int64) (hh : TH), K45 k4 hh → G Y X 8 45 [(4, .long k4)] [] r hh) (hD : DB_Bay_plume_9 r l0 l2 l3 l4 l6 l7 h K9 K45 Q) : G Y X 8 9 [(0, .ref l0), (2, .int l2), (3, .int l3), (4, .long l4), (6, .int l6), (7, .int l7)] [] r h := by
  unfold DB_Bay_plume_9 at hD
  refine g_wt (fun hw => ?_)
  refine g_iload (pc := 9) 5 rfl C dX0_plume_9 ?_
  refine g_iload_n (pc := 11) rfl 1 rfl C dX0_plume_11 ?_
  refine g_icmp_gt (pc := 12) 45 C dX0_plume_12 (by decide) (fun c4 => ?_) (fun c4 => ?_)
  · have hD := hD.1 c4
    refine g_sub [3] rfl ?_
    exact hK45 l4 h hD
  · have hD := hD.2 c4
    refine g_iload (pc := 15) 4 rfl C dX0_plume_15 ?_
    refine g_iconst (pc := 17) (v := (-1)) (by decide) C dX0_plume_17 ?_
    refine g_icmp_eq (pc := 18) 45 C dX0_plume_18 (by decide) (fun c5 => ?_) (fun c5 => ?_)
    · have hD := hD.1 c5
      refine g_sub [3] rfl ?_
      exact hK45 l4 h hD
    · have hD := hD.2 c5
      refine g_lload (pc := 21) 3 rfl C dX0_plume_21 ?_
      refine g_lconst (pc := 23) (v := 1) (by decide) C dX0_plume_23 ?_
      refine g_iload (pc := 24) 4 rfl C dX0_plume_24 ?_
      refine g_lshl (pc := 26) C dX0_plume_26 ?_
      refine g_lor (pc := 27) C dX0_plume_27 ?_
      refine g_lstore (pc := 28) (fun x6 => [(4, .long x6), (0, .ref l0), (2, .int l2), (3, .int l3), (6, .int l6), (7, .int l7)]) C dX0_plume_28 (by decide) rfl (fun x6 ex6 => ?_)
      have hD := hD x6 ex6
      refine g_aload_n (pc := 30) rfl 1 rfl C dX0_plume_30 ?_
      refine g_iload (pc := 31) 4 rfl C dX0_plume_31 ?_
      refine g_iload_n (pc := 33) rfl 3 rfl C dX0_plume_33 ?_
      refine g_callVi (pc := 34) (As := [.int l6, .int l3]) C mv_RX0_120 (M_Bay_downwind t0 hD) t0 (by decide) rfl rfl (Nat.le_of_ble_eq_true rfl) dX0_plume_34 (fun x8 h7 hD => ?_)
      refine g_istore (pc := 37) (fun _ => [(6, .int x8), (4, .long x6), (0, .ref l0), (2, .int l2), (3, .int l3), (7, .int l7)]) C dX0_plume_37 (by decide) rfl (fun _ _ => ?_)
      refine g_iinc (pc := 39) (q := 5) (c := 1) (fun x10 => [(7, .int x10), (6, .int x8), (4, .long x6), (0, .ref l0), (2, .int l2), (3, .int l3)]) C dX0_plume_39 rfl (by decide) (by decide) rfl (fun x10 ex10 => ?_)
      have hD := hD x10 ex10
      refine g_goto (pc := 42) 9 C dX0_plume_42 (by decide) ?_
      refine g_sub [3, 4, 5, 2, 1, 0] rfl ?_
      exact hK9 x6 x8 x10 h7 hD
def D_Bay_plume (r : TR) (o : Nat) (a1 : Int32) (a2 : Int32) (a3 : Int32) (h : TH) (Q : Int64 → TH → Prop) : Prop :=
  ∃ n, lp (fun (K : Int64 × Int32 × Int32 × TH → Prop) (s : Int64 × Int32 × Int32 × TH) => DB_Bay_plume_9 r o a2 a3 s.1 s.2.1 s.2.2.1 s.2.2.2 (fun y11 y12 y13 h14 => K (y11, y12, y13, h14)) (fun x15 h16 => Q x15 h16) Q) n (0, a1, 0, h)
set_option maxRecDepth 100000 in
set_option maxHeartbeats 4000000 in
theorem M_Bay_plume {Y : CG} {r : TR} {l : Launch} {o : Nat} {a1 : Int32} {a2 : Int32} {a3 : Int32} {h : TH} {Q : Int64 → TH → Prop} (t0 : TO Y o 0) (hD : D_Bay_plume r o a1 a2 a3 h Q) : Ml Y r l yX0_plume cX0_plume 8 3 [.ref o, .int a1, .int a2, .int a3] h Q := by
  unfold D_Bay_plume at hD
  refine Ml.of RX0 rfl (by decide) (by simp [lg_sl, Value.category]) [(0, .ref o), (1, .int a1), (2, .int a2), (3, .int a3)] rfl (fun X hXl C R => ?_)
  subst hXl
  refine g_wt (fun hw => ?_)
  refine g_lconst (pc := 0) (v := 0) (by decide) C dX0_plume_0 ?_
  refine g_lstore (pc := 1) (fun _ => [(4, .long 0), (0, .ref o), (1, .int a1), (2, .int a2), (3, .int a3)]) C dX0_plume_1 (by decide) rfl (fun _ _ => ?_)
  refine g_iload_n (pc := 3) rfl 2 rfl C dX0_plume_3 ?_
  refine g_istore (pc := 4) (fun _ => [(6, .int a1), (4, .long 0), (0, .ref o), (1, .int a1), (2, .int a2), (3, .int a3)]) C dX0_plume_4 (by decide) rfl (fun _ _ => ?_)
  refine g_iconst (pc := 6) (v := 0) (by decide) C dX0_plume_6 ?_
  refine g_istore (pc := 7) (fun _ => [(7, .int 0), (6, .int a1), (4, .long 0), (0, .ref o), (1, .int a1), (2, .int a2), (3, .int a3)]) C dX0_plume_7 (by decide) rfl (fun _ _ => ?_)
  obtain ⟨n, hD⟩ := hD
  refine g_sub [3, 5, 6, 2, 1, 0] rfl ?_
  refine lp_run (fun s : Int64 × Int32 × Int32 × TH => G Y X 8 9 [(0, .ref o), (2, .int a2), (3, .int a3), (4, .long s.1), (6, .int s.2.1), (7, .int s.2.2.1)] [] r s.2.2.2) (fun K s hB hK => ?_) n (0, a1, 0, h) hD
  refine WB_Bay_plume_9 C R t0 (fun y11 y12 y13 h14 hk => hK _ hk) (fun x15 h16 hD => ?_) hB
  · refine g_lload (pc := 45) 0 rfl C dX0_plume_45 ?_
    exact g_lret (pc := 47) C R dX0_plume_47 hD
def DB_Bay_spread_15 (r : TR) (l0 : Nat) (l1 : Int64) (l3 : Int64) (l5 : Int32) (l6 : Int32) (h : TH) (K5 : Int64 → Int32 → TH → Prop) (K15 : Int64 → Int32 → TH → Prop) (K72 : Int64 → TH → Prop) (K78 : Int64 → TH → Prop) (Q : Int64 → TH → Prop) : Prop :=
  ((5 ≤ l6 → K72 l3 h) ∧ (¬ 5 ≤ l6 → ((¬ (lg_cmp ((jshr l1 l5) &&& 1) 1) = 0 → K72 l3 h) ∧ ((lg_cmp ((jshr l1 l5) &&& 1) 1) = 0 → D_Bay_beside r l0 l5 l6 h (fun x8 h7 => ((x8 = (-1) → ∀ x11 : Int32, x11 = l6 + 1 → K15 l3 x11 h7) ∧ (¬ x8 = (-1) → vp_in x8 40 ∧ (((h7.1 (r l0 5) x8.toNatClampNeg) = 1 → ∀ x14 : Int32, x14 = l6 + 1 → K15 l3 x14 h7) ∧ (¬ (h7.1 (r l0 5) x8.toNatClampNeg) = 1 → ∀ x15 : Int64, x15 = l3 ||| (jshl 1 x8) → ∀ x16 : Int32, x16 = l6 + 1 → K15 x15 x16 h7)))))))))
set_option maxRecDepth 100000 in
set_option maxHeartbeats 4000000 in
theorem WB_Bay_spread_15 {Y : CG} {X : CX} {r : TR} {l0 : Nat} {l1 : Int64} {l3 : Int64} {l5 : Int32} {l6 : Int32} {h : TH} {K5 : Int64 → Int32 → TH → Prop} {K15 : Int64 → Int32 → TH → Prop} {K72 : Int64 → TH → Prop} {K78 : Int64 → TH → Prop} {Q : Int64 → TH → Prop} (C : Gd Y X cX0_spread 8 RX0 2) (R : Rl Y r X Q) (t0 : TO Y l0 0) (hK5 : ∀ (k3 : Int64) (k5 : Int32) (hh : TH), K5 k3 k5 hh → G Y X 8 5 [(0, .ref l0), (1, .long l1), (3, .long k3), (5, .int k5)] [] r hh) (hK15 : ∀ (k3 : Int64) (k6 : Int32) (hh : TH), K15 k3 k6 hh → G Y X 8 15 [(0, .ref l0), (1, .long l1), (3, .long k3), (5, .int l5), (6, .int k6)] [] r hh) (hK72 : ∀ (k3 : Int64) (hh : TH), K72 k3 hh → G Y X 8 72 [(0, .ref l0), (1, .long l1), (3, .long k3), (5, .int l5)] [] r hh) (hK78 : ∀ (k3 : Int64) (hh : TH), K78 k3 hh → G Y X 8 78 [(3, .long k3)] [] r hh) (hD : DB_Bay_spread_15 r l0 l1 l3 l5 l6 h K5 K15 K72 K78 Q) : G Y X 8 15 [(0, .ref l0), (1, .long l1), (3, .long l3), (5, .int l5), (6, .int l6)] [] r h := by
  unfold DB_Bay_spread_15 at hD
  refine g_wt (fun hw => ?_)
  refine g_iload (pc := 15) 4 rfl C dX0_spread_15 ?_
  refine g_iconst (pc := 17) (v := 5) (by decide) C dX0_spread_17 ?_
  refine g_icmp_ge (pc := 18) 72 C dX0_spread_18 (by decide) (fun c5 => ?_) (fun c5 => ?_)
  · have hD := hD.1 c5
    refine g_sub [0, 1, 2, 3] rfl ?_
    exact hK72 l3 h hD
  · have hD := hD.2 c5
    refine g_lload_n (pc := 21) rfl 1 rfl C dX0_spread_21 ?_
    refine g_iload (pc := 22) 3 rfl C dX0_spread_22 ?_
    refine g_lshr (pc := 24) C dX0_spread_24 ?_
    refine g_lconst (pc := 25) (v := 1) (by decide) C dX0_spread_25 ?_
    refine g_land (pc := 26) C dX0_spread_26 ?_
    refine g_lconst (pc := 27) (v := 1) (by decide) C dX0_spread_27 ?_
    refine g_lcmp (pc := 28) C dX0_spread_28 ?_
    refine g_if_ne (pc := 29) 72 C dX0_spread_29 (by decide) (fun c6 => ?_) (fun c6 => ?_)
    · have hD := hD.1 c6
      refine g_sub [0, 1, 2, 3] rfl ?_
      exact hK72 l3 h hD
    · have hD := hD.2 c6
      refine g_aload_n (pc := 32) rfl 0 rfl C dX0_spread_32 ?_
      refine g_iload (pc := 33) 3 rfl C dX0_spread_33 ?_
      refine g_iload (pc := 35) 4 rfl C dX0_spread_35 ?_
      refine g_callVi (pc := 37) (As := [.int l5, .int l6]) C mv_RX0_100 (M_Bay_beside t0 hD) t0 (by decide) rfl rfl (Nat.le_of_ble_eq_true rfl) dX0_spread_37 (fun x8 h7 hD => ?_)
      refine g_istore (pc := 40) (fun _ => [(7, .int x8), (0, .ref l0), (1, .long l1), (3, .long l3), (5, .int l5), (6, .int l6)]) C dX0_spread_40 (by decide) rfl (fun _ _ => ?_)
      refine g_iload (pc := 42) 0 rfl C dX0_spread_42 ?_
      refine g_iconst (pc := 44) (v := (-1)) (by decide) C dX0_spread_44 ?_
      refine g_icmp_eq (pc := 45) 66 C dX0_spread_45 (by decide) (fun c10 => ?_) (fun c10 => ?_)
      · have hD := hD.1 c10
        refine g_iinc (pc := 66) (q := 5) (c := 1) (fun x11 => [(6, .int x11), (7, .int x8), (0, .ref l0), (1, .long l1), (3, .long l3), (5, .int l5)]) C dX0_spread_66 rfl (by decide) (by decide) rfl (fun x11 ex11 => ?_)
        have hD := hD x11 ex11
        refine g_goto (pc := 69) 15 C dX0_spread_69 (by decide) ?_
        refine g_sub [2, 3, 4, 5, 0] rfl ?_
        exact hK15 l3 x11 h7 hD
      · have hD := hD.2 c10
        refine g_aload_n (pc := 48) rfl 1 rfl C dX0_spread_48 ?_
        have u12 : TA Y (r l0 5) 10 40 := wt_a hw t0 (by decide) (by decide) rfl
        refine g_getR (pc := 49) C fl_RX0_27 t0 rfl dX0_spread_49 ?_
        refine g_iload (pc := 52) 0 rfl C dX0_spread_52 ?_
        obtain ⟨hb, hD⟩ := hD
        refine g_iald (pc := 54) C u12 hb dX0_spread_54 ?_
        refine g_iconst (pc := 55) (v := 1) (by decide) C dX0_spread_55 ?_
        refine g_icmp_eq (pc := 56) 66 C dX0_spread_56 (by decide) (fun c13 => ?_) (fun c13 => ?_)
        · have hD := hD.1 c13
          refine g_iinc (pc := 66) (q := 5) (c := 1) (fun x14 => [(6, .int x14), (7, .int x8), (0, .ref l0), (1, .long l1), (3, .long l3), (5, .int l5)]) C dX0_spread_66 rfl (by decide) (by decide) rfl (fun x14 ex14 => ?_)
          have hD := hD x14 ex14
          refine g_goto (pc := 69) 15 C dX0_spread_69 (by decide) ?_
          refine g_sub [2, 3, 4, 5, 0] rfl ?_
          exact hK15 l3 x14 h7 hD
        · have hD := hD.2 c13
          refine g_lload_n (pc := 59) rfl 3 rfl C dX0_spread_59 ?_
          refine g_lconst (pc := 60) (v := 1) (by decide) C dX0_spread_60 ?_
          refine g_iload (pc := 61) 0 rfl C dX0_spread_61 ?_
          refine g_lshl (pc := 63) C dX0_spread_63 ?_
          refine g_lor (pc := 64) C dX0_spread_64 ?_
          refine g_lstore_n (pc := 65) (fun x15 => [(3, .long x15), (7, .int x8), (0, .ref l0), (1, .long l1), (5, .int l5), (6, .int l6)]) C dX0_spread_65 rfl (by decide) rfl (fun x15 ex15 => ?_)
          have hD := hD x15 ex15
          refine g_iinc (pc := 66) (q := 5) (c := 1) (fun x16 => [(6, .int x16), (3, .long x15), (7, .int x8), (0, .ref l0), (1, .long l1), (5, .int l5)]) C dX0_spread_66 rfl (by decide) (by decide) rfl (fun x16 ex16 => ?_)
          have hD := hD x16 ex16
          refine g_goto (pc := 69) 15 C dX0_spread_69 (by decide) ?_
          refine g_sub [3, 4, 1, 5, 0] rfl ?_
          exact hK15 x15 x16 h7 hD
def DB_Bay_spread_5 (r : TR) (l0 : Nat) (l1 : Int64) (l3 : Int64) (l5 : Int32) (h : TH) (K5 : Int64 → Int32 → TH → Prop) (K78 : Int64 → TH → Prop) (Q : Int64 → TH → Prop) : Prop :=
  ((40 ≤ l5 → K78 l3 h) ∧ (¬ 40 ≤ l5 → ∃ n, lp (fun (K : Int64 × Int32 × TH → Prop) (s : Int64 × Int32 × TH) => DB_Bay_spread_15 r l0 l1 s.1 l5 s.2.1 s.2.2 K5 (fun y17 y18 h19 => K (y17, y18, h19)) (fun x20 h21 => ∀ x22 : Int32, x22 = l5 + 1 → K5 x20 x22 h21) K78 Q) n (l3, 1, h)))
set_option maxRecDepth 100000 in
set_option maxHeartbeats 4000000 in
theorem WB_Bay_spread_5 {Y : CG} {X : CX} {r : TR} {l0 : Nat} {l1 : Int64} {l3 : Int64} {l5 : Int32} {h : TH} {K5 : Int64 → Int32 → TH → Prop} {K78 : Int64 → TH → Prop} {Q : Int64 → TH → Prop} (C : Gd Y X cX0_spread 8 RX0 2) (R : Rl Y r X Q) (t0 : TO Y l0 0) (hK5 : ∀ (k3 : Int64) (k5 : Int32) (hh : TH), K5 k3 k5 hh → G Y X 8 5 [(0, .ref l0), (1, .long l1), (3, .long k3), (5, .int k5)] [] r hh) (hK78 : ∀ (k3 : Int64) (hh : TH), K78 k3 hh → G Y X 8 78 [(3, .long k3)] [] r hh) (hD : DB_Bay_spread_5 r l0 l1 l3 l5 h K5 K78 Q) : G Y X 8 5 [(0, .ref l0), (1, .long l1), (3, .long l3), (5, .int l5)] [] r h := by
  unfold DB_Bay_spread_5 at hD
  refine g_wt (fun hw => ?_)
  refine g_iload (pc := 5) 3 rfl C dX0_spread_5 ?_
  refine g_bipush (pc := 7) (v := 40) (by decide) C dX0_spread_7 ?_
  refine g_icmp_ge (pc := 9) 78 C dX0_spread_9 (by decide) (fun c3 => ?_) (fun c3 => ?_)
  · have hD := hD.1 c3
    refine g_sub [2] rfl ?_
    exact hK78 l3 h hD
  · have hD := hD.2 c3
    refine g_iconst (pc := 12) (v := 1) (by decide) C dX0_spread_12 ?_
    refine g_istore (pc := 13) (fun _ => [(6, .int 1), (0, .ref l0), (1, .long l1), (3, .long l3), (5, .int l5)]) C dX0_spread_13 (by decide) rfl (fun _ _ => ?_)
    obtain ⟨n, hD⟩ := hD
    refine g_sub [1, 2, 3, 4, 0] rfl ?_
    refine lp_run (fun s : Int64 × Int32 × TH => G Y X 8 15 [(0, .ref l0), (1, .long l1), (3, .long s.1), (5, .int l5), (6, .int s.2.1)] [] r s.2.2) (fun K s hB hK => ?_) n (l3, 1, h) hD
    refine WB_Bay_spread_15 C R t0 hK5 (fun y17 y18 h19 hk => hK _ hk) (fun x20 h21 hD => ?_) hK78 hB
    · refine g_iinc (pc := 72) (q := 3) (c := 1) (fun x22 => [(5, .int x22), (0, .ref l0), (1, .long l1), (3, .long x20)]) C dX0_spread_72 rfl (by decide) (by decide) rfl (fun x22 ex22 => ?_)
      have hD := hD x22 ex22
      refine g_goto (pc := 75) 5 C dX0_spread_75 (by decide) ?_
      refine g_sub [1, 2, 3, 0] rfl ?_
      exact hK5 x20 x22 h21 hD
def D_Bay_spread (r : TR) (o : Nat) (a1 : Int64) (h : TH) (Q : Int64 → TH → Prop) : Prop :=
  ∃ n, lp (fun (K : Int64 × Int32 × TH → Prop) (s : Int64 × Int32 × TH) => DB_Bay_spread_5 r o a1 s.1 s.2.1 s.2.2 (fun y23 y24 h25 => K (y23, y24, h25)) (fun x26 h27 => Q x26 h27) Q) n (a1, 0, h)
set_option maxRecDepth 100000 in
set_option maxHeartbeats 4000000 in
theorem M_Bay_spread {Y : CG} {r : TR} {l : Launch} {o : Nat} {a1 : Int64} {h : TH} {Q : Int64 → TH → Prop} (t0 : TO Y o 0) (hD : D_Bay_spread r o a1 h Q) : Ml Y r l yX0_spread cX0_spread 8 2 [.ref o, .long a1] h Q := by
  unfold D_Bay_spread at hD
  refine Ml.of RX0 rfl (by decide) (by simp [lg_sl, Value.category]) [(0, .ref o), (1, .long a1)] rfl (fun X hXl C R => ?_)
  subst hXl
  refine g_wt (fun hw => ?_)
  refine g_lload_n (pc := 0) rfl 1 rfl C dX0_spread_0 ?_
  refine g_lstore_n (pc := 1) (fun _ => [(3, .long a1), (0, .ref o), (1, .long a1)]) C dX0_spread_1 rfl (by decide) rfl (fun _ _ => ?_)
  refine g_iconst (pc := 2) (v := 0) (by decide) C dX0_spread_2 ?_
  refine g_istore (pc := 3) (fun _ => [(5, .int 0), (3, .long a1), (0, .ref o), (1, .long a1)]) C dX0_spread_3 (by decide) rfl (fun _ _ => ?_)
  obtain ⟨n, hD⟩ := hD
  refine g_sub [2, 3, 1, 0] rfl ?_
  refine lp_run (fun s : Int64 × Int32 × TH => G Y X 8 5 [(0, .ref o), (1, .long a1), (3, .long s.1), (5, .int s.2.1)] [] r s.2.2) (fun K s hB hK => ?_) n (a1, 0, h) hD
  refine WB_Bay_spread_5 C R t0 (fun y23 y24 h25 hk => hK _ hk) (fun x26 h27 hD => ?_) hB
  · refine g_lload_n (pc := 78) rfl 0 rfl C dX0_spread_78 ?_
    exact g_lret (pc := 79) C R dX0_spread_79 hD
def DB_Bay_unsmelt_16 (r : TR) (l0 : Nat) (l1 : Nat) (l2 : Int64) (l4 : Int32) (l5 : Int32) (l6 : Int64) (l8 : Int32) (h : TH) (K16 : Int64 → Int32 → TH → Prop) (K54 : Int64 → TH → Prop) (Q : Int64 → TH → Prop) : Prop :=
  (((h.1 l0 2) ≤ l8 → K54 l6 h) ∧ (¬ (h.1 l0 2) ≤ l8 → D_Sc_isSailing r l1 l8 h (fun x8 h7 => ((x8 = 0 → ∀ x10 : Int32, x10 = l8 + 1 → K16 l6 x10 h7) ∧ (¬ x8 = 0 → vp_in l8 6 ∧ ∀ x12 : Int64, x12 = l6 ||| (jshl 1 (h7.1 (r l1 4) l8.toNatClampNeg)) → ∀ x13 : Int32, x13 = l8 + 1 → K16 x12 x13 h7)))))
set_option maxRecDepth 100000 in
set_option maxHeartbeats 4000000 in
theorem WB_Bay_unsmelt_16 {Y : CG} {X : CX} {r : TR} {l0 : Nat} {l1 : Nat} {l2 : Int64} {l4 : Int32} {l5 : Int32} {l6 : Int64} {l8 : Int32} {h : TH} {K16 : Int64 → Int32 → TH → Prop} {K54 : Int64 → TH → Prop} {Q : Int64 → TH → Prop} (C : Gd Y X cX0_unsmelt 11 RX0 4) (R : Rl Y r X Q) (t0 : TO Y l0 0) (t1 : TO Y l1 5) (hK16 : ∀ (k6 : Int64) (k8 : Int32) (hh : TH), K16 k6 k8 hh → G Y X 11 16 [(0, .ref l0), (1, .ref l1), (2, .long l2), (4, .int l4), (5, .int l5), (6, .long k6), (8, .int k8)] [] r hh) (hK54 : ∀ (k6 : Int64) (hh : TH), K54 k6 hh → G Y X 11 54 [(0, .ref l0), (2, .long l2), (4, .int l4), (5, .int l5), (6, .long k6)] [] r hh) (hD : DB_Bay_unsmelt_16 r l0 l1 l2 l4 l5 l6 l8 h K16 K54 Q) : G Y X 11 16 [(0, .ref l0), (1, .ref l1), (2, .long l2), (4, .int l4), (5, .int l5), (6, .long l6), (8, .int l8)] [] r h := by
  unfold DB_Bay_unsmelt_16 at hD
  refine g_wt (fun hw => ?_)
  refine g_iload (pc := 16) 6 rfl C dX0_unsmelt_16 ?_
  refine g_aload_n (pc := 18) rfl 0 rfl C dX0_unsmelt_18 ?_
  refine g_getI (pc := 19) C fl_RX0_18 t0 rfl dX0_unsmelt_19 ?_
  refine g_icmp_ge (pc := 22) 54 C dX0_unsmelt_22 (by decide) (fun c6 => ?_) (fun c6 => ?_)
  · have hD := hD.1 c6
    refine g_sub [0, 2, 3, 4, 5] rfl ?_
    exact hK54 l6 h hD
  · have hD := hD.2 c6
    refine g_aload_n (pc := 25) rfl 1 rfl C dX0_unsmelt_25 ?_
    refine g_iload (pc := 26) 6 rfl C dX0_unsmelt_26 ?_
    refine g_callVi (pc := 28) (As := [.int l8]) C mv_RX0_109 (M_Sc_isSailing t1 hD) t1 (by decide) rfl rfl (Nat.le_of_ble_eq_true rfl) dX0_unsmelt_28 (fun x8 h7 hD => ?_)
    refine g_if_eq (pc := 31) 48 C dX0_unsmelt_31 (by decide) (fun c9 => ?_) (fun c9 => ?_)
    · have hD := hD.1 c9
      refine g_iinc (pc := 48) (q := 6) (c := 1) (fun x10 => [(8, .int x10), (0, .ref l0), (1, .ref l1), (2, .long l2), (4, .int l4), (5, .int l5), (6, .long l6)]) C dX0_unsmelt_48 rfl (by decide) (by decide) rfl (fun x10 ex10 => ?_)
      have hD := hD x10 ex10
      refine g_goto (pc := 51) 16 C dX0_unsmelt_51 (by decide) ?_
      refine g_sub [1, 2, 3, 4, 5, 6, 0] rfl ?_
      exact hK16 l6 x10 h7 hD
    · have hD := hD.2 c9
      refine g_lload (pc := 34) 5 rfl C dX0_unsmelt_34 ?_
      refine g_lconst (pc := 36) (v := 1) (by decide) C dX0_unsmelt_36 ?_
      refine g_aload_n (pc := 37) rfl 1 rfl C dX0_unsmelt_37 ?_
      have u11 : TA Y (r l1 4) 10 6 := wt_a hw t1 (by decide) (by decide) rfl
      refine g_getR (pc := 38) C fl_RX0_113 t1 rfl dX0_unsmelt_38 ?_
      refine g_iload (pc := 41) 6 rfl C dX0_unsmelt_41 ?_
      obtain ⟨hb, hD⟩ := hD
      refine g_iald (pc := 43) C u11 hb dX0_unsmelt_43 ?_
      refine g_lshl (pc := 44) C dX0_unsmelt_44 ?_
      refine g_lor (pc := 45) C dX0_unsmelt_45 ?_
      refine g_lstore (pc := 46) (fun x12 => [(6, .long x12), (0, .ref l0), (1, .ref l1), (2, .long l2), (4, .int l4), (5, .int l5), (8, .int l8)]) C dX0_unsmelt_46 (by decide) rfl (fun x12 ex12 => ?_)
      have hD := hD x12 ex12
      refine g_iinc (pc := 48) (q := 6) (c := 1) (fun x13 => [(8, .int x13), (6, .long x12), (0, .ref l0), (1, .ref l1), (2, .long l2), (4, .int l4), (5, .int l5)]) C dX0_unsmelt_48 rfl (by decide) (by decide) rfl (fun x13 ex13 => ?_)
      have hD := hD x13 ex13
      refine g_goto (pc := 51) 16 C dX0_unsmelt_51 (by decide) ?_
      refine g_sub [2, 3, 4, 5, 6, 1, 0] rfl ?_
      exact hK16 x12 x13 h7 hD
def DB_Bay_unsmelt_60 (r : TR) (l0 : Nat) (l2 : Int64) (l4 : Int32) (l5 : Int32) (l6 : Int64) (l8 : Int64) (l10 : Int32) (h : TH) (K60 : Int64 → Int32 → TH → Prop) (K111 : Int64 → TH → Prop) (Q : Int64 → TH → Prop) : Prop :=
  ((40 ≤ l10 → K111 l8 h) ∧ (¬ 40 ≤ l10 → ((¬ (lg_cmp ((jshr l2 l10) &&& 1) 1) = 0 → ∀ x23 : Int32, x23 = l10 + 1 → K60 l8 x23 h) ∧ ((lg_cmp ((jshr l2 l10) &&& 1) 1) = 0 → D_Bay_plume r l0 l10 l4 l5 h (fun x25 h24 => ((¬ (lg_cmp (x25 &&& l6) 0) = 0 → ∀ x27 : Int32, x27 = l10 + 1 → K60 l8 x27 h24) ∧ ((lg_cmp (x25 &&& l6) 0) = 0 → ∀ x28 : Int64, x28 = l8 ||| (jshl 1 l10) → ∀ x29 : Int32, x29 = l10 + 1 → K60 x28 x29 h24)))))))
set_option maxRecDepth 100000 in
set_option maxHeartbeats 4000000 in
theorem WB_Bay_unsmelt_60 {Y : CG} {X : CX} {r : TR} {l0 : Nat} {l2 : Int64} {l4 : Int32} {l5 : Int32} {l6 : Int64} {l8 : Int64} {l10 : Int32} {h : TH} {K60 : Int64 → Int32 → TH → Prop} {K111 : Int64 → TH → Prop} {Q : Int64 → TH → Prop} (C : Gd Y X cX0_unsmelt 11 RX0 4) (R : Rl Y r X Q) (t0 : TO Y l0 0) (hK60 : ∀ (k8 : Int64) (k10 : Int32) (hh : TH), K60 k8 k10 hh → G Y X 11 60 [(0, .ref l0), (2, .long l2), (4, .int l4), (5, .int l5), (6, .long l6), (8, .long k8), (10, .int k10)] [] r hh) (hK111 : ∀ (k8 : Int64) (hh : TH), K111 k8 hh → G Y X 11 111 [(8, .long k8)] [] r hh) (hD : DB_Bay_unsmelt_60 r l0 l2 l4 l5 l6 l8 l10 h K60 K111 Q) : G Y X 11 60 [(0, .ref l0), (2, .long l2), (4, .int l4), (5, .int l5), (6, .long l6), (8, .long l8), (10, .int l10)] [] r h := by
  unfold DB_Bay_unsmelt_60 at hD
  refine g_wt (fun hw => ?_)
  refine g_iload (pc := 60) 6 rfl C dX0_unsmelt_60 ?_
  refine g_bipush (pc := 62) (v := 40) (by decide) C dX0_unsmelt_62 ?_
  refine g_icmp_ge (pc := 64) 111 C dX0_unsmelt_64 (by decide) (fun c21 => ?_) (fun c21 => ?_)
  · have hD := hD.1 c21
    refine g_sub [5] rfl ?_
    exact hK111 l8 h hD
  · have hD := hD.2 c21
    refine g_lload_n (pc := 67) rfl 1 rfl C dX0_unsmelt_67 ?_
    refine g_iload (pc := 68) 6 rfl C dX0_unsmelt_68 ?_
    refine g_lshr (pc := 70) C dX0_unsmelt_70 ?_
    refine g_lconst (pc := 71) (v := 1) (by decide) C dX0_unsmelt_71 ?_
    refine g_land (pc := 72) C dX0_unsmelt_72 ?_
    refine g_lconst (pc := 73) (v := 1) (by decide) C dX0_unsmelt_73 ?_
    refine g_lcmp (pc := 74) C dX0_unsmelt_74 ?_
    refine g_if_ne (pc := 75) 105 C dX0_unsmelt_75 (by decide) (fun c22 => ?_) (fun c22 => ?_)
    · have hD := hD.1 c22
      refine g_iinc (pc := 105) (q := 6) (c := 1) (fun x23 => [(10, .int x23), (0, .ref l0), (2, .long l2), (4, .int l4), (5, .int l5), (6, .long l6), (8, .long l8)]) C dX0_unsmelt_105 rfl (by decide) (by decide) rfl (fun x23 ex23 => ?_)
      have hD := hD x23 ex23
      refine g_goto (pc := 108) 60 C dX0_unsmelt_108 (by decide) ?_
      refine g_sub [1, 2, 3, 4, 5, 6, 0] rfl ?_
      exact hK60 l8 x23 h hD
    · have hD := hD.2 c22
      refine g_aload_n (pc := 78) rfl 0 rfl C dX0_unsmelt_78 ?_
      refine g_iload (pc := 79) 6 rfl C dX0_unsmelt_79 ?_
      refine g_iload (pc := 81) 2 rfl C dX0_unsmelt_81 ?_
      refine g_iload (pc := 83) 3 rfl C dX0_unsmelt_83 ?_
      refine g_callVl (pc := 85) (As := [.int l10, .int l4, .int l5]) C mv_RX0_116 (M_Bay_plume t0 hD) t0 (by decide) rfl rfl (Nat.le_of_ble_eq_true rfl) dX0_unsmelt_85 (fun x25 h24 hD => ?_)
      refine g_lload (pc := 88) 4 rfl C dX0_unsmelt_88 ?_
      refine g_land (pc := 90) C dX0_unsmelt_90 ?_
      refine g_lconst (pc := 91) (v := 0) (by decide) C dX0_unsmelt_91 ?_
      refine g_lcmp (pc := 92) C dX0_unsmelt_92 ?_
      refine g_if_ne (pc := 93) 105 C dX0_unsmelt_93 (by decide) (fun c26 => ?_) (fun c26 => ?_)
      · have hD := hD.1 c26
        refine g_iinc (pc := 105) (q := 6) (c := 1) (fun x27 => [(10, .int x27), (0, .ref l0), (2, .long l2), (4, .int l4), (5, .int l5), (6, .long l6), (8, .long l8)]) C dX0_unsmelt_105 rfl (by decide) (by decide) rfl (fun x27 ex27 => ?_)
        have hD := hD x27 ex27
        refine g_goto (pc := 108) 60 C dX0_unsmelt_108 (by decide) ?_
        refine g_sub [1, 2, 3, 4, 5, 6, 0] rfl ?_
        exact hK60 l8 x27 h24 hD
      · have hD := hD.2 c26
        refine g_lload (pc := 96) 5 rfl C dX0_unsmelt_96 ?_
        refine g_lconst (pc := 98) (v := 1) (by decide) C dX0_unsmelt_98 ?_
        refine g_iload (pc := 99) 6 rfl C dX0_unsmelt_99 ?_
        refine g_lshl (pc := 101) C dX0_unsmelt_101 ?_
        refine g_lor (pc := 102) C dX0_unsmelt_102 ?_
        refine g_lstore (pc := 103) (fun x28 => [(8, .long x28), (0, .ref l0), (2, .long l2), (4, .int l4), (5, .int l5), (6, .long l6), (10, .int l10)]) C dX0_unsmelt_103 (by decide) rfl (fun x28 ex28 => ?_)
        have hD := hD x28 ex28
        refine g_iinc (pc := 105) (q := 6) (c := 1) (fun x29 => [(10, .int x29), (8, .long x28), (0, .ref l0), (2, .long l2), (4, .int l4), (5, .int l5), (6, .long l6)]) C dX0_unsmelt_105 rfl (by decide) (by decide) rfl (fun x29 ex29 => ?_)
        have hD := hD x29 ex29
        refine g_goto (pc := 108) 60 C dX0_unsmelt_108 (by decide) ?_
        refine g_sub [2, 3, 4, 5, 6, 1, 0] rfl ?_
        exact hK60 x28 x29 h24 hD
def D_Bay_unsmelt (r : TR) (o : Nat) (a1 : Nat) (a2 : Int64) (a4 : Int32) (h : TH) (Q : Int64 → TH → Prop) : Prop :=
  D_Bay_windAt r o (h.1 a1 0) h (fun x2 h1 => ∃ n, lp (fun (K : Int64 × Int32 × TH → Prop) (s : Int64 × Int32 × TH) => DB_Bay_unsmelt_16 r o a1 a2 a4 x2 s.1 s.2.1 s.2.2 (fun y14 y15 h16 => K (y14, y15, h16)) (fun x17 h18 => ∃ n, lp (fun (K : Int64 × Int32 × TH → Prop) (s : Int64 × Int32 × TH) => DB_Bay_unsmelt_60 r o a2 a4 x2 x17 s.1 s.2.1 s.2.2 (fun y30 y31 h32 => K (y30, y31, h32)) (fun x33 h34 => Q x33 h34) Q) n (0, 0, h18)) Q) n (0, 0, h1))
set_option maxRecDepth 100000 in
set_option maxHeartbeats 4000000 in
theorem M_Bay_unsmelt {Y : CG} {r : TR} {l : Launch} {o : Nat} {a1 : Nat} {a2 : Int64} {a4 : Int32} {h : TH} {Q : Int64 → TH → Prop} (t0 : TO Y o 0) (t1 : TO Y a1 5) (hD : D_Bay_unsmelt r o a1 a2 a4 h Q) : Ml Y r l yX0_unsmelt cX0_unsmelt 11 4 [.ref o, .ref a1, .long a2, .int a4] h Q := by
  unfold D_Bay_unsmelt at hD
  refine Ml.of RX0 rfl (by decide) (by simp [lg_sl, Value.category]) [(0, .ref o), (1, .ref a1), (2, .long a2), (4, .int a4)] rfl (fun X hXl C R => ?_)
  subst hXl
  refine g_wt (fun hw => ?_)
  refine g_aload_n (pc := 0) rfl 0 rfl C dX0_unsmelt_0 ?_
  refine g_aload_n (pc := 1) rfl 1 rfl C dX0_unsmelt_1 ?_
  refine g_getI (pc := 2) C fl_RX0_103 t1 rfl dX0_unsmelt_2 ?_
  refine g_callVi (pc := 5) (As := [.int (h.1 a1 0)]) C mv_RX0_106 (M_Bay_windAt t0 hD) t0 (by decide) rfl rfl (Nat.le_of_ble_eq_true rfl) dX0_unsmelt_5 (fun x2 h1 hD => ?_)
  refine g_istore (pc := 8) (fun _ => [(5, .int x2), (0, .ref o), (1, .ref a1), (2, .long a2), (4, .int a4)]) C dX0_unsmelt_8 (by decide) rfl (fun _ _ => ?_)
  refine g_lconst (pc := 10) (v := 0) (by decide) C dX0_unsmelt_10 ?_
  refine g_lstore (pc := 11) (fun _ => [(6, .long 0), (5, .int x2), (0, .ref o), (1, .ref a1), (2, .long a2), (4, .int a4)]) C dX0_unsmelt_11 (by decide) rfl (fun _ _ => ?_)
  refine g_iconst (pc := 13) (v := 0) (by decide) C dX0_unsmelt_13 ?_
  refine g_istore (pc := 14) (fun _ => [(8, .int 0), (6, .long 0), (5, .int x2), (0, .ref o), (1, .ref a1), (2, .long a2), (4, .int a4)]) C dX0_unsmelt_14 (by decide) rfl (fun _ _ => ?_)
  obtain ⟨n, hD⟩ := hD
  refine g_sub [3, 4, 5, 6, 2, 1, 0] rfl ?_
  refine lp_run (fun s : Int64 × Int32 × TH => G Y X 11 16 [(0, .ref o), (1, .ref a1), (2, .long a2), (4, .int a4), (5, .int x2), (6, .long s.1), (8, .int s.2.1)] [] r s.2.2) (fun K s hB hK => ?_) n (0, 0, h1) hD
  refine WB_Bay_unsmelt_16 C R t0 t1 (fun y14 y15 h16 hk => hK _ hk) (fun x17 h18 hD => ?_) hB
  · refine g_lconst (pc := 54) (v := 0) (by decide) C dX0_unsmelt_54 ?_
    refine g_lstore (pc := 55) (fun _ => [(8, .long 0), (0, .ref o), (2, .long a2), (4, .int a4), (5, .int x2), (6, .long x17)]) C dX0_unsmelt_55 (by decide) rfl (fun _ _ => ?_)
    refine g_iconst (pc := 57) (v := 0) (by decide) C dX0_unsmelt_57 ?_
    refine g_istore (pc := 58) (fun _ => [(10, .int 0), (8, .long 0), (0, .ref o), (2, .long a2), (4, .int a4), (5, .int x2), (6, .long x17)]) C dX0_unsmelt_58 (by decide) rfl (fun _ _ => ?_)
    obtain ⟨n, hD⟩ := hD
    refine g_sub [2, 3, 4, 5, 6, 1, 0] rfl ?_
    refine lp_run (fun s : Int64 × Int32 × TH => G Y X 11 60 [(0, .ref o), (2, .long a2), (4, .int a4), (5, .int x2), (6, .long x17), (8, .long s.1), (10, .int s.2.1)] [] r s.2.2) (fun K s hB hK => ?_) n (0, 0, h18) hD
    refine WB_Bay_unsmelt_60 C R t0 (fun y30 y31 h32 hk => hK _ hk) (fun x33 h34 hD => ?_) hB
    · refine g_lload (pc := 111) 0 rfl C dX0_unsmelt_111 ?_
      exact g_lret (pc := 113) C R dX0_unsmelt_113 hD
def DB_Bay_waterSmelling_5 (r : TR) (l0 : Nat) (l1 : Nat) (l2 : Int32) (l3 : Int64) (l5 : Int32) (h : TH) (K5 : Int64 → Int32 → TH → Prop) (K49 : Int64 → TH → Prop) (Q : Int64 → TH → Prop) : Prop :=
  ((40 ≤ l5 → K49 l3 h) ∧ (¬ 40 ≤ l5 → vp_in l5 40 ∧ ((¬ (h.1 (r l0 5) l5.toNatClampNeg) = 0 → ∀ x6 : Int32, x6 = l5 + 1 → K5 l3 x6 h) ∧ ((h.1 (r l0 5) l5.toNatClampNeg) = 0 → D_Sc_lies r l1 ((40 * l2) + l5) h (fun x8 h7 => ((x8 = 0 → ∀ x10 : Int32, x10 = l5 + 1 → K5 l3 x10 h7) ∧ (¬ x8 = 0 → ∀ x11 : Int64, x11 = l3 ||| (jshl 1 l5) → ∀ x12 : Int32, x12 = l5 + 1 → K5 x11 x12 h7)))))))
set_option maxRecDepth 100000 in
set_option maxHeartbeats 4000000 in
theorem WB_Bay_waterSmelling_5 {Y : CG} {X : CX} {r : TR} {l0 : Nat} {l1 : Nat} {l2 : Int32} {l3 : Int64} {l5 : Int32} {h : TH} {K5 : Int64 → Int32 → TH → Prop} {K49 : Int64 → TH → Prop} {Q : Int64 → TH → Prop} (C : Gd Y X cX0_waterSmelling 6 RX0 3) (R : Rl Y r X Q) (t0 : TO Y l0 0) (t1 : TO Y l1 5) (hK5 : ∀ (k3 : Int64) (k5 : Int32) (hh : TH), K5 k3 k5 hh → G Y X 6 5 [(0, .ref l0), (1, .ref l1), (2, .int l2), (3, .long k3), (5, .int k5)] [] r hh) (hK49 : ∀ (k3 : Int64) (hh : TH), K49 k3 hh → G Y X 6 49 [(3, .long k3)] [] r hh) (hD : DB_Bay_waterSmelling_5 r l0 l1 l2 l3 l5 h K5 K49 Q) : G Y X 6 5 [(0, .ref l0), (1, .ref l1), (2, .int l2), (3, .long l3), (5, .int l5)] [] r h := by
  unfold DB_Bay_waterSmelling_5 at hD
  refine g_wt (fun hw => ?_)
  refine g_iload (pc := 5) 4 rfl C dX0_waterSmelling_5 ?_
  refine g_bipush (pc := 7) (v := 40) (by decide) C dX0_waterSmelling_7 ?_
  refine g_icmp_ge (pc := 9) 49 C dX0_waterSmelling_9 (by decide) (fun c3 => ?_) (fun c3 => ?_)
  · have hD := hD.1 c3
    refine g_sub [3] rfl ?_
    exact hK49 l3 h hD
  · have hD := hD.2 c3
    refine g_aload_n (pc := 12) rfl 0 rfl C dX0_waterSmelling_12 ?_
    have u4 : TA Y (r l0 5) 10 40 := wt_a hw t0 (by decide) (by decide) rfl
    refine g_getR (pc := 13) C fl_RX0_27 t0 rfl dX0_waterSmelling_13 ?_
    refine g_iload (pc := 16) 4 rfl C dX0_waterSmelling_16 ?_
    obtain ⟨hb, hD⟩ := hD
    refine g_iald (pc := 18) C u4 hb dX0_waterSmelling_18 ?_
    refine g_if_ne (pc := 19) 43 C dX0_waterSmelling_19 (by decide) (fun c5 => ?_) (fun c5 => ?_)
    · have hD := hD.1 c5
      refine g_iinc (pc := 43) (q := 4) (c := 1) (fun x6 => [(5, .int x6), (0, .ref l0), (1, .ref l1), (2, .int l2), (3, .long l3)]) C dX0_waterSmelling_43 rfl (by decide) (by decide) rfl (fun x6 ex6 => ?_)
      have hD := hD x6 ex6
      refine g_goto (pc := 46) 5 C dX0_waterSmelling_46 (by decide) ?_
      refine g_sub [1, 2, 3, 4, 0] rfl ?_
      exact hK5 l3 x6 h hD
    · have hD := hD.2 c5
      refine g_aload_n (pc := 22) rfl 1 rfl C dX0_waterSmelling_22 ?_
      refine g_bipush (pc := 23) (v := 40) (by decide) C dX0_waterSmelling_23 ?_
      refine g_iload_n (pc := 25) rfl 2 rfl C dX0_waterSmelling_25 ?_
      refine g_imul (pc := 26) C dX0_waterSmelling_26 ?_
      refine g_iload (pc := 27) 4 rfl C dX0_waterSmelling_27 ?_
      refine g_iadd (pc := 29) C dX0_waterSmelling_29 ?_
      refine g_callVi (pc := 30) (As := [.int ((40 * l2) + l5)]) C mv_RX0_141 (M_Sc_lies t1 hD) t1 (by decide) rfl rfl (Nat.le_of_ble_eq_true rfl) dX0_waterSmelling_30 (fun x8 h7 hD => ?_)
      refine g_if_eq (pc := 33) 43 C dX0_waterSmelling_33 (by decide) (fun c9 => ?_) (fun c9 => ?_)
      · have hD := hD.1 c9
        refine g_iinc (pc := 43) (q := 4) (c := 1) (fun x10 => [(5, .int x10), (0, .ref l0), (1, .ref l1), (2, .int l2), (3, .long l3)]) C dX0_waterSmelling_43 rfl (by decide) (by decide) rfl (fun x10 ex10 => ?_)
        have hD := hD x10 ex10
        refine g_goto (pc := 46) 5 C dX0_waterSmelling_46 (by decide) ?_
        refine g_sub [1, 2, 3, 4, 0] rfl ?_
        exact hK5 l3 x10 h7 hD
      · have hD := hD.2 c9
        refine g_lload_n (pc := 36) rfl 3 rfl C dX0_waterSmelling_36 ?_
        refine g_lconst (pc := 37) (v := 1) (by decide) C dX0_waterSmelling_37 ?_
        refine g_iload (pc := 38) 4 rfl C dX0_waterSmelling_38 ?_
        refine g_lshl (pc := 40) C dX0_waterSmelling_40 ?_
        refine g_lor (pc := 41) C dX0_waterSmelling_41 ?_
        refine g_lstore_n (pc := 42) (fun x11 => [(3, .long x11), (0, .ref l0), (1, .ref l1), (2, .int l2), (5, .int l5)]) C dX0_waterSmelling_42 rfl (by decide) rfl (fun x11 ex11 => ?_)
        have hD := hD x11 ex11
        refine g_iinc (pc := 43) (q := 4) (c := 1) (fun x12 => [(5, .int x12), (3, .long x11), (0, .ref l0), (1, .ref l1), (2, .int l2)]) C dX0_waterSmelling_43 rfl (by decide) (by decide) rfl (fun x12 ex12 => ?_)
        have hD := hD x12 ex12
        refine g_goto (pc := 46) 5 C dX0_waterSmelling_46 (by decide) ?_
        refine g_sub [2, 3, 4, 1, 0] rfl ?_
        exact hK5 x11 x12 h7 hD
def D_Bay_waterSmelling (r : TR) (o : Nat) (a1 : Nat) (a2 : Int32) (h : TH) (Q : Int64 → TH → Prop) : Prop :=
  ∃ n, lp (fun (K : Int64 × Int32 × TH → Prop) (s : Int64 × Int32 × TH) => DB_Bay_waterSmelling_5 r o a1 a2 s.1 s.2.1 s.2.2 (fun y13 y14 h15 => K (y13, y14, h15)) (fun x16 h17 => Q x16 h17) Q) n (0, 0, h)
set_option maxRecDepth 100000 in
set_option maxHeartbeats 4000000 in
theorem M_Bay_waterSmelling {Y : CG} {r : TR} {l : Launch} {o : Nat} {a1 : Nat} {a2 : Int32} {h : TH} {Q : Int64 → TH → Prop} (t0 : TO Y o 0) (t1 : TO Y a1 5) (hD : D_Bay_waterSmelling r o a1 a2 h Q) : Ml Y r l yX0_waterSmelling cX0_waterSmelling 6 3 [.ref o, .ref a1, .int a2] h Q := by
  unfold D_Bay_waterSmelling at hD
  refine Ml.of RX0 rfl (by decide) (by simp [lg_sl, Value.category]) [(0, .ref o), (1, .ref a1), (2, .int a2)] rfl (fun X hXl C R => ?_)
  subst hXl
  refine g_wt (fun hw => ?_)
  refine g_lconst (pc := 0) (v := 0) (by decide) C dX0_waterSmelling_0 ?_
  refine g_lstore_n (pc := 1) (fun _ => [(3, .long 0), (0, .ref o), (1, .ref a1), (2, .int a2)]) C dX0_waterSmelling_1 rfl (by decide) rfl (fun _ _ => ?_)
  refine g_iconst (pc := 2) (v := 0) (by decide) C dX0_waterSmelling_2 ?_
  refine g_istore (pc := 3) (fun _ => [(5, .int 0), (3, .long 0), (0, .ref o), (1, .ref a1), (2, .int a2)]) C dX0_waterSmelling_3 (by decide) rfl (fun _ _ => ?_)
  obtain ⟨n, hD⟩ := hD
  refine g_sub [2, 3, 4, 1, 0] rfl ?_
  refine lp_run (fun s : Int64 × Int32 × TH => G Y X 6 5 [(0, .ref o), (1, .ref a1), (2, .int a2), (3, .long s.1), (5, .int s.2.1)] [] r s.2.2) (fun K s hB hK => ?_) n (0, 0, h) hD
  refine WB_Bay_waterSmelling_5 C R t0 t1 (fun y13 y14 h15 hk => hK _ hk) (fun x16 h17 hD => ?_) hB
  · refine g_lload_n (pc := 49) rfl 0 rfl C dX0_waterSmelling_49 ?_
    exact g_lret (pc := 50) C R dX0_waterSmelling_50 hD
def D_Bay_wayNearer (r : TR) (o : Nat) (a1 : Int32) (h : TH) (Q : Int32 → TH → Prop) : Prop :=
  vp_in a1 40 ∧ D_Bay_wayTo r o a1 ((h.1 (r o 6) a1.toNatClampNeg) - 1) h (fun x3 h2 => Q x3 h2)
set_option maxRecDepth 100000 in
set_option maxHeartbeats 4000000 in
theorem M_Bay_wayNearer {Y : CG} {r : TR} {l : Launch} {o : Nat} {a1 : Int32} {h : TH} {Q : Int32 → TH → Prop} (t0 : TO Y o 0) (hD : D_Bay_wayNearer r o a1 h Q) : Mi Y r l yX0_wayNearer cX0_wayNearer 2 .int 3 [.ref o, .int a1] h Q := by
  unfold D_Bay_wayNearer at hD
  refine Mi.of RX0 rfl (by decide) (by simp [lg_sl, Value.category]) [(0, .ref o), (1, .int a1)] rfl (fun X hXl C R => ?_)
  subst hXl
  refine g_wt (fun hw => ?_)
  refine g_aload_n (pc := 0) rfl 0 rfl C dX0_wayNearer_0 ?_
  refine g_iload_n (pc := 1) rfl 1 rfl C dX0_wayNearer_1 ?_
  refine g_aload_n (pc := 2) rfl 0 rfl C dX0_wayNearer_2 ?_
  have u1 : TA Y (r o 6) 10 40 := wt_a hw t0 (by decide) (by decide) rfl
  refine g_getR (pc := 3) C fl_RX0_31 t0 rfl dX0_wayNearer_3 ?_
  refine g_iload_n (pc := 6) rfl 1 rfl C dX0_wayNearer_6 ?_
  obtain ⟨hb, hD⟩ := hD
  refine g_iald (pc := 7) C u1 hb dX0_wayNearer_7 ?_
  refine g_iconst (pc := 8) (v := 1) (by decide) C dX0_wayNearer_8 ?_
  refine g_isub (pc := 9) C dX0_wayNearer_9 ?_
  refine g_callVi (pc := 10) (As := [.int a1, .int ((h.1 (r o 6) a1.toNatClampNeg) - 1)]) C mv_RX0_96 (M_Bay_wayTo t0 hD) t0 (by decide) rfl rfl (Nat.le_of_ble_eq_true rfl) dX0_wayNearer_10 (fun x3 h2 hD => ?_)
  exact g_iret (pc := 13) C R dX0_wayNearer_13 hD
def D_Sc_isHome (r : TR) (o : Nat) (a1 : Int32) (h : TH) (Q : Int32 → TH → Prop) : Prop :=
  ((¬ (((h.1 o 3) >>> (a1 &&& 31)) &&& 1) = 1 → Q 0 h) ∧ ((((h.1 o 3) >>> (a1 &&& 31)) &&& 1) = 1 → Q 1 h))
set_option maxRecDepth 100000 in
set_option maxHeartbeats 4000000 in
theorem M_Sc_isHome {Y : CG} {r : TR} {l : Launch} {o : Nat} {a1 : Int32} {h : TH} {Q : Int32 → TH → Prop} (t0 : TO Y o 5) (hD : D_Sc_isHome r o a1 h Q) : Mi Y r l yX5_isHome cX5_isHome 2 .boolean 1 [.ref o, .int a1] h Q := by
  unfold D_Sc_isHome at hD
  refine Mi.of RX5 rfl (by decide) (by simp [lg_sl, Value.category]) [(0, .ref o), (1, .int a1)] rfl (fun X hXl C R => ?_)
  subst hXl
  refine g_wt (fun hw => ?_)
  refine g_aload_n (pc := 0) rfl 0 rfl C dX5_isHome_0 ?_
  refine g_getI (pc := 1) C fl_RX5_21 t0 rfl dX5_isHome_1 ?_
  refine g_iload_n (pc := 4) rfl 1 rfl C dX5_isHome_4 ?_
  refine g_ishr (pc := 5) C dX5_isHome_5 ?_
  refine g_iconst (pc := 6) (v := 1) (by decide) C dX5_isHome_6 ?_
  refine g_iand (pc := 7) C dX5_isHome_7 ?_
  refine g_iconst (pc := 8) (v := 1) (by decide) C dX5_isHome_8 ?_
  refine g_icmp_ne (pc := 9) 16 C dX5_isHome_9 (by decide) (fun c1 => ?_) (fun c1 => ?_)
  · have hD := hD.1 c1
    refine g_iconst (pc := 16) (v := 0) (by decide) C dX5_isHome_16 ?_
    exact g_zret (pc := 17) C R nz_0 dX5_isHome_17 hD
  · have hD := hD.2 c1
    refine g_iconst (pc := 12) (v := 1) (by decide) C dX5_isHome_12 ?_
    refine g_goto (pc := 13) 17 C dX5_isHome_13 (by decide) ?_
    exact g_zret (pc := 17) C R nz_1 dX5_isHome_17 hD
def D_Outs_howFar (r : TR) (o : Nat) (a1 : Int32) (h : TH) (Q : Int32 → TH → Prop) : Prop :=
  D_Sc_isHome r (r o 1) a1 h (fun x3 h2 => ((x3 = 0 → D_Sc_isLost r (r o 1) a1 h2 (fun x7 h6 => ((x7 = 0 → D_Sc_eastOf r (r o 1) a1 h6 (fun x11 h10 => Q x11 h10)) ∧ (¬ x7 = 0 → Q (-1) h6)))) ∧ (¬ x3 = 0 → Q 100 h2)))
set_option maxRecDepth 100000 in
set_option maxHeartbeats 4000000 in
theorem M_Outs_howFar {Y : CG} {r : TR} {l : Launch} {o : Nat} {a1 : Int32} {h : TH} {Q : Int32 → TH → Prop} (t0 : TO Y o 2) (hD : D_Outs_howFar r o a1 h Q) : Mi Y r l yX2_howFar cX2_howFar 2 .int 3 [.ref o, .int a1] h Q := by
  unfold D_Outs_howFar at hD
  refine Mi.of RX2 rfl (by decide) (by simp [lg_sl, Value.category]) [(0, .ref o), (1, .int a1)] rfl (fun X hXl C R => ?_)
  subst hXl
  refine g_wt (fun hw => ?_)
  refine g_aload_n (pc := 0) rfl 0 rfl C dX2_howFar_0 ?_
  have u1 : TO Y (r o 1) 5 := wt_o hw t0 (by decide) rfl
  refine g_getR (pc := 1) C fl_RX2_18 t0 rfl dX2_howFar_1 ?_
  refine g_iload_n (pc := 4) rfl 1 rfl C dX2_howFar_4 ?_
  refine g_callVi (pc := 5) (As := [.int a1]) C mv_RX2_54 (M_Sc_isHome u1 hD) u1 (by decide) rfl rfl (Nat.le_of_ble_eq_true rfl) dX2_howFar_5 (fun x3 h2 hD => ?_)
  refine g_if_eq (pc := 8) 14 C dX2_howFar_8 (by decide) (fun c4 => ?_) (fun c4 => ?_)
  · have hD := hD.1 c4
    refine g_aload_n (pc := 14) rfl 0 rfl C dX2_howFar_14 ?_
    have u5 : TO Y (r o 1) 5 := wt_o hw t0 (by decide) rfl
    refine g_getR (pc := 15) C fl_RX2_18 t0 rfl dX2_howFar_15 ?_
    refine g_iload_n (pc := 18) rfl 1 rfl C dX2_howFar_18 ?_
    refine g_callVi (pc := 19) (As := [.int a1]) C mv_RX2_58 (M_Sc_isLost u5 hD) u5 (by decide) rfl rfl (Nat.le_of_ble_eq_true rfl) dX2_howFar_19 (fun x7 h6 hD => ?_)
    refine g_if_eq (pc := 22) 29 C dX2_howFar_22 (by decide) (fun c8 => ?_) (fun c8 => ?_)
    · have hD := hD.1 c8
      refine g_aload_n (pc := 29) rfl 0 rfl C dX2_howFar_29 ?_
      have u9 : TO Y (r o 1) 5 := wt_o hw t0 (by decide) rfl
      refine g_getR (pc := 30) C fl_RX2_18 t0 rfl dX2_howFar_30 ?_
      refine g_iload_n (pc := 33) rfl 1 rfl C dX2_howFar_33 ?_
      refine g_callVi (pc := 34) (As := [.int a1]) C mv_RX2_61 (M_Sc_eastOf u9 hD) u9 (by decide) rfl rfl (Nat.le_of_ble_eq_true rfl) dX2_howFar_34 (fun x11 h10 hD => ?_)
      exact g_iret (pc := 37) C R dX2_howFar_37 hD
    · have hD := hD.2 c8
      refine g_iconst (pc := 25) (v := (-1)) (by decide) C dX2_howFar_25 ?_
      refine g_goto (pc := 26) 37 C dX2_howFar_26 (by decide) ?_
      exact g_iret (pc := 37) C R dX2_howFar_37 hD
  · have hD := hD.2 c4
    refine g_bipush (pc := 11) (v := 100) (by decide) C dX2_howFar_11 ?_
    exact g_iret (pc := 13) C R dX2_howFar_13 hD
def DJ_Outs_isRest_29 (r : TR) (l0 : Nat) (l1 : Int32) (l2 : Int32) (l3 : Int32) (l4 : Int32) (s0 : Int32) (h : TH) (K2 : Int32 → TH → Prop) (K70 : TH → Prop) (Q : Int32 → TH → Prop) : Prop :=
  ((s0 = 0 → ∀ x7 : Int32, x7 = l3 + 1 → K2 x7 h) ∧ (¬ s0 = 0 → ∀ i9 : Int32, i9 = (6 * l4) + l3 → vp_in i9 384 ∧ ∀ i11 : Int32, i11 = (6 * l2) + l3 → vp_in i11 384 ∧ (((h.1 (r l0 0) i9.toNatClampNeg) ≤ (h.1 (r l0 0) i11.toNatClampNeg) → ∀ x13 : Int32, x13 = l3 + 1 → K2 x13 h) ∧ (¬ (h.1 (r l0 0) i9.toNatClampNeg) ≤ (h.1 (r l0 0) i11.toNatClampNeg) → Q 0 h))))
set_option maxRecDepth 100000 in
set_option maxHeartbeats 4000000 in
theorem WJ_Outs_isRest_29 {Y : CG} {X : CX} {r : TR} {l0 : Nat} {l1 : Int32} {l2 : Int32} {l3 : Int32} {l4 : Int32} {s0 : Int32} {h : TH} {K2 : Int32 → TH → Prop} {K70 : TH → Prop} {Q : Int32 → TH → Prop} (C : Gd Y X cX2_isRest 6 RX2 1) (R : Ri Y r X .boolean Q) (t0 : TO Y l0 2) (hK2 : ∀ (k3 : Int32) (hh : TH), K2 k3 hh → G Y X 6 2 [(0, .ref l0), (1, .int l1), (2, .int l2), (3, .int k3)] [] r hh) (hK70 : ∀ (hh : TH), K70 hh → G Y X 6 70 [] [] r hh) (hD : DJ_Outs_isRest_29 r l0 l1 l2 l3 l4 s0 h K2 K70 Q) : G Y X 6 29 [(0, .ref l0), (1, .int l1), (2, .int l2), (3, .int l3), (4, .int l4)] [.int s0] r h := by
  unfold DJ_Outs_isRest_29 at hD
  refine g_wt (fun hw => ?_)
  refine g_istore (pc := 29) (fun _ => [(5, .int s0), (0, .ref l0), (1, .int l1), (2, .int l2), (3, .int l3), (4, .int l4)]) C dX2_isRest_29 (by decide) rfl (fun _ _ => ?_)
  refine g_iload (pc := 31) 0 rfl C dX2_isRest_31 ?_
  refine g_if_eq (pc := 33) 64 C dX2_isRest_33 (by decide) (fun c6 => ?_) (fun c6 => ?_)
  · have hD := hD.1 c6
    refine g_iinc (pc := 64) (q := 4) (c := 1) (fun x7 => [(3, .int x7), (5, .int s0), (0, .ref l0), (1, .int l1), (2, .int l2), (4, .int l4)]) C dX2_isRest_64 rfl (by decide) (by decide) rfl (fun x7 ex7 => ?_)
    have hD := hD x7 ex7
    refine g_goto (pc := 67) 2 C dX2_isRest_67 (by decide) ?_
    refine g_sub [2, 3, 4, 0] rfl ?_
    exact hK2 x7 h hD
  · have hD := hD.2 c6
    refine g_aload_n (pc := 36) rfl 1 rfl C dX2_isRest_36 ?_
    have u8 : TA Y (r l0 0) 10 384 := wt_a hw t0 (by decide) (by decide) rfl
    refine g_getR (pc := 37) C fl_RX2_9 t0 rfl dX2_isRest_37 ?_
    refine g_bipush (pc := 40) (v := 6) (by decide) C dX2_isRest_40 ?_
    refine g_iload (pc := 42) 5 rfl C dX2_isRest_42 ?_
    refine g_imul (pc := 44) C dX2_isRest_44 ?_
    refine g_iload_n (pc := 45) rfl 4 rfl C dX2_isRest_45 ?_
    refine g_iadd (pc := 46) C dX2_isRest_46 ?_
    refine g_topi (fun i9 ei9 => ?_)
    have hD := hD i9 ei9
    obtain ⟨hb, hD⟩ := hD
    refine g_iald (pc := 47) C u8 hb dX2_isRest_47 ?_
    refine g_aload_n (pc := 48) rfl 1 rfl C dX2_isRest_48 ?_
    have u10 : TA Y (r l0 0) 10 384 := wt_a hw t0 (by decide) (by decide) rfl
    refine g_getR (pc := 49) C fl_RX2_9 t0 rfl dX2_isRest_49 ?_
    refine g_bipush (pc := 52) (v := 6) (by decide) C dX2_isRest_52 ?_
    refine g_iload_n (pc := 54) rfl 3 rfl C dX2_isRest_54 ?_
    refine g_imul (pc := 55) C dX2_isRest_55 ?_
    refine g_iload_n (pc := 56) rfl 4 rfl C dX2_isRest_56 ?_
    refine g_iadd (pc := 57) C dX2_isRest_57 ?_
    refine g_topi (fun i11 ei11 => ?_)
    have hD := hD i11 ei11
    obtain ⟨hb, hD⟩ := hD
    refine g_iald (pc := 58) C u10 hb dX2_isRest_58 ?_
    refine g_icmp_le (pc := 59) 64 C dX2_isRest_59 (by decide) (fun c12 => ?_) (fun c12 => ?_)
    · have hD := hD.1 c12
      refine g_iinc (pc := 64) (q := 4) (c := 1) (fun x13 => [(3, .int x13), (5, .int s0), (0, .ref l0), (1, .int l1), (2, .int l2), (4, .int l4)]) C dX2_isRest_64 rfl (by decide) (by decide) rfl (fun x13 ex13 => ?_)
      have hD := hD x13 ex13
      refine g_goto (pc := 67) 2 C dX2_isRest_67 (by decide) ?_
      refine g_sub [2, 3, 4, 0] rfl ?_
      exact hK2 x13 h hD
    · have hD := hD.2 c12
      refine g_iconst (pc := 62) (v := 0) (by decide) C dX2_isRest_62 ?_
      exact g_zret (pc := 63) C R nz_0 dX2_isRest_63 hD
def DB_Outs_isRest_2 (r : TR) (l0 : Nat) (l1 : Int32) (l2 : Int32) (l3 : Int32) (h : TH) (K2 : Int32 → TH → Prop) (K70 : TH → Prop) (Q : Int32 → TH → Prop) : Prop :=
  ((6 ≤ l3 → K70 h) ∧ (¬ 6 ≤ l3 → ∀ x3 : Int32, x3 = l2 ^^^ ((1 : Int32) <<< (l3 &&& 31)) → ((¬ ((l1 >>> (l3 &&& 31)) &&& 1) = 1 → DJ_Outs_isRest_29 r l0 l1 l2 l3 x3 0 h (K2) (K70) Q) ∧ (((l1 >>> (l3 &&& 31)) &&& 1) = 1 → DJ_Outs_isRest_29 r l0 l1 l2 l3 x3 1 h (K2) (K70) Q))))
set_option maxRecDepth 100000 in
set_option maxHeartbeats 4000000 in
theorem WB_Outs_isRest_2 {Y : CG} {X : CX} {r : TR} {l0 : Nat} {l1 : Int32} {l2 : Int32} {l3 : Int32} {h : TH} {K2 : Int32 → TH → Prop} {K70 : TH → Prop} {Q : Int32 → TH → Prop} (C : Gd Y X cX2_isRest 6 RX2 1) (R : Ri Y r X .boolean Q) (t0 : TO Y l0 2) (hK2 : ∀ (k3 : Int32) (hh : TH), K2 k3 hh → G Y X 6 2 [(0, .ref l0), (1, .int l1), (2, .int l2), (3, .int k3)] [] r hh) (hK70 : ∀ (hh : TH), K70 hh → G Y X 6 70 [] [] r hh) (hD : DB_Outs_isRest_2 r l0 l1 l2 l3 h K2 K70 Q) : G Y X 6 2 [(0, .ref l0), (1, .int l1), (2, .int l2), (3, .int l3)] [] r h := by
  unfold DB_Outs_isRest_2 at hD
  refine g_wt (fun hw => ?_)
  refine g_iload_n (pc := 2) rfl 3 rfl C dX2_isRest_2 ?_
  refine g_bipush (pc := 3) (v := 6) (by decide) C dX2_isRest_3 ?_
  refine g_icmp_ge (pc := 5) 70 C dX2_isRest_5 (by decide) (fun c2 => ?_) (fun c2 => ?_)
  · have hD := hD.1 c2
    refine g_sub [] rfl ?_
    exact hK70 h hD
  · have hD := hD.2 c2
    refine g_iload_n (pc := 8) rfl 2 rfl C dX2_isRest_8 ?_
    refine g_iconst (pc := 9) (v := 1) (by decide) C dX2_isRest_9 ?_
    refine g_iload_n (pc := 10) rfl 3 rfl C dX2_isRest_10 ?_
    refine g_ishl (pc := 11) C dX2_isRest_11 ?_
    refine g_ixor (pc := 12) C dX2_isRest_12 ?_
    refine g_istore (pc := 13) (fun x3 => [(4, .int x3), (0, .ref l0), (1, .int l1), (2, .int l2), (3, .int l3)]) C dX2_isRest_13 (by decide) rfl (fun x3 ex3 => ?_)
    have hD := hD x3 ex3
    refine g_iload_n (pc := 15) rfl 2 rfl C dX2_isRest_15 ?_
    refine g_iload_n (pc := 16) rfl 4 rfl C dX2_isRest_16 ?_
    refine g_ishr (pc := 17) C dX2_isRest_17 ?_
    refine g_iconst (pc := 18) (v := 1) (by decide) C dX2_isRest_18 ?_
    refine g_iand (pc := 19) C dX2_isRest_19 ?_
    refine g_iconst (pc := 20) (v := 1) (by decide) C dX2_isRest_20 ?_
    refine g_icmp_ne (pc := 21) 28 C dX2_isRest_21 (by decide) (fun c4 => ?_) (fun c4 => ?_)
    · have hD := hD.1 c4
      refine g_iconst (pc := 28) (v := 0) (by decide) C dX2_isRest_28 ?_
      refine g_sub [1, 2, 3, 4, 0] rfl ?_
      exact WJ_Outs_isRest_29 C R t0 (hK2) (hK70) hD
    · have hD := hD.2 c4
      refine g_iconst (pc := 24) (v := 1) (by decide) C dX2_isRest_24 ?_
      refine g_goto (pc := 25) 29 C dX2_isRest_25 (by decide) ?_
      refine g_sub [1, 2, 3, 4, 0] rfl ?_
      exact WJ_Outs_isRest_29 C R t0 (hK2) (hK70) hD
def D_Outs_isRest (r : TR) (o : Nat) (a1 : Int32) (a2 : Int32) (h : TH) (Q : Int32 → TH → Prop) : Prop :=
  ∃ n, lp (fun (K : Int32 × TH → Prop) (s : Int32 × TH) => DB_Outs_isRest_2 r o a1 a2 s.1 s.2 (fun y14 h15 => K (y14, h15)) (fun h16 => Q 1 h16) Q) n (0, h)
set_option maxRecDepth 100000 in
set_option maxHeartbeats 4000000 in
theorem M_Outs_isRest {Y : CG} {r : TR} {l : Launch} {o : Nat} {a1 : Int32} {a2 : Int32} {h : TH} {Q : Int32 → TH → Prop} (t0 : TO Y o 2) (hD : D_Outs_isRest r o a1 a2 h Q) : Mi Y r l yX2_isRest cX2_isRest 6 .boolean 1 [.ref o, .int a1, .int a2] h Q := by
  unfold D_Outs_isRest at hD
  refine Mi.of RX2 rfl (by decide) (by simp [lg_sl, Value.category]) [(0, .ref o), (1, .int a1), (2, .int a2)] rfl (fun X hXl C R => ?_)
  subst hXl
  refine g_wt (fun hw => ?_)
  refine g_iconst (pc := 0) (v := 0) (by decide) C dX2_isRest_0 ?_
  refine g_istore_n (pc := 1) (fun _ => [(3, .int 0), (0, .ref o), (1, .int a1), (2, .int a2)]) C dX2_isRest_1 rfl (by decide) rfl (fun _ _ => ?_)
  obtain ⟨n, hD⟩ := hD
  refine g_sub [1, 2, 3, 0] rfl ?_
  refine lp_run (fun s : Int32 × TH => G Y X 6 2 [(0, .ref o), (1, .int a1), (2, .int a2), (3, .int s.1)] [] r s.2) (fun K s hB hK => ?_) n (0, h) hD
  refine WB_Outs_isRest_2 C R t0 (fun y14 h15 hk => hK _ hk) (fun h16 hD => ?_) hB
  · refine g_iconst (pc := 70) (v := 1) (by decide) C dX2_isRest_70 ?_
    exact g_zret (pc := 71) C R nz_1 dX2_isRest_71 hD
def D_Sc_copyFrom (r : TR) (o : Nat) (a1 : Nat) (h : TH) (Q : TH → Prop) : Prop :=
  ∀ h1, h1 = pI h o 0 (h.1 a1 0) → ∀ h2, h2 = pI h1 o 1 (h1.1 a1 1) → ∀ h3, h3 = pI h2 o 2 (h2.1 a1 2) → ∀ h4, h4 = pI h3 o 3 (h3.1 a1 3) → ∀ h7, h7 = pRow h4 (r o 4) (va_cpy (h4.1 (r a1 4)) (h4.1 (r o 4)) 0 0 (6 : Int32).toNatClampNeg) → ∀ h10, h10 = pRow h7 (r o 5) (va_cpy (h7.1 (r a1 5)) (h7.1 (r o 5)) 0 0 (6 : Int32).toNatClampNeg) → ∀ h13, h13 = pRow h10 (r o 6) (va_cpy (h10.1 (r a1 6)) (h10.1 (r o 6)) 0 0 (240 : Int32).toNatClampNeg) → Q h13
set_option maxRecDepth 100000 in
set_option maxHeartbeats 4000000 in
theorem M_Sc_copyFrom {Y : CG} {r : TR} {l : Launch} {o : Nat} {a1 : Nat} {h : TH} {Q : TH → Prop} (t0 : TO Y o 5) (t1 : TO Y a1 5) (hD : D_Sc_copyFrom r o a1 h Q) : Mv Y r l yX5_copyFrom cX5_copyFrom 2 1 [.ref o, .ref a1] h Q := by
  unfold D_Sc_copyFrom at hD
  refine Mv.of RX5 rfl (by decide) (by simp [lg_sl, Value.category]) [(0, .ref o), (1, .ref a1)] rfl (fun X hXl C R => ?_)
  subst hXl
  refine g_wt (fun hw => ?_)
  refine g_aload_n (pc := 0) rfl 0 rfl C dX5_copyFrom_0 ?_
  refine g_aload_n (pc := 1) rfl 1 rfl C dX5_copyFrom_1 ?_
  refine g_getI (pc := 2) C fl_RX5_9 t1 rfl dX5_copyFrom_2 ?_
  refine g_putI (pc := 5) C fl_RX5_9 t0 rfl rfl rfl dX5_copyFrom_5 (fun h1 eh1 => ?_)
  have hD := hD h1 eh1
  refine g_aload_n (pc := 8) rfl 0 rfl C dX5_copyFrom_8 ?_
  refine g_aload_n (pc := 9) rfl 1 rfl C dX5_copyFrom_9 ?_
  refine g_getI (pc := 10) C fl_RX5_15 t1 rfl dX5_copyFrom_10 ?_
  refine g_putI (pc := 13) C fl_RX5_15 t0 rfl rfl rfl dX5_copyFrom_13 (fun h2 eh2 => ?_)
  have hD := hD h2 eh2
  refine g_aload_n (pc := 16) rfl 0 rfl C dX5_copyFrom_16 ?_
  refine g_aload_n (pc := 17) rfl 1 rfl C dX5_copyFrom_17 ?_
  refine g_getI (pc := 18) C fl_RX5_18 t1 rfl dX5_copyFrom_18 ?_
  refine g_putI (pc := 21) C fl_RX5_18 t0 rfl rfl rfl dX5_copyFrom_21 (fun h3 eh3 => ?_)
  have hD := hD h3 eh3
  refine g_aload_n (pc := 24) rfl 0 rfl C dX5_copyFrom_24 ?_
  refine g_aload_n (pc := 25) rfl 1 rfl C dX5_copyFrom_25 ?_
  refine g_getI (pc := 26) C fl_RX5_21 t1 rfl dX5_copyFrom_26 ?_
  refine g_putI (pc := 29) C fl_RX5_21 t0 rfl rfl rfl dX5_copyFrom_29 (fun h4 eh4 => ?_)
  have hD := hD h4 eh4
  refine g_aload_n (pc := 32) rfl 1 rfl C dX5_copyFrom_32 ?_
  have u5 : TA Y (r a1 4) 10 6 := wt_a hw t1 (by decide) (by decide) rfl
  refine g_getR (pc := 33) C fl_RX5_24 t1 rfl dX5_copyFrom_33 ?_
  refine g_iconst (pc := 36) (v := 0) (by decide) C dX5_copyFrom_36 ?_
  refine g_aload_n (pc := 37) rfl 0 rfl C dX5_copyFrom_37 ?_
  have u6 : TA Y (r o 4) 10 6 := wt_a hw t0 (by decide) (by decide) rfl
  refine g_getR (pc := 38) C fl_RX5_24 t0 rfl dX5_copyFrom_38 ?_
  refine g_iconst (pc := 41) (v := 0) (by decide) C dX5_copyFrom_41 ?_
  refine g_bipush (pc := 42) (v := 6) (by decide) C dX5_copyFrom_42 ?_
  refine g_copyi (pc := 44) C (by decide) lk_RX5_40 anat astat aini u5 u6 (by decide) (by decide) (by decide) (Nat.le_of_ble_eq_true rfl) dX5_copyFrom_44 (fun h7 eh7 => ?_)
  have hD := hD h7 eh7
  refine g_aload_n (pc := 47) rfl 1 rfl C dX5_copyFrom_47 ?_
  have u8 : TA Y (r a1 5) 10 6 := wt_a hw t1 (by decide) (by decide) rfl
  refine g_getR (pc := 48) C fl_RX5_28 t1 rfl dX5_copyFrom_48 ?_
  refine g_iconst (pc := 51) (v := 0) (by decide) C dX5_copyFrom_51 ?_
  refine g_aload_n (pc := 52) rfl 0 rfl C dX5_copyFrom_52 ?_
  have u9 : TA Y (r o 5) 10 6 := wt_a hw t0 (by decide) (by decide) rfl
  refine g_getR (pc := 53) C fl_RX5_28 t0 rfl dX5_copyFrom_53 ?_
  refine g_iconst (pc := 56) (v := 0) (by decide) C dX5_copyFrom_56 ?_
  refine g_bipush (pc := 57) (v := 6) (by decide) C dX5_copyFrom_57 ?_
  refine g_copyi (pc := 59) C (by decide) lk_RX5_40 anat astat aini u8 u9 (by decide) (by decide) (by decide) (Nat.le_of_ble_eq_true rfl) dX5_copyFrom_59 (fun h10 eh10 => ?_)
  have hD := hD h10 eh10
  refine g_aload_n (pc := 62) rfl 1 rfl C dX5_copyFrom_62 ?_
  have u11 : TA Y (r a1 6) 10 240 := wt_a hw t1 (by decide) (by decide) rfl
  refine g_getR (pc := 63) C fl_RX5_31 t1 rfl dX5_copyFrom_63 ?_
  refine g_iconst (pc := 66) (v := 0) (by decide) C dX5_copyFrom_66 ?_
  refine g_aload_n (pc := 67) rfl 0 rfl C dX5_copyFrom_67 ?_
  have u12 : TA Y (r o 6) 10 240 := wt_a hw t0 (by decide) (by decide) rfl
  refine g_getR (pc := 68) C fl_RX5_31 t0 rfl dX5_copyFrom_68 ?_
  refine g_iconst (pc := 71) (v := 0) (by decide) C dX5_copyFrom_71 ?_
  refine g_sipush (pc := 72) (v := 240) (by decide) C dX5_copyFrom_72 ?_
  refine g_copyi (pc := 75) C (by decide) lk_RX5_40 anat astat aini u11 u12 (by decide) (by decide) (by decide) (Nat.le_of_ble_eq_true rfl) dX5_copyFrom_75 (fun h13 eh13 => ?_)
  have hD := hD h13 eh13
  exact g_vret (pc := 78) C R dX5_copyFrom_78 hD
def DB_Outs_sail_27 (r : TR) (l0 : Nat) (l1 : Nat) (l3 : Int32) (l4 : Int32) (l5 : Int32) (h : TH) (K27 : Int32 → TH → Prop) (K51 : TH → Prop) (Q : TH → Prop) : Prop :=
  ((l3 ≤ l5 → K51 h) ∧ (¬ l3 ≤ l5 → D_Bay_passHour r l1 (r l0 1) (h.1 l1 4) h (fun h9 => ∀ x11 : Int32, x11 = l5 + 1 → K27 x11 h9)))
set_option maxRecDepth 100000 in
set_option maxHeartbeats 4000000 in
theorem WB_Outs_sail_27 {Y : CG} {X : CX} {r : TR} {l0 : Nat} {l1 : Nat} {l3 : Int32} {l4 : Int32} {l5 : Int32} {h : TH} {K27 : Int32 → TH → Prop} {K51 : TH → Prop} {Q : TH → Prop} (C : Gd Y X cX2_sail 6 RX2 6) (R : Rv Y r X Q) (t0 : TO Y l0 2) (t1 : TO Y l1 0) (hK27 : ∀ (k5 : Int32) (hh : TH), K27 k5 hh → G Y X 6 27 [(0, .ref l0), (1, .ref l1), (3, .int l3), (4, .int l4), (5, .int k5)] [] r hh) (hK51 : ∀ (hh : TH), K51 hh → G Y X 6 51 [(0, .ref l0), (1, .ref l1), (4, .int l4)] [] r hh) (hD : DB_Outs_sail_27 r l0 l1 l3 l4 l5 h K27 K51 Q) : G Y X 6 27 [(0, .ref l0), (1, .ref l1), (3, .int l3), (4, .int l4), (5, .int l5)] [] r h := by
  unfold DB_Outs_sail_27 at hD
  refine g_wt (fun hw => ?_)
  refine g_iload (pc := 27) 4 rfl C dX2_sail_27 ?_
  refine g_iload_n (pc := 29) rfl 2 rfl C dX2_sail_29 ?_
  refine g_icmp_ge (pc := 30) 51 C dX2_sail_30 (by decide) (fun c7 => ?_) (fun c7 => ?_)
  · have hD := hD.1 c7
    refine g_sub [0, 1, 3] rfl ?_
    exact hK51 h hD
  · have hD := hD.2 c7
    refine g_aload_n (pc := 33) rfl 1 rfl C dX2_sail_33 ?_
    refine g_aload_n (pc := 34) rfl 0 rfl C dX2_sail_34 ?_
    have u8 : TO Y (r l0 1) 5 := wt_o hw t0 (by decide) rfl
    refine g_getR (pc := 35) C fl_RX2_18 t0 rfl dX2_sail_35 ?_
    refine g_aload_n (pc := 38) rfl 1 rfl C dX2_sail_38 ?_
    refine g_getI (pc := 39) C fl_RX2_38 t1 rfl dX2_sail_39 ?_
    refine g_callVv (pc := 42) (As := [.ref (r l0 1), .int (h.1 l1 4)]) C mv_RX2_43 (M_Bay_passHour t1 u8 hD) t1 (by decide) rfl rfl (Nat.le_of_ble_eq_true rfl) dX2_sail_42 (fun h9 hD => ?_)
    refine g_iinc (pc := 45) (q := 4) (c := 1) (fun x11 => [(5, .int x11), (0, .ref l0), (1, .ref l1), (3, .int l3), (4, .int l4)]) C dX2_sail_45 rfl (by decide) (by decide) rfl (fun x11 ex11 => ?_)
    have hD := hD x11 ex11
    refine g_goto (pc := 48) 27 C dX2_sail_48 (by decide) ?_
    refine g_sub [1, 2, 3, 4, 0] rfl ?_
    exact hK27 x11 h9 hD
def DB_Outs_sail_54 (r : TR) (l0 : Nat) (l1 : Nat) (l4 : Int32) (l5 : Int32) (h : TH) (K54 : Int32 → TH → Prop) (K88 : TH → Prop) (Q : TH → Prop) : Prop :=
  (((h.1 l1 2) ≤ l5 → K88 h) ∧ (¬ (h.1 l1 2) ≤ l5 → D_Outs_howFar r l0 l5 h (fun x19 h18 => vp_in ((6 * l4) + l5) 384 ∧ ∀ h20, h20 = pI h18 (r l0 0) (((6 * l4) + l5).toNatClampNeg) x19 → ∀ x21 : Int32, x21 = l5 + 1 → K54 x21 h20)))
set_option maxRecDepth 100000 in
set_option maxHeartbeats 4000000 in
theorem WB_Outs_sail_54 {Y : CG} {X : CX} {r : TR} {l0 : Nat} {l1 : Nat} {l4 : Int32} {l5 : Int32} {h : TH} {K54 : Int32 → TH → Prop} {K88 : TH → Prop} {Q : TH → Prop} (C : Gd Y X cX2_sail 6 RX2 6) (R : Rv Y r X Q) (t0 : TO Y l0 2) (t1 : TO Y l1 0) (hK54 : ∀ (k5 : Int32) (hh : TH), K54 k5 hh → G Y X 6 54 [(0, .ref l0), (1, .ref l1), (4, .int l4), (5, .int k5)] [] r hh) (hK88 : ∀ (hh : TH), K88 hh → G Y X 6 88 [] [] r hh) (hD : DB_Outs_sail_54 r l0 l1 l4 l5 h K54 K88 Q) : G Y X 6 54 [(0, .ref l0), (1, .ref l1), (4, .int l4), (5, .int l5)] [] r h := by
  unfold DB_Outs_sail_54 at hD
  refine g_wt (fun hw => ?_)
  refine g_iload (pc := 54) 3 rfl C dX2_sail_54 ?_
  refine g_aload_n (pc := 56) rfl 1 rfl C dX2_sail_56 ?_
  refine g_getI (pc := 57) C fl_RX2_47 t1 rfl dX2_sail_57 ?_
  refine g_icmp_ge (pc := 60) 88 C dX2_sail_60 (by decide) (fun c16 => ?_) (fun c16 => ?_)
  · have hD := hD.1 c16
    refine g_sub [] rfl ?_
    exact hK88 h hD
  · have hD := hD.2 c16
    refine g_aload_n (pc := 63) rfl 0 rfl C dX2_sail_63 ?_
    have u17 : TA Y (r l0 0) 10 384 := wt_a hw t0 (by decide) (by decide) rfl
    refine g_getR (pc := 64) C fl_RX2_9 t0 rfl dX2_sail_64 ?_
    refine g_bipush (pc := 67) (v := 6) (by decide) C dX2_sail_67 ?_
    refine g_iload (pc := 69) 2 rfl C dX2_sail_69 ?_
    refine g_imul (pc := 71) C dX2_sail_71 ?_
    refine g_iload (pc := 72) 3 rfl C dX2_sail_72 ?_
    refine g_iadd (pc := 74) C dX2_sail_74 ?_
    refine g_aload_n (pc := 75) rfl 0 rfl C dX2_sail_75 ?_
    refine g_iload (pc := 76) 3 rfl C dX2_sail_76 ?_
    refine g_callVi (pc := 78) (As := [.int l5]) C mv_RX2_50 (M_Outs_howFar t0 hD) t0 (by decide) rfl rfl (Nat.le_of_ble_eq_true rfl) dX2_sail_78 (fun x19 h18 hD => ?_)
    obtain ⟨hb, hD⟩ := hD
    refine g_iast (pc := 81) C u17 hb dX2_sail_81 (fun h20 eh20 => ?_)
    have hD := hD h20 eh20
    refine g_iinc (pc := 82) (q := 3) (c := 1) (fun x21 => [(5, .int x21), (0, .ref l0), (1, .ref l1), (4, .int l4)]) C dX2_sail_82 rfl (by decide) (by decide) rfl (fun x21 ex21 => ?_)
    have hD := hD x21 ex21
    refine g_goto (pc := 85) 54 C dX2_sail_85 (by decide) ?_
    refine g_sub [1, 2, 3, 0] rfl ?_
    exact hK54 x21 h20 hD
def D_Outs_sail (r : TR) (o : Nat) (a1 : Nat) (a2 : Nat) (a3 : Int32) (a4 : Int32) (h : TH) (Q : TH → Prop) : Prop :=
  D_Sc_copyFrom r (r o 1) a2 h (fun h2 => ∀ h5, h5 = pI h2 (r o 1) 1 ((h2.1 (r o 1) 1) &&& (a4 ^^^ (-1))) → ∃ n, lp (fun (K : Int32 × TH → Prop) (s : Int32 × TH) => DB_Outs_sail_27 r o a1 a3 a4 s.1 s.2 (fun y12 h13 => K (y12, h13)) (fun h14 => ∃ n, lp (fun (K : Int32 × TH → Prop) (s : Int32 × TH) => DB_Outs_sail_54 r o a1 a4 s.1 s.2 (fun y22 h23 => K (y22, h23)) (fun h24 => Q h24) Q) n (0, h14)) Q) n (0, h5))
set_option maxRecDepth 100000 in
set_option maxHeartbeats 4000000 in
theorem M_Outs_sail {Y : CG} {r : TR} {l : Launch} {o : Nat} {a1 : Nat} {a2 : Nat} {a3 : Int32} {a4 : Int32} {h : TH} {Q : TH → Prop} (t0 : TO Y o 2) (t1 : TO Y a1 0) (t2 : TO Y a2 5) (hD : D_Outs_sail r o a1 a2 a3 a4 h Q) : Mv Y r l yX2_sail cX2_sail 6 6 [.ref o, .ref a1, .ref a2, .int a3, .int a4] h Q := by
  unfold D_Outs_sail at hD
  refine Mv.of RX2 rfl (by decide) (by simp [lg_sl, Value.category]) [(0, .ref o), (1, .ref a1), (2, .ref a2), (3, .int a3), (4, .int a4)] rfl (fun X hXl C R => ?_)
  subst hXl
  refine g_wt (fun hw => ?_)
  refine g_aload_n (pc := 0) rfl 0 rfl C dX2_sail_0 ?_
  have u1 : TO Y (r o 1) 5 := wt_o hw t0 (by decide) rfl
  refine g_getR (pc := 1) C fl_RX2_18 t0 rfl dX2_sail_1 ?_
  refine g_aload_n (pc := 4) rfl 2 rfl C dX2_sail_4 ?_
  refine g_callVv (pc := 5) (As := [.ref a2]) C mv_RX2_34 (M_Sc_copyFrom u1 t2 hD) u1 (by decide) rfl rfl (Nat.le_of_ble_eq_true rfl) dX2_sail_5 (fun h2 hD => ?_)
  refine g_aload_n (pc := 8) rfl 0 rfl C dX2_sail_8 ?_
  have u4 : TO Y (r o 1) 5 := wt_o hw t0 (by decide) rfl
  refine g_getR (pc := 9) C fl_RX2_18 t0 rfl dX2_sail_9 ?_
  refine g_dup (pc := 12) rfl C dX2_sail_12 ?_
  refine g_getI (pc := 13) C fl_RX2_22 u4 rfl dX2_sail_13 ?_
  refine g_iload (pc := 16) 4 rfl C dX2_sail_16 ?_
  refine g_iconst (pc := 18) (v := (-1)) (by decide) C dX2_sail_18 ?_
  refine g_ixor (pc := 19) C dX2_sail_19 ?_
  refine g_iand (pc := 20) C dX2_sail_20 ?_
  refine g_putI (pc := 21) C fl_RX2_22 u4 rfl rfl rfl dX2_sail_21 (fun h5 eh5 => ?_)
  have hD := hD h5 eh5
  refine g_iconst (pc := 24) (v := 0) (by decide) C dX2_sail_24 ?_
  refine g_istore (pc := 25) (fun _ => [(5, .int 0), (0, .ref o), (1, .ref a1), (2, .ref a2), (3, .int a3), (4, .int a4)]) C dX2_sail_25 (by decide) rfl (fun _ _ => ?_)
  obtain ⟨n, hD⟩ := hD
  refine g_sub [1, 2, 4, 5, 0] rfl ?_
  refine lp_run (fun s : Int32 × TH => G Y X 6 27 [(0, .ref o), (1, .ref a1), (3, .int a3), (4, .int a4), (5, .int s.1)] [] r s.2) (fun K s hB hK => ?_) n (0, h5) hD
  refine WB_Outs_sail_27 C R t0 t1 (fun y12 h13 hk => hK _ hk) (fun h14 hD => ?_) hB
  · refine g_iconst (pc := 51) (v := 0) (by decide) C dX2_sail_51 ?_
    refine g_istore (pc := 52) (fun _ => [(5, .int 0), (0, .ref o), (1, .ref a1), (4, .int a4)]) C dX2_sail_52 (by decide) rfl (fun _ _ => ?_)
    obtain ⟨n, hD⟩ := hD
    refine g_sub [1, 2, 3, 0] rfl ?_
    refine lp_run (fun s : Int32 × TH => G Y X 6 54 [(0, .ref o), (1, .ref a1), (4, .int a4), (5, .int s.1)] [] r s.2) (fun K s hB hK => ?_) n (0, h14) hD
    refine WB_Outs_sail_54 C R t0 t1 (fun y22 h23 hk => hK _ hk) (fun h24 hD => ?_) hB
    · exact g_vret (pc := 88) C R dX2_sail_88 hD
def DB_Outs_nthRest_3 (r : TR) (l0 : Nat) (l1 : Nat) (l2 : Nat) (l3 : Int32) (l4 : Int32) (l5 : Int32) (h : TH) (K3 : Int32 → TH → Prop) (K39 : TH → Prop) (Q : Int32 → TH → Prop) : Prop :=
  (((h.1 l2 1) < l5 → K39 h) ∧ (¬ (h.1 l2 1) < l5 → ((¬ (l5 &&& ((h.1 l2 1) ^^^ (-1))) = 0 → ∀ x4 : Int32, x4 = l5 + 1 → K3 x4 h) ∧ ((l5 &&& ((h.1 l2 1) ^^^ (-1))) = 0 → D_Outs_sail r l0 l1 l2 l3 l5 h (fun h5 => ∀ x7 : Int32, x7 = l5 + 1 → K3 x7 h5)))))
set_option maxRecDepth 100000 in
set_option maxHeartbeats 4000000 in
theorem WB_Outs_nthRest_3 {Y : CG} {X : CX} {r : TR} {l0 : Nat} {l1 : Nat} {l2 : Nat} {l3 : Int32} {l4 : Int32} {l5 : Int32} {h : TH} {K3 : Int32 → TH → Prop} {K39 : TH → Prop} {Q : Int32 → TH → Prop} (C : Gd Y X cX2_nthRest 7 RX2 7) (R : Ri Y r X .int Q) (t0 : TO Y l0 2) (t1 : TO Y l1 0) (t2 : TO Y l2 5) (hK3 : ∀ (k5 : Int32) (hh : TH), K3 k5 hh → G Y X 7 3 [(0, .ref l0), (1, .ref l1), (2, .ref l2), (3, .int l3), (4, .int l4), (5, .int k5)] [] r hh) (hK39 : ∀ (hh : TH), K39 hh → G Y X 7 39 [(0, .ref l0), (2, .ref l2), (4, .int l4)] [] r hh) (hD : DB_Outs_nthRest_3 r l0 l1 l2 l3 l4 l5 h K3 K39 Q) : G Y X 7 3 [(0, .ref l0), (1, .ref l1), (2, .ref l2), (3, .int l3), (4, .int l4), (5, .int l5)] [] r h := by
  unfold DB_Outs_nthRest_3 at hD
  refine g_wt (fun hw => ?_)
  refine g_iload (pc := 3) 5 rfl C dX2_nthRest_3 ?_
  refine g_aload_n (pc := 5) rfl 2 rfl C dX2_nthRest_5 ?_
  refine g_getI (pc := 6) C fl_RX2_22 t2 rfl dX2_nthRest_6 ?_
  refine g_icmp_gt (pc := 9) 39 C dX2_nthRest_9 (by decide) (fun c2 => ?_) (fun c2 => ?_)
  · have hD := hD.1 c2
    refine g_sub [0, 2, 4] rfl ?_
    exact hK39 h hD
  · have hD := hD.2 c2
    refine g_iload (pc := 12) 5 rfl C dX2_nthRest_12 ?_
    refine g_aload_n (pc := 14) rfl 2 rfl C dX2_nthRest_14 ?_
    refine g_getI (pc := 15) C fl_RX2_22 t2 rfl dX2_nthRest_15 ?_
    refine g_iconst (pc := 18) (v := (-1)) (by decide) C dX2_nthRest_18 ?_
    refine g_ixor (pc := 19) C dX2_nthRest_19 ?_
    refine g_iand (pc := 20) C dX2_nthRest_20 ?_
    refine g_if_ne (pc := 21) 33 C dX2_nthRest_21 (by decide) (fun c3 => ?_) (fun c3 => ?_)
    · have hD := hD.1 c3
      refine g_iinc (pc := 33) (q := 5) (c := 1) (fun x4 => [(5, .int x4), (0, .ref l0), (1, .ref l1), (2, .ref l2), (3, .int l3), (4, .int l4)]) C dX2_nthRest_33 rfl (by decide) (by decide) rfl (fun x4 ex4 => ?_)
      have hD := hD x4 ex4
      refine g_goto (pc := 36) 3 C dX2_nthRest_36 (by decide) ?_
      refine g_sub [1, 2, 3, 4, 5, 0] rfl ?_
      exact hK3 x4 h hD
    · have hD := hD.2 c3
      refine g_aload_n (pc := 24) rfl 0 rfl C dX2_nthRest_24 ?_
      refine g_aload_n (pc := 25) rfl 1 rfl C dX2_nthRest_25 ?_
      refine g_aload_n (pc := 26) rfl 2 rfl C dX2_nthRest_26 ?_
      refine g_iload_n (pc := 27) rfl 3 rfl C dX2_nthRest_27 ?_
      refine g_iload (pc := 28) 5 rfl C dX2_nthRest_28 ?_
      refine g_callVv (pc := 30) (As := [.ref l1, .ref l2, .int l3, .int l5]) C mv_RX2_26 (M_Outs_sail t0 t1 t2 hD) t0 (by decide) rfl rfl (Nat.le_of_ble_eq_true rfl) dX2_nthRest_30 (fun h5 hD => ?_)
      refine g_iinc (pc := 33) (q := 5) (c := 1) (fun x7 => [(5, .int x7), (0, .ref l0), (1, .ref l1), (2, .ref l2), (3, .int l3), (4, .int l4)]) C dX2_nthRest_33 rfl (by decide) (by decide) rfl (fun x7 ex7 => ?_)
      have hD := hD x7 ex7
      refine g_goto (pc := 36) 3 C dX2_nthRest_36 (by decide) ?_
      refine g_sub [1, 2, 3, 4, 5, 0] rfl ?_
      exact hK3 x7 h5 hD
def DB_Outs_nthRest_45 (r : TR) (l0 : Nat) (l2 : Nat) (l4 : Int32) (l5 : Int32) (l6 : Int32) (h : TH) (K45 : Int32 → Int32 → TH → Prop) (K98 : Int32 → TH → Prop) (Q : Int32 → TH → Prop) : Prop :=
  (((h.1 l2 1) < l6 → K98 l5 h) ∧ (¬ (h.1 l2 1) < l6 → ((¬ (l6 &&& ((h.1 l2 1) ^^^ (-1))) = 0 → ∀ x15 : Int32, x15 = l6 + 1 → K45 l5 x15 h) ∧ ((l6 &&& ((h.1 l2 1) ^^^ (-1))) = 0 → D_Outs_isRest r l0 (h.1 l2 1) l6 h (fun x17 h16 => ((x17 = 0 → ∀ x19 : Int32, x19 = l6 + 1 → K45 l5 x19 h16) ∧ (¬ x17 = 0 → ((¬ l5 = l4 → ∀ x21 : Int32, x21 = l5 + 1 → ∀ x22 : Int32, x22 = l6 + 1 → K45 x21 x22 h16) ∧ (l5 = l4 → Q l6 h16)))))))))
set_option maxRecDepth 100000 in
set_option maxHeartbeats 4000000 in
theorem WB_Outs_nthRest_45 {Y : CG} {X : CX} {r : TR} {l0 : Nat} {l2 : Nat} {l4 : Int32} {l5 : Int32} {l6 : Int32} {h : TH} {K45 : Int32 → Int32 → TH → Prop} {K98 : Int32 → TH → Prop} {Q : Int32 → TH → Prop} (C : Gd Y X cX2_nthRest 7 RX2 7) (R : Ri Y r X .int Q) (t0 : TO Y l0 2) (t2 : TO Y l2 5) (hK45 : ∀ (k5 : Int32) (k6 : Int32) (hh : TH), K45 k5 k6 hh → G Y X 7 45 [(0, .ref l0), (2, .ref l2), (4, .int l4), (5, .int k5), (6, .int k6)] [] r hh) (hK98 : ∀ (k5 : Int32) (hh : TH), K98 k5 hh → G Y X 7 98 [(4, .int l4), (5, .int k5)] [] r hh) (hD : DB_Outs_nthRest_45 r l0 l2 l4 l5 l6 h K45 K98 Q) : G Y X 7 45 [(0, .ref l0), (2, .ref l2), (4, .int l4), (5, .int l5), (6, .int l6)] [] r h := by
  unfold DB_Outs_nthRest_45 at hD
  refine g_wt (fun hw => ?_)
  refine g_iload (pc := 45) 4 rfl C dX2_nthRest_45 ?_
  refine g_aload_n (pc := 47) rfl 1 rfl C dX2_nthRest_47 ?_
  refine g_getI (pc := 48) C fl_RX2_22 t2 rfl dX2_nthRest_48 ?_
  refine g_icmp_gt (pc := 51) 98 C dX2_nthRest_51 (by decide) (fun c13 => ?_) (fun c13 => ?_)
  · have hD := hD.1 c13
    refine g_sub [2, 3] rfl ?_
    exact hK98 l5 h hD
  · have hD := hD.2 c13
    refine g_iload (pc := 54) 4 rfl C dX2_nthRest_54 ?_
    refine g_aload_n (pc := 56) rfl 1 rfl C dX2_nthRest_56 ?_
    refine g_getI (pc := 57) C fl_RX2_22 t2 rfl dX2_nthRest_57 ?_
    refine g_iconst (pc := 60) (v := (-1)) (by decide) C dX2_nthRest_60 ?_
    refine g_ixor (pc := 61) C dX2_nthRest_61 ?_
    refine g_iand (pc := 62) C dX2_nthRest_62 ?_
    refine g_if_ne (pc := 63) 92 C dX2_nthRest_63 (by decide) (fun c14 => ?_) (fun c14 => ?_)
    · have hD := hD.1 c14
      refine g_iinc (pc := 92) (q := 4) (c := 1) (fun x15 => [(6, .int x15), (0, .ref l0), (2, .ref l2), (4, .int l4), (5, .int l5)]) C dX2_nthRest_92 rfl (by decide) (by decide) rfl (fun x15 ex15 => ?_)
      have hD := hD x15 ex15
      refine g_goto (pc := 95) 45 C dX2_nthRest_95 (by decide) ?_
      refine g_sub [1, 2, 3, 4, 0] rfl ?_
      exact hK45 l5 x15 h hD
    · have hD := hD.2 c14
      refine g_aload_n (pc := 66) rfl 0 rfl C dX2_nthRest_66 ?_
      refine g_aload_n (pc := 67) rfl 1 rfl C dX2_nthRest_67 ?_
      refine g_getI (pc := 68) C fl_RX2_22 t2 rfl dX2_nthRest_68 ?_
      refine g_iload (pc := 71) 4 rfl C dX2_nthRest_71 ?_
      refine g_callVi (pc := 73) (As := [.int (h.1 l2 1), .int l6]) C mv_RX2_30 (M_Outs_isRest t0 hD) t0 (by decide) rfl rfl (Nat.le_of_ble_eq_true rfl) dX2_nthRest_73 (fun x17 h16 hD => ?_)
      refine g_if_eq (pc := 76) 92 C dX2_nthRest_76 (by decide) (fun c18 => ?_) (fun c18 => ?_)
      · have hD := hD.1 c18
        refine g_iinc (pc := 92) (q := 4) (c := 1) (fun x19 => [(6, .int x19), (0, .ref l0), (2, .ref l2), (4, .int l4), (5, .int l5)]) C dX2_nthRest_92 rfl (by decide) (by decide) rfl (fun x19 ex19 => ?_)
        have hD := hD x19 ex19
        refine g_goto (pc := 95) 45 C dX2_nthRest_95 (by decide) ?_
        refine g_sub [1, 2, 3, 4, 0] rfl ?_
        exact hK45 l5 x19 h16 hD
      · have hD := hD.2 c18
        refine g_iload (pc := 79) 3 rfl C dX2_nthRest_79 ?_
        refine g_iload (pc := 81) 2 rfl C dX2_nthRest_81 ?_
        refine g_icmp_ne (pc := 83) 89 C dX2_nthRest_83 (by decide) (fun c20 => ?_) (fun c20 => ?_)
        · have hD := hD.1 c20
          refine g_iinc (pc := 89) (q := 3) (c := 1) (fun x21 => [(5, .int x21), (0, .ref l0), (2, .ref l2), (4, .int l4), (6, .int l6)]) C dX2_nthRest_89 rfl (by decide) (by decide) rfl (fun x21 ex21 => ?_)
          have hD := hD x21 ex21
          refine g_iinc (pc := 92) (q := 4) (c := 1) (fun x22 => [(6, .int x22), (5, .int x21), (0, .ref l0), (2, .ref l2), (4, .int l4)]) C dX2_nthRest_92 rfl (by decide) (by decide) rfl (fun x22 ex22 => ?_)
          have hD := hD x22 ex22
          refine g_goto (pc := 95) 45 C dX2_nthRest_95 (by decide) ?_
          refine g_sub [2, 3, 4, 1, 0] rfl ?_
          exact hK45 x21 x22 h16 hD
        · have hD := hD.2 c20
          refine g_iload (pc := 86) 4 rfl C dX2_nthRest_86 ?_
          exact g_iret (pc := 88) C R dX2_nthRest_88 hD
def D_Outs_nthRest (r : TR) (o : Nat) (a1 : Nat) (a2 : Nat) (a3 : Int32) (a4 : Int32) (h : TH) (Q : Int32 → TH → Prop) : Prop :=
  ∃ n, lp (fun (K : Int32 × TH → Prop) (s : Int32 × TH) => DB_Outs_nthRest_3 r o a1 a2 a3 a4 s.1 s.2 (fun y8 h9 => K (y8, h9)) (fun h10 => ∃ n, lp (fun (K : Int32 × Int32 × TH → Prop) (s : Int32 × Int32 × TH) => DB_Outs_nthRest_45 r o a2 a4 s.1 s.2.1 s.2.2 (fun y23 y24 h25 => K (y23, y24, h25)) (fun x26 h27 => ((¬ a4 = (-1) → Q (-1) h27) ∧ (a4 = (-1) → Q x26 h27))) Q) n (0, 0, h10)) Q) n (0, h)
set_option maxRecDepth 100000 in
set_option maxHeartbeats 4000000 in
theorem M_Outs_nthRest {Y : CG} {r : TR} {l : Launch} {o : Nat} {a1 : Nat} {a2 : Nat} {a3 : Int32} {a4 : Int32} {h : TH} {Q : Int32 → TH → Prop} (t0 : TO Y o 2) (t1 : TO Y a1 0) (t2 : TO Y a2 5) (hD : D_Outs_nthRest r o a1 a2 a3 a4 h Q) : Mi Y r l yX2_nthRest cX2_nthRest 7 .int 7 [.ref o, .ref a1, .ref a2, .int a3, .int a4] h Q := by
  unfold D_Outs_nthRest at hD
  refine Mi.of RX2 rfl (by decide) (by simp [lg_sl, Value.category]) [(0, .ref o), (1, .ref a1), (2, .ref a2), (3, .int a3), (4, .int a4)] rfl (fun X hXl C R => ?_)
  subst hXl
  refine g_wt (fun hw => ?_)
  refine g_iconst (pc := 0) (v := 0) (by decide) C dX2_nthRest_0 ?_
  refine g_istore (pc := 1) (fun _ => [(5, .int 0), (0, .ref o), (1, .ref a1), (2, .ref a2), (3, .int a3), (4, .int a4)]) C dX2_nthRest_1 (by decide) rfl (fun _ _ => ?_)
  obtain ⟨n, hD⟩ := hD
  refine g_sub [1, 2, 3, 4, 5, 0] rfl ?_
  refine lp_run (fun s : Int32 × TH => G Y X 7 3 [(0, .ref o), (1, .ref a1), (2, .ref a2), (3, .int a3), (4, .int a4), (5, .int s.1)] [] r s.2) (fun K s hB hK => ?_) n (0, h) hD
  refine WB_Outs_nthRest_3 C R t0 t1 t2 (fun y8 h9 hk => hK _ hk) (fun h10 hD => ?_) hB
  · refine g_iconst (pc := 39) (v := 0) (by decide) C dX2_nthRest_39 ?_
    refine g_istore (pc := 40) (fun _ => [(5, .int 0), (0, .ref o), (2, .ref a2), (4, .int a4)]) C dX2_nthRest_40 (by decide) rfl (fun _ _ => ?_)
    refine g_iconst (pc := 42) (v := 0) (by decide) C dX2_nthRest_42 ?_
    refine g_istore (pc := 43) (fun _ => [(6, .int 0), (5, .int 0), (0, .ref o), (2, .ref a2), (4, .int a4)]) C dX2_nthRest_43 (by decide) rfl (fun _ _ => ?_)
    obtain ⟨n, hD⟩ := hD
    refine g_sub [2, 3, 4, 1, 0] rfl ?_
    refine lp_run (fun s : Int32 × Int32 × TH => G Y X 7 45 [(0, .ref o), (2, .ref a2), (4, .int a4), (5, .int s.1), (6, .int s.2.1)] [] r s.2.2) (fun K s hB hK => ?_) n (0, 0, h10) hD
    refine WB_Outs_nthRest_45 C R t0 t2 (fun y23 y24 h25 hk => hK _ hk) (fun x26 h27 hD => ?_) hB
    · refine g_iload (pc := 98) 0 rfl C dX2_nthRest_98 ?_
      refine g_iconst (pc := 100) (v := (-1)) (by decide) C dX2_nthRest_100 ?_
      refine g_icmp_ne (pc := 101) 109 C dX2_nthRest_101 (by decide) (fun c28 => ?_) (fun c28 => ?_)
      · have hD := hD.1 c28
        refine g_iconst (pc := 109) (v := (-1)) (by decide) C dX2_nthRest_109 ?_
        exact g_iret (pc := 110) C R dX2_nthRest_110 hD
      · have hD := hD.2 c28
        refine g_iload (pc := 104) 1 rfl C dX2_nthRest_104 ?_
        refine g_goto (pc := 106) 110 C dX2_nthRest_106 (by decide) ?_
        exact g_iret (pc := 110) C R dX2_nthRest_110 hD
def D_Past_clear (r : TR) (o : Nat) (h : TH) (Q : TH → Prop) : Prop :=
  ∀ h1, h1 = pI h o 0 0 → Q h1
set_option maxRecDepth 100000 in
set_option maxHeartbeats 4000000 in
theorem M_Past_clear {Y : CG} {r : TR} {l : Launch} {o : Nat} {h : TH} {Q : TH → Prop} (t0 : TO Y o 3) (hD : D_Past_clear r o h Q) : Mv Y r l yX3_clear cX3_clear 1 1 [.ref o] h Q := by
  unfold D_Past_clear at hD
  refine Mv.of RX3 rfl (by decide) (by simp [lg_sl, Value.category]) [(0, .ref o)] rfl (fun X hXl C R => ?_)
  subst hXl
  refine g_wt (fun hw => ?_)
  refine g_aload_n (pc := 0) rfl 0 rfl C dX3_clear_0 ?_
  refine g_iconst (pc := 1) (v := 0) (by decide) C dX3_clear_1 ?_
  refine g_putI (pc := 2) C fl_RX3_9 t0 rfl rfl rfl dX3_clear_2 (fun h1 eh1 => ?_)
  have hD := hD h1 eh1
  exact g_vret (pc := 5) C R dX3_clear_5 hD
def D_Past_giveBack (r : TR) (o : Nat) (a1 : Nat) (h : TH) (Q : Int32 → TH → Prop) : Prop :=
  ((¬ (h.1 o 0) = 0 → ∀ h2, h2 = pI h o 2 (jrem (((h.1 o 2) + 30) - 1) 30) → ∀ h3, h3 = pI h2 o 0 ((h2.1 o 0) - 1) → ∀ i5 : Int32, i5 = h3.1 o 2 → vp_in i5 30 ∧ D_Sc_copyFrom r a1 (r (r o 1) i5.toNatClampNeg) h3 (fun h7 => Q 1 h7)) ∧ ((h.1 o 0) = 0 → Q 0 h))
set_option maxRecDepth 100000 in
set_option maxHeartbeats 4000000 in
theorem M_Past_giveBack {Y : CG} {r : TR} {l : Launch} {o : Nat} {a1 : Nat} {h : TH} {Q : Int32 → TH → Prop} (t0 : TO Y o 3) (t1 : TO Y a1 5) (hD : D_Past_giveBack r o a1 h Q) : Mi Y r l yX3_giveBack cX3_giveBack 2 .boolean 2 [.ref o, .ref a1] h Q := by
  unfold D_Past_giveBack at hD
  refine Mi.of RX3 rfl (by decide) (by simp [lg_sl, Value.category]) [(0, .ref o), (1, .ref a1)] rfl (fun X hXl C R => ?_)
  subst hXl
  refine g_wt (fun hw => ?_)
  refine g_aload_n (pc := 0) rfl 0 rfl C dX3_giveBack_0 ?_
  refine g_getI (pc := 1) C fl_RX3_9 t0 rfl dX3_giveBack_1 ?_
  refine g_if_ne (pc := 4) 9 C dX3_giveBack_4 (by decide) (fun c1 => ?_) (fun c1 => ?_)
  · have hD := hD.1 c1
    refine g_aload_n (pc := 9) rfl 0 rfl C dX3_giveBack_9 ?_
    refine g_aload_n (pc := 10) rfl 0 rfl C dX3_giveBack_10 ?_
    refine g_getI (pc := 11) C fl_RX3_21 t0 rfl dX3_giveBack_11 ?_
    refine g_bipush (pc := 14) (v := 30) (by decide) C dX3_giveBack_14 ?_
    refine g_iadd (pc := 16) C dX3_giveBack_16 ?_
    refine g_iconst (pc := 17) (v := 1) (by decide) C dX3_giveBack_17 ?_
    refine g_isub (pc := 18) C dX3_giveBack_18 ?_
    refine g_bipush (pc := 19) (v := 30) (by decide) C dX3_giveBack_19 ?_
    refine g_irem (pc := 21) (by decide) C dX3_giveBack_21 ?_
    refine g_putI (pc := 22) C fl_RX3_21 t0 rfl rfl rfl dX3_giveBack_22 (fun h2 eh2 => ?_)
    have hD := hD h2 eh2
    refine g_aload_n (pc := 25) rfl 0 rfl C dX3_giveBack_25 ?_
    refine g_dup (pc := 26) rfl C dX3_giveBack_26 ?_
    refine g_getI (pc := 27) C fl_RX3_9 t0 rfl dX3_giveBack_27 ?_
    refine g_iconst (pc := 30) (v := 1) (by decide) C dX3_giveBack_30 ?_
    refine g_isub (pc := 31) C dX3_giveBack_31 ?_
    refine g_putI (pc := 32) C fl_RX3_9 t0 rfl rfl rfl dX3_giveBack_32 (fun h3 eh3 => ?_)
    have hD := hD h3 eh3
    refine g_aload_n (pc := 35) rfl 1 rfl C dX3_giveBack_35 ?_
    refine g_aload_n (pc := 36) rfl 0 rfl C dX3_giveBack_36 ?_
    have u4 : TA Y (r o 1) 13 30 := wt_a hw t0 (by decide) (by decide) rfl
    refine g_getR (pc := 37) C fl_RX3_17 t0 rfl dX3_giveBack_37 ?_
    refine g_aload_n (pc := 40) rfl 0 rfl C dX3_giveBack_40 ?_
    refine g_getI (pc := 41) C fl_RX3_21 t0 rfl dX3_giveBack_41 ?_
    refine g_topi (fun i5 ei5 => ?_)
    have hD := hD i5 ei5
    obtain ⟨hb, hD⟩ := hD
    refine g_aald (pc := 44) C u4 hb dX3_giveBack_44 ?_
    have u6 : TO Y (r (r o 1) i5.toNatClampNeg) 5 := wt_s hw u4 (vp_in_clamp hb)
    refine g_callVv (pc := 45) (As := [.ref (r (r o 1) i5.toNatClampNeg)]) C mv_RX3_25 (M_Sc_copyFrom t1 u6 hD) t1 (by decide) rfl rfl (Nat.le_of_ble_eq_true rfl) dX3_giveBack_45 (fun h7 hD => ?_)
    refine g_iconst (pc := 48) (v := 1) (by decide) C dX3_giveBack_48 ?_
    exact g_zret (pc := 49) C R nz_1 dX3_giveBack_49 hD
  · have hD := hD.2 c1
    refine g_iconst (pc := 7) (v := 0) (by decide) C dX3_giveBack_7 ?_
    exact g_zret (pc := 8) C R nz_0 dX3_giveBack_8 hD
def D_Past_keep (r : TR) (o : Nat) (a1 : Nat) (h : TH) (Q : TH → Prop) : Prop :=
  ∀ i2 : Int32, i2 = h.1 o 2 → vp_in i2 30 ∧ D_Sc_copyFrom r (r (r o 1) i2.toNatClampNeg) a1 h (fun h4 => ∀ h6, h6 = pI h4 o 2 (jrem ((h4.1 o 2) + 1) 30) → ∀ h7, h7 = pI h6 o 0 ((if ((h6.1 o 0) + 1) < 30 then ((h6.1 o 0) + 1) else 30)) → Q h7)
set_option maxRecDepth 100000 in
set_option maxHeartbeats 4000000 in
theorem M_Past_keep {Y : CG} {r : TR} {l : Launch} {o : Nat} {a1 : Nat} {h : TH} {Q : TH → Prop} (t0 : TO Y o 3) (t1 : TO Y a1 5) (hD : D_Past_keep r o a1 h Q) : Mv Y r l yX3_keep cX3_keep 2 2 [.ref o, .ref a1] h Q := by
  unfold D_Past_keep at hD
  refine Mv.of RX3 rfl (by decide) (by simp [lg_sl, Value.category]) [(0, .ref o), (1, .ref a1)] rfl (fun X hXl C R => ?_)
  subst hXl
  refine g_wt (fun hw => ?_)
  refine g_aload_n (pc := 0) rfl 0 rfl C dX3_keep_0 ?_
  have u1 : TA Y (r o 1) 13 30 := wt_a hw t0 (by decide) (by decide) rfl
  refine g_getR (pc := 1) C fl_RX3_17 t0 rfl dX3_keep_1 ?_
  refine g_aload_n (pc := 4) rfl 0 rfl C dX3_keep_4 ?_
  refine g_getI (pc := 5) C fl_RX3_21 t0 rfl dX3_keep_5 ?_
  refine g_topi (fun i2 ei2 => ?_)
  have hD := hD i2 ei2
  obtain ⟨hb, hD⟩ := hD
  refine g_aald (pc := 8) C u1 hb dX3_keep_8 ?_
  have u3 : TO Y (r (r o 1) i2.toNatClampNeg) 5 := wt_s hw u1 (vp_in_clamp hb)
  refine g_aload_n (pc := 9) rfl 1 rfl C dX3_keep_9 ?_
  refine g_callVv (pc := 10) (As := [.ref a1]) C mv_RX3_25 (M_Sc_copyFrom u3 t1 hD) u3 (by decide) rfl rfl (Nat.le_of_ble_eq_true rfl) dX3_keep_10 (fun h4 hD => ?_)
  refine g_aload_n (pc := 13) rfl 0 rfl C dX3_keep_13 ?_
  refine g_aload_n (pc := 14) rfl 0 rfl C dX3_keep_14 ?_
  refine g_getI (pc := 15) C fl_RX3_21 t0 rfl dX3_keep_15 ?_
  refine g_iconst (pc := 18) (v := 1) (by decide) C dX3_keep_18 ?_
  refine g_iadd (pc := 19) C dX3_keep_19 ?_
  refine g_bipush (pc := 20) (v := 30) (by decide) C dX3_keep_20 ?_
  refine g_irem (pc := 22) (by decide) C dX3_keep_22 ?_
  refine g_putI (pc := 23) C fl_RX3_21 t0 rfl rfl rfl dX3_keep_23 (fun h6 eh6 => ?_)
  have hD := hD h6 eh6
  refine g_aload_n (pc := 26) rfl 0 rfl C dX3_keep_26 ?_
  refine g_bipush (pc := 27) (v := 30) (by decide) C dX3_keep_27 ?_
  refine g_aload_n (pc := 29) rfl 0 rfl C dX3_keep_29 ?_
  refine g_getI (pc := 30) C fl_RX3_9 t0 rfl dX3_keep_30 ?_
  refine g_iconst (pc := 33) (v := 1) (by decide) C dX3_keep_33 ?_
  refine g_iadd (pc := 34) C dX3_keep_34 ?_
  refine g_min (pc := 35) C (by decide) lk_RX3_29 mst_min mini mco_min (Nat.le_of_ble_eq_true rfl) dX3_keep_35 ?_
  refine g_putI (pc := 38) C fl_RX3_9 t0 rfl rfl rfl dX3_keep_38 (fun h7 eh7 => ?_)
  have hD := hD h7 eh7
  exact g_vret (pc := 41) C R dX3_keep_41 hD
def DB_Rd_addBytes_3 (r : TR) (l0 : Nat) (l1 : Int32) (l2 : Int32) (h : TH) (K3 : Int32 → TH → Prop) (K46 : TH → Prop) (Q : TH → Prop) : Prop :=
  ((l2 < 0 → K46 h) ∧ (¬ l2 < 0 → ((2000 ≤ (h.1 l0 1) → K46 h) ∧ (¬ 2000 ≤ (h.1 l0 1) → vp_in (h.1 l0 1) 2000 ∧ ∀ h5, h5 = pI h (r l0 0) ((h.1 l0 1).toNatClampNeg) (vp_nar .byte ((jushr l1 l2).toInt8.toInt32)) → ∀ h6, h6 = pI h5 l0 1 ((h5.1 l0 1) + 1) → ∀ x7 : Int32, x7 = l2 + (-8) → K3 x7 h6))))
set_option maxRecDepth 100000 in
set_option maxHeartbeats 4000000 in
theorem WB_Rd_addBytes_3 {Y : CG} {X : CX} {r : TR} {l0 : Nat} {l1 : Int32} {l2 : Int32} {h : TH} {K3 : Int32 → TH → Prop} {K46 : TH → Prop} {Q : TH → Prop} (C : Gd Y X cX4_addBytes 3 RX4 1) (R : Rv Y r X Q) (t0 : TO Y l0 4) (hK3 : ∀ (k2 : Int32) (hh : TH), K3 k2 hh → G Y X 3 3 [(0, .ref l0), (1, .int l1), (2, .int k2)] [] r hh) (hK46 : ∀ (hh : TH), K46 hh → G Y X 3 46 [] [] r hh) (hD : DB_Rd_addBytes_3 r l0 l1 l2 h K3 K46 Q) : G Y X 3 3 [(0, .ref l0), (1, .int l1), (2, .int l2)] [] r h := by
  unfold DB_Rd_addBytes_3 at hD
  refine g_wt (fun hw => ?_)
  refine g_iload_n (pc := 3) rfl 2 rfl C dX4_addBytes_3 ?_
  refine g_if_lt (pc := 4) 46 C dX4_addBytes_4 (by decide) (fun c2 => ?_) (fun c2 => ?_)
  · have hD := hD.1 c2
    refine g_sub [] rfl ?_
    exact hK46 h hD
  · have hD := hD.2 c2
    refine g_aload_n (pc := 7) rfl 0 rfl C dX4_addBytes_7 ?_
    refine g_getI (pc := 8) C fl_RX4_15 t0 rfl dX4_addBytes_8 ?_
    refine g_sipush (pc := 11) (v := 2000) (by decide) C dX4_addBytes_11 ?_
    refine g_icmp_ge (pc := 14) 46 C dX4_addBytes_14 (by decide) (fun c3 => ?_) (fun c3 => ?_)
    · have hD := hD.1 c3
      refine g_sub [] rfl ?_
      exact hK46 h hD
    · have hD := hD.2 c3
      refine g_aload_n (pc := 17) rfl 0 rfl C dX4_addBytes_17 ?_
      have u4 : TA Y (r l0 0) 9 2000 := wt_a hw t0 (by decide) (by decide) rfl
      refine g_getR (pc := 18) C fl_RX4_9 t0 rfl dX4_addBytes_18 ?_
      refine g_aload_n (pc := 21) rfl 0 rfl C dX4_addBytes_21 ?_
      refine g_getI (pc := 22) C fl_RX4_15 t0 rfl dX4_addBytes_22 ?_
      refine g_iload_n (pc := 25) rfl 1 rfl C dX4_addBytes_25 ?_
      refine g_iload_n (pc := 26) rfl 2 rfl C dX4_addBytes_26 ?_
      refine g_iushr (pc := 27) C dX4_addBytes_27 ?_
      refine g_i2b (pc := 28) C dX4_addBytes_28 ?_
      obtain ⟨hb, hD⟩ := hD
      refine g_bast (pc := 29) C u4 hb dX4_addBytes_29 (fun h5 eh5 => ?_)
      have hD := hD h5 eh5
      refine g_aload_n (pc := 30) rfl 0 rfl C dX4_addBytes_30 ?_
      refine g_dup (pc := 31) rfl C dX4_addBytes_31 ?_
      refine g_getI (pc := 32) C fl_RX4_15 t0 rfl dX4_addBytes_32 ?_
      refine g_iconst (pc := 35) (v := 1) (by decide) C dX4_addBytes_35 ?_
      refine g_iadd (pc := 36) C dX4_addBytes_36 ?_
      refine g_putI (pc := 37) C fl_RX4_15 t0 rfl rfl rfl dX4_addBytes_37 (fun h6 eh6 => ?_)
      have hD := hD h6 eh6
      refine g_iinc (pc := 40) (q := 2) (c := (-8)) (fun x7 => [(2, .int x7), (0, .ref l0), (1, .int l1)]) C dX4_addBytes_40 rfl (by decide) (by decide) rfl (fun x7 ex7 => ?_)
      have hD := hD x7 ex7
      refine g_goto (pc := 43) 3 C dX4_addBytes_43 (by decide) ?_
      refine g_sub [1, 2, 0] rfl ?_
      exact hK3 x7 h6 hD
def D_Rd_addBytes (r : TR) (o : Nat) (a1 : Int32) (h : TH) (Q : TH → Prop) : Prop :=
  ∃ n, lp (fun (K : Int32 × TH → Prop) (s : Int32 × TH) => DB_Rd_addBytes_3 r o a1 s.1 s.2 (fun y8 h9 => K (y8, h9)) (fun h10 => Q h10) Q) n (24, h)
set_option maxRecDepth 100000 in
set_option maxHeartbeats 4000000 in
theorem M_Rd_addBytes {Y : CG} {r : TR} {l : Launch} {o : Nat} {a1 : Int32} {h : TH} {Q : TH → Prop} (t0 : TO Y o 4) (hD : D_Rd_addBytes r o a1 h Q) : Mv Y r l yX4_addBytes cX4_addBytes 3 1 [.ref o, .int a1] h Q := by
  unfold D_Rd_addBytes at hD
  refine Mv.of RX4 rfl (by decide) (by simp [lg_sl, Value.category]) [(0, .ref o), (1, .int a1)] rfl (fun X hXl C R => ?_)
  subst hXl
  refine g_wt (fun hw => ?_)
  refine g_bipush (pc := 0) (v := 24) (by decide) C dX4_addBytes_0 ?_
  refine g_istore_n (pc := 2) (fun _ => [(2, .int 24), (0, .ref o), (1, .int a1)]) C dX4_addBytes_2 rfl (by decide) rfl (fun _ _ => ?_)
  obtain ⟨n, hD⟩ := hD
  refine g_sub [1, 2, 0] rfl ?_
  refine lp_run (fun s : Int32 × TH => G Y X 3 3 [(0, .ref o), (1, .int a1), (2, .int s.1)] [] r s.2) (fun K s hB hK => ?_) n (24, h) hD
  refine WB_Rd_addBytes_3 C R t0 (fun y8 h9 hk => hK _ hk) (fun h10 hD => ?_) hB
  · exact g_vret (pc := 46) C R dX4_addBytes_46 hD
def D_Rd_addFlaw (r : TR) (o : Nat) (a1 : Int32) (a2 : Int32) (h : TH) (Q : TH → Prop) : Prop :=
  ((¬ (h.1 o 5) = 0 → Q h) ∧ ((h.1 o 5) = 0 → ∀ h2, h2 = pI h o 5 a1 → ∀ h3, h3 = pI h2 o 6 a2 → Q h3))
set_option maxRecDepth 100000 in
set_option maxHeartbeats 4000000 in
theorem M_Rd_addFlaw {Y : CG} {r : TR} {l : Launch} {o : Nat} {a1 : Int32} {a2 : Int32} {h : TH} {Q : TH → Prop} (t0 : TO Y o 4) (hD : D_Rd_addFlaw r o a1 a2 h Q) : Mv Y r l yX4_addFlaw cX4_addFlaw 3 1 [.ref o, .int a1, .int a2] h Q := by
  unfold D_Rd_addFlaw at hD
  refine Mv.of RX4 rfl (by decide) (by simp [lg_sl, Value.category]) [(0, .ref o), (1, .int a1), (2, .int a2)] rfl (fun X hXl C R => ?_)
  subst hXl
  refine g_wt (fun hw => ?_)
  refine g_aload_n (pc := 0) rfl 0 rfl C dX4_addFlaw_0 ?_
  refine g_getI (pc := 1) C fl_RX4_32 t0 rfl dX4_addFlaw_1 ?_
  refine g_if_ne (pc := 4) 17 C dX4_addFlaw_4 (by decide) (fun c1 => ?_) (fun c1 => ?_)
  · have hD := hD.1 c1
    exact g_vret (pc := 17) C R dX4_addFlaw_17 hD
  · have hD := hD.2 c1
    refine g_aload_n (pc := 7) rfl 0 rfl C dX4_addFlaw_7 ?_
    refine g_iload_n (pc := 8) rfl 1 rfl C dX4_addFlaw_8 ?_
    refine g_putI (pc := 9) C fl_RX4_32 t0 rfl rfl rfl dX4_addFlaw_9 (fun h2 eh2 => ?_)
    have hD := hD h2 eh2
    refine g_aload_n (pc := 12) rfl 0 rfl C dX4_addFlaw_12 ?_
    refine g_iload_n (pc := 13) rfl 2 rfl C dX4_addFlaw_13 ?_
    refine g_putI (pc := 14) C fl_RX4_35 t0 rfl rfl rfl dX4_addFlaw_14 (fun h3 eh3 => ?_)
    have hD := hD h3 eh3
    exact g_vret (pc := 17) C R dX4_addFlaw_17 hD
def D_St_isLatin1 (r : TR) (o : Nat) (h : TH) (Q : Int32 → TH → Prop) : Prop :=
  (((1 : Int32) = 0 → Q 0 h) ∧ (¬ (1 : Int32) = 0 → ((¬ (0 : Int32) = 0 → Q 0 h) ∧ ((0 : Int32) = 0 → Q 1 h))))
set_option maxRecDepth 100000 in
set_option maxHeartbeats 4000000 in
theorem M_St_isLatin1 {Y : CG} {r : TR} {l : Launch} {o : Nat} {h : TH} {Q : Int32 → TH → Prop} (t0 : o < 3) (hD : D_St_isLatin1 r o h Q) : Mi Y r l yJ0_isLatin1_aae02 cJ0_isLatin1_aae02 1 .boolean 1 [.ref (yA Y o)] h Q := by
  unfold D_St_isLatin1 at hD
  refine Mi.of RJ0 rfl (by decide) (by simp [lg_sl, Value.category]) [(0, .ref (yA Y o))] rfl (fun X hXl C R => ?_)
  subst hXl
  refine g_wt (fun hw => ?_)
  refine g_getsC (pc := 0) C fs_RJ0_38 dJ0_isLatin1_aae02_0 ?_
  refine g_if_eq (pc := 3) 17 C dJ0_isLatin1_aae02_3 (by decide) (fun c1 => ?_) (fun c1 => ?_)
  · have hD := hD.1 c1
    refine g_iconst (pc := 17) (v := 0) (by decide) C dJ0_isLatin1_aae02_17 ?_
    exact g_zret (pc := 18) C R nz_0 dJ0_isLatin1_aae02_18 hD
  · have hD := hD.2 c1
    refine g_aload_n (pc := 6) rfl 0 rfl C dJ0_isLatin1_aae02_6 ?_
    refine g_getC (pc := 7) C t0 fs_RJ0_15 dJ0_isLatin1_aae02_7 ?_
    refine g_if_ne (pc := 10) 17 C dJ0_isLatin1_aae02_10 (by decide) (fun c2 => ?_) (fun c2 => ?_)
    · have hD := hD.1 c2
      refine g_iconst (pc := 17) (v := 0) (by decide) C dJ0_isLatin1_aae02_17 ?_
      exact g_zret (pc := 18) C R nz_0 dJ0_isLatin1_aae02_18 hD
    · have hD := hD.2 c2
      refine g_iconst (pc := 13) (v := 1) (by decide) C dJ0_isLatin1_aae02_13 ?_
      refine g_goto (pc := 14) 18 C dJ0_isLatin1_aae02_14 (by decide) ?_
      exact g_zret (pc := 18) C R nz_1 dJ0_isLatin1_aae02_18 hD
def D_St_coder (r : TR) (o : Nat) (h : TH) (Q : Int32 → TH → Prop) : Prop :=
  (((1 : Int32) = 0 → (narrow .byte (.int 1) = .int 1 ∧ Q 1 h)) ∧ (¬ (1 : Int32) = 0 → (narrow .byte (.int 0) = .int 0 ∧ Q 0 h)))
set_option maxRecDepth 100000 in
set_option maxHeartbeats 4000000 in
theorem M_St_coder {Y : CG} {r : TR} {l : Launch} {o : Nat} {h : TH} {Q : Int32 → TH → Prop} (t0 : o < 3) (hD : D_St_coder r o h Q) : Mi Y r l yJ0_coder_7d493 cJ0_coder_7d493 1 .byte 1 [.ref (yA Y o)] h Q := by
  unfold D_St_coder at hD
  refine Mi.of RJ0 rfl (by decide) (by simp [lg_sl, Value.category]) [(0, .ref (yA Y o))] rfl (fun X hXl C R => ?_)
  subst hXl
  refine g_wt (fun hw => ?_)
  refine g_getsC (pc := 0) C fs_RJ0_38 dJ0_coder_7d493_0 ?_
  refine g_if_eq (pc := 3) 13 C dJ0_coder_7d493_3 (by decide) (fun c1 => ?_) (fun c1 => ?_)
  · have hD := hD.1 c1
    refine g_iconst (pc := 13) (v := 1) (by decide) C dJ0_coder_7d493_13 ?_
    exact g_zret (pc := 14) C R hD.1 dJ0_coder_7d493_14 hD.2
  · have hD := hD.2 c1
    refine g_aload_n (pc := 6) rfl 0 rfl C dJ0_coder_7d493_6 ?_
    refine g_getC (pc := 7) C t0 fs_RJ0_15 dJ0_coder_7d493_7 ?_
    refine g_goto (pc := 10) 14 C dJ0_coder_7d493_10 (by decide) ?_
    exact g_zret (pc := 14) C R hD.1 dJ0_coder_7d493_14 hD.2
def D_St_length (r : TR) (o : Nat) (h : TH) (Q : Int32 → TH → Prop) : Prop :=
  D_St_coder r o h (fun x2 h1 => Q ((Int32.ofNat (lenS.getD o 0)) >>> (x2 &&& 31)) h1)
set_option maxRecDepth 100000 in
set_option maxHeartbeats 4000000 in
theorem M_St_length {Y : CG} {r : TR} {l : Launch} {o : Nat} {h : TH} {Q : Int32 → TH → Prop} (t0 : o < 3) (hD : D_St_length r o h Q) : Mi Y r l yJ0_length_8abf5 cJ0_length_8abf5 1 .int 2 [.ref (yA Y o)] h Q := by
  unfold D_St_length at hD
  refine Mi.of RJ0 rfl (by decide) (by simp [lg_sl, Value.category]) [(0, .ref (yA Y o))] rfl (fun X hXl C R => ?_)
  subst hXl
  refine g_wt (fun hw => ?_)
  refine g_aload_n (pc := 0) rfl 0 rfl C dJ0_length_8abf5_0 ?_
  refine g_getV (pc := 1) C t0 fs_RJ0_9 dJ0_length_8abf5_1 ?_
  refine g_tlen (pc := 4) C t0 dJ0_length_8abf5_4 ?_
  refine g_aload_n (pc := 5) rfl 0 rfl C dJ0_length_8abf5_5 ?_
  refine g_callTi (pc := 6) (As := []) C mt_RJ0_335 (M_St_coder t0 hD) t0 (by decide) rfl rfl (Nat.le_of_ble_eq_true rfl) dJ0_length_8abf5_6 (fun x2 h1 hD => ?_)
  refine g_ishr (pc := 9) C dJ0_length_8abf5_9 ?_
  exact g_iret (pc := 10) C R dJ0_length_8abf5_10 hD
def D_La_canEncode (r : TR) (a0 : Int32) (h : TH) (Q : Int32 → TH → Prop) : Prop :=
  ((a0 < 0 → Q 0 h) ∧ (¬ a0 < 0 → ((255 < a0 → Q 0 h) ∧ (¬ 255 < a0 → Q 1 h))))
set_option maxRecDepth 100000 in
set_option maxHeartbeats 4000000 in
theorem M_La_canEncode {Y : CG} {r : TR} {l : Launch} {a0 : Int32} {h : TH} {Q : Int32 → TH → Prop} (hD : D_La_canEncode r a0 h Q) : Mi Y r l yJ1_canEncode_9a6ad cJ1_canEncode_9a6ad 1 .boolean 1 [.int a0] h Q := by
  unfold D_La_canEncode at hD
  refine Mi.of RJ1 rfl (by decide) (by simp [lg_sl, Value.category]) [(0, .int a0)] rfl (fun X hXl C R => ?_)
  subst hXl
  refine g_wt (fun hw => ?_)
  refine g_iload_n (pc := 0) rfl 0 rfl C dJ1_canEncode_9a6ad_0 ?_
  refine g_if_lt (pc := 1) 15 C dJ1_canEncode_9a6ad_1 (by decide) (fun c1 => ?_) (fun c1 => ?_)
  · have hD := hD.1 c1
    refine g_iconst (pc := 15) (v := 0) (by decide) C dJ1_canEncode_9a6ad_15 ?_
    exact g_zret (pc := 16) C R nz_0 dJ1_canEncode_9a6ad_16 hD
  · have hD := hD.2 c1
    refine g_iload_n (pc := 4) rfl 0 rfl C dJ1_canEncode_9a6ad_4 ?_
    refine g_sipush (pc := 5) (v := 255) (by decide) C dJ1_canEncode_9a6ad_5 ?_
    refine g_icmp_gt (pc := 8) 15 C dJ1_canEncode_9a6ad_8 (by decide) (fun c2 => ?_) (fun c2 => ?_)
    · have hD := hD.1 c2
      refine g_iconst (pc := 15) (v := 0) (by decide) C dJ1_canEncode_9a6ad_15 ?_
      exact g_zret (pc := 16) C R nz_0 dJ1_canEncode_9a6ad_16 hD
    · have hD := hD.2 c2
      refine g_iconst (pc := 11) (v := 1) (by decide) C dJ1_canEncode_9a6ad_11 ?_
      refine g_goto (pc := 12) 16 C dJ1_canEncode_9a6ad_12 (by decide) ?_
      exact g_zret (pc := 16) C R nz_1 dJ1_canEncode_9a6ad_16 hD
def DB_La_indexOfChar_7 (r : TR) (l0 : Nat) (l3 : Int32) (l4 : Int32) (l5 : Int32) (h : TH) (K7 : Int32 → TH → Prop) (K31 : TH → Prop) (Q : Int32 → TH → Prop) : Prop :=
  ((l3 ≤ l5 → K31 h) ∧ (¬ l3 ≤ l5 → vp_in l5 (lenS.getD l0 0) ∧ ((¬ (chS l0 l5) = l4 → ∀ x5 : Int32, x5 = l5 + 1 → K7 x5 h) ∧ ((chS l0 l5) = l4 → Q l5 h))))
set_option maxRecDepth 100000 in
set_option maxHeartbeats 4000000 in
theorem WB_La_indexOfChar_7 {Y : CG} {X : CX} {r : TR} {l0 : Nat} {l3 : Int32} {l4 : Int32} {l5 : Int32} {h : TH} {K7 : Int32 → TH → Prop} {K31 : TH → Prop} {Q : Int32 → TH → Prop} (C : Gd Y X cJ1_indexOfChar_4cfef 6 RJ1 1) (R : Ri Y r X .int Q) (t0 : l0 < 3) (hK7 : ∀ (k5 : Int32) (hh : TH), K7 k5 hh → G Y X 6 7 [(0, .ref (yV Y l0)), (3, .int l3), (4, .int l4), (5, .int k5)] [] r hh) (hK31 : ∀ (hh : TH), K31 hh → G Y X 6 31 [] [] r hh) (hD : DB_La_indexOfChar_7 r l0 l3 l4 l5 h K7 K31 Q) : G Y X 6 7 [(0, .ref (yV Y l0)), (3, .int l3), (4, .int l4), (5, .int l5)] [] r h := by
  unfold DB_La_indexOfChar_7 at hD
  refine g_wt (fun hw => ?_)
  refine g_iload (pc := 7) 3 rfl C dJ1_indexOfChar_4cfef_7 ?_
  refine g_iload_n (pc := 9) rfl 1 rfl C dJ1_indexOfChar_4cfef_9 ?_
  refine g_icmp_ge (pc := 10) 31 C dJ1_indexOfChar_4cfef_10 (by decide) (fun c3 => ?_) (fun c3 => ?_)
  · have hD := hD.1 c3
    refine g_sub [] rfl ?_
    exact hK31 h hD
  · have hD := hD.2 c3
    refine g_aload_n (pc := 13) rfl 0 rfl C dJ1_indexOfChar_4cfef_13 ?_
    refine g_iload (pc := 14) 3 rfl C dJ1_indexOfChar_4cfef_14 ?_
    obtain ⟨hb, hD⟩ := hD
    refine g_tb (pc := 16) C t0 hb dJ1_indexOfChar_4cfef_16 ?_
    refine g_iload (pc := 17) 2 rfl C dJ1_indexOfChar_4cfef_17 ?_
    refine g_icmp_ne (pc := 19) 25 C dJ1_indexOfChar_4cfef_19 (by decide) (fun c4 => ?_) (fun c4 => ?_)
    · have hD := hD.1 c4
      refine g_iinc (pc := 25) (q := 3) (c := 1) (fun x5 => [(5, .int x5), (0, .ref (yV Y l0)), (3, .int l3), (4, .int l4)]) C dJ1_indexOfChar_4cfef_25 rfl (by decide) (by decide) rfl (fun x5 ex5 => ?_)
      have hD := hD x5 ex5
      refine g_goto (pc := 28) 7 C dJ1_indexOfChar_4cfef_28 (by decide) ?_
      refine g_sub [1, 2, 3, 0] rfl ?_
      exact hK7 x5 h hD
    · have hD := hD.2 c4
      refine g_iload (pc := 22) 3 rfl C dJ1_indexOfChar_4cfef_22 ?_
      exact g_iret (pc := 24) C R dJ1_indexOfChar_4cfef_24 hD
def D_La_indexOfChar (r : TR) (a0 : Nat) (a1 : Int32) (a2 : Int32) (a3 : Int32) (h : TH) (Q : Int32 → TH → Prop) : Prop :=
  ∃ n, lp (fun (K : Int32 × TH → Prop) (s : Int32 × TH) => DB_La_indexOfChar_7 r a0 a3 a1.toInt8.toInt32 s.1 s.2 (fun y6 h7 => K (y6, h7)) (fun h8 => Q (-1) h8) Q) n (a2, h)
set_option maxRecDepth 100000 in
set_option maxHeartbeats 4000000 in
theorem M_La_indexOfChar {Y : CG} {r : TR} {l : Launch} {a0 : Nat} {a1 : Int32} {a2 : Int32} {a3 : Int32} {h : TH} {Q : Int32 → TH → Prop} (t0 : a0 < 3) (hD : D_La_indexOfChar r a0 a1 a2 a3 h Q) : Mi Y r l yJ1_indexOfChar_4cfef cJ1_indexOfChar_4cfef 6 .int 1 [.ref (yV Y a0), .int a1, .int a2, .int a3] h Q := by
  unfold D_La_indexOfChar at hD
  refine Mi.of RJ1 rfl (by decide) (by simp [lg_sl, Value.category]) [(0, .ref (yV Y a0)), (1, .int a1), (2, .int a2), (3, .int a3)] rfl (fun X hXl C R => ?_)
  subst hXl
  refine g_wt (fun hw => ?_)
  refine g_iload_n (pc := 0) rfl 1 rfl C dJ1_indexOfChar_4cfef_0 ?_
  refine g_i2b (pc := 1) C dJ1_indexOfChar_4cfef_1 ?_
  refine g_istore (pc := 2) (fun _ => [(4, .int a1.toInt8.toInt32), (0, .ref (yV Y a0)), (1, .int a1), (2, .int a2), (3, .int a3)]) C dJ1_indexOfChar_4cfef_2 (by decide) rfl (fun _ _ => ?_)
  refine g_iload_n (pc := 4) rfl 3 rfl C dJ1_indexOfChar_4cfef_4 ?_
  refine g_istore (pc := 5) (fun _ => [(5, .int a2), (4, .int a1.toInt8.toInt32), (0, .ref (yV Y a0)), (1, .int a1), (2, .int a2), (3, .int a3)]) C dJ1_indexOfChar_4cfef_5 (by decide) rfl (fun _ _ => ?_)
  obtain ⟨n, hD⟩ := hD
  refine g_sub [2, 5, 1, 0] rfl ?_
  refine lp_run (fun s : Int32 × TH => G Y X 6 7 [(0, .ref (yV Y a0)), (3, .int a3), (4, .int a1.toInt8.toInt32), (5, .int s.1)] [] r s.2) (fun K s hB hK => ?_) n (a2, h) hD
  refine WB_La_indexOfChar_7 C R t0 (fun y6 h7 hk => hK _ hk) (fun h8 hD => ?_) hB
  · refine g_iconst (pc := 31) (v := (-1)) (by decide) C dJ1_indexOfChar_4cfef_31 ?_
    exact g_iret (pc := 32) C R dJ1_indexOfChar_4cfef_32 hD
def D_La_indexOf (r : TR) (a0 : Nat) (a1 : Int32) (a2 : Int32) (a3 : Int32) (h : TH) (Q : Int32 → TH → Prop) : Prop :=
  D_La_canEncode r a1 h (fun x2 h1 => ((¬ x2 = 0 → ∀ x4 : Int32, x4 = (if a2 < 0 then 0 else a2) → ∀ x5 : Int32, x5 = (if (Int32.ofNat (lenS.getD a0 0)) < a3 then (Int32.ofNat (lenS.getD a0 0)) else a3) → ((x4 < x5 → D_La_indexOfChar r a0 a1 x4 x5 h1 (fun x8 h7 => Q x8 h7)) ∧ (¬ x4 < x5 → Q (-1) h1))) ∧ (x2 = 0 → Q (-1) h1)))
set_option maxRecDepth 100000 in
set_option maxHeartbeats 4000000 in
theorem M_La_indexOf {Y : CG} {r : TR} {l : Launch} {a0 : Nat} {a1 : Int32} {a2 : Int32} {a3 : Int32} {h : TH} {Q : Int32 → TH → Prop} (t0 : a0 < 3) (hD : D_La_indexOf r a0 a1 a2 a3 h Q) : Mi Y r l yJ1_indexOf_4cfef cJ1_indexOf_4cfef 4 .int 2 [.ref (yV Y a0), .int a1, .int a2, .int a3] h Q := by
  unfold D_La_indexOf at hD
  refine Mi.of RJ1 rfl (by decide) (by simp [lg_sl, Value.category]) [(0, .ref (yV Y a0)), (1, .int a1), (2, .int a2), (3, .int a3)] rfl (fun X hXl C R => ?_)
  subst hXl
  refine g_wt (fun hw => ?_)
  refine g_iload_n (pc := 0) rfl 1 rfl C dJ1_indexOf_4cfef_0 ?_
  refine g_callSi (pc := 1) (As := [.int a1]) C ms_RJ1_88 (M_La_canEncode  hD) (by decide) rfl rfl (Nat.le_of_ble_eq_true rfl) dJ1_indexOf_4cfef_1 (fun x2 h1 hD => ?_)
  refine g_if_ne (pc := 4) 9 C dJ1_indexOf_4cfef_4 (by decide) (fun c3 => ?_) (fun c3 => ?_)
  · have hD := hD.1 c3
    refine g_iload_n (pc := 9) rfl 2 rfl C dJ1_indexOf_4cfef_9 ?_
    refine g_iconst (pc := 10) (v := 0) (by decide) C dJ1_indexOf_4cfef_10 ?_
    refine g_max (pc := 11) C (by decide) lk_RJ1_92 mst_max mini mco_max (Nat.le_of_ble_eq_true rfl) dJ1_indexOf_4cfef_11 ?_
    refine g_istore_n (pc := 14) (fun x4 => [(2, .int x4), (0, .ref (yV Y a0)), (1, .int a1), (3, .int a3)]) C dJ1_indexOf_4cfef_14 rfl (by decide) rfl (fun x4 ex4 => ?_)
    have hD := hD x4 ex4
    refine g_iload_n (pc := 15) rfl 3 rfl C dJ1_indexOf_4cfef_15 ?_
    refine g_aload_n (pc := 16) rfl 1 rfl C dJ1_indexOf_4cfef_16 ?_
    refine g_tlen (pc := 17) C t0 dJ1_indexOf_4cfef_17 ?_
    refine g_min (pc := 18) C (by decide) lk_RJ1_38 mst_min mini mco_min (Nat.le_of_ble_eq_true rfl) dJ1_indexOf_4cfef_18 ?_
    refine g_istore_n (pc := 21) (fun x5 => [(3, .int x5), (2, .int x4), (0, .ref (yV Y a0)), (1, .int a1)]) C dJ1_indexOf_4cfef_21 rfl (by decide) rfl (fun x5 ex5 => ?_)
    have hD := hD x5 ex5
    refine g_iload_n (pc := 22) rfl 1 rfl C dJ1_indexOf_4cfef_22 ?_
    refine g_iload_n (pc := 23) rfl 0 rfl C dJ1_indexOf_4cfef_23 ?_
    refine g_icmp_lt (pc := 24) 29 C dJ1_indexOf_4cfef_24 (by decide) (fun c6 => ?_) (fun c6 => ?_)
    · have hD := hD.1 c6
      refine g_aload_n (pc := 29) rfl 2 rfl C dJ1_indexOf_4cfef_29 ?_
      refine g_iload_n (pc := 30) rfl 3 rfl C dJ1_indexOf_4cfef_30 ?_
      refine g_iload_n (pc := 31) rfl 1 rfl C dJ1_indexOf_4cfef_31 ?_
      refine g_iload_n (pc := 32) rfl 0 rfl C dJ1_indexOf_4cfef_32 ?_
      refine g_callSi (pc := 33) (As := [.ref (yV Y a0), .int a1, .int x4, .int x5]) C ms_RJ1_95 (M_La_indexOfChar t0 hD) (by decide) rfl rfl (Nat.le_of_ble_eq_true rfl) dJ1_indexOf_4cfef_33 (fun x8 h7 hD => ?_)
      exact g_iret (pc := 36) C R dJ1_indexOf_4cfef_36 hD
    · have hD := hD.2 c6
      refine g_iconst (pc := 27) (v := (-1)) (by decide) C dJ1_indexOf_4cfef_27 ?_
      exact g_iret (pc := 28) C R dJ1_indexOf_4cfef_28 hD
  · have hD := hD.2 c3
    refine g_iconst (pc := 7) (v := (-1)) (by decide) C dJ1_indexOf_4cfef_7 ?_
    exact g_iret (pc := 8) C R dJ1_indexOf_4cfef_8 hD
def D_St_indexOf2 (r : TR) (o : Nat) (a1 : Int32) (a2 : Int32) (h : TH) (Q : Int32 → TH → Prop) : Prop :=
  D_St_isLatin1 r o h (fun x2 h1 => ((x2 = 0 → D_St_length r o h1 (fun x5 h4 => False)) ∧ (¬ x2 = 0 → D_St_length r o h1 (fun x7 h6 => D_La_indexOf r o a1 a2 x7 h6 (fun x9 h8 => Q x9 h8)))))
set_option maxRecDepth 100000 in
set_option maxHeartbeats 4000000 in
theorem M_St_indexOf2 {Y : CG} {r : TR} {l : Launch} {o : Nat} {a1 : Int32} {a2 : Int32} {h : TH} {Q : Int32 → TH → Prop} (t0 : o < 3) (hD : D_St_indexOf2 r o a1 a2 h Q) : Mi Y r l yJ0_indexOf_7cf53 cJ0_indexOf_7cf53 3 .int 3 [.ref (yA Y o), .int a1, .int a2] h Q := by
  unfold D_St_indexOf2 at hD
  refine Mi.of RJ0 rfl (by decide) (by simp [lg_sl, Value.category]) [(0, .ref (yA Y o)), (1, .int a1), (2, .int a2)] rfl (fun X hXl C R => ?_)
  subst hXl
  refine g_wt (fun hw => ?_)
  refine g_aload_n (pc := 0) rfl 0 rfl C dJ0_indexOf_7cf53_0 ?_
  refine g_callTi (pc := 1) (As := []) C mt_RJ0_492 (M_St_isLatin1 t0 hD) t0 (by decide) rfl rfl (Nat.le_of_ble_eq_true rfl) dJ0_indexOf_7cf53_1 (fun x2 h1 hD => ?_)
  refine g_if_eq (pc := 4) 23 C dJ0_indexOf_7cf53_4 (by decide) (fun c3 => ?_) (fun c3 => ?_)
  · have hD := hD.1 c3
    refine g_aload_n (pc := 23) rfl 0 rfl C dJ0_indexOf_7cf53_23 ?_
    refine g_getV (pc := 24) C t0 fs_RJ0_9 dJ0_indexOf_7cf53_24 ?_
    refine g_iload_n (pc := 27) rfl 1 rfl C dJ0_indexOf_7cf53_27 ?_
    refine g_iload_n (pc := 28) rfl 2 rfl C dJ0_indexOf_7cf53_28 ?_
    refine g_aload_n (pc := 29) rfl 0 rfl C dJ0_indexOf_7cf53_29 ?_
    refine g_callTi (pc := 30) (As := []) C mt_RJ0_505 (M_St_length t0 hD) t0 (by decide) rfl rfl (Nat.le_of_ble_eq_true rfl) dJ0_indexOf_7cf53_30 (fun x5 h4 hD => ?_)
    exact absurd hD id
  · have hD := hD.2 c3
    refine g_aload_n (pc := 7) rfl 0 rfl C dJ0_indexOf_7cf53_7 ?_
    refine g_getV (pc := 8) C t0 fs_RJ0_9 dJ0_indexOf_7cf53_8 ?_
    refine g_iload_n (pc := 11) rfl 1 rfl C dJ0_indexOf_7cf53_11 ?_
    refine g_iload_n (pc := 12) rfl 2 rfl C dJ0_indexOf_7cf53_12 ?_
    refine g_aload_n (pc := 13) rfl 0 rfl C dJ0_indexOf_7cf53_13 ?_
    refine g_callTi (pc := 14) (As := []) C mt_RJ0_505 (M_St_length t0 hD) t0 (by decide) rfl rfl (Nat.le_of_ble_eq_true rfl) dJ0_indexOf_7cf53_14 (fun x7 h6 hD => ?_)
    refine g_callSi (pc := 17) (As := [.ref (yV Y o), .int a1, .int a2, .int x7]) C ms_RJ0_637 (M_La_indexOf t0 hD) (by decide) rfl rfl (Nat.le_of_ble_eq_true rfl) dJ0_indexOf_7cf53_17 (fun x9 h8 hD => ?_)
    refine g_goto (pc := 20) 36 C dJ0_indexOf_7cf53_20 (by decide) ?_
    exact g_iret (pc := 36) C R dJ0_indexOf_7cf53_36 hD
def D_St_indexOf (r : TR) (o : Nat) (a1 : Int32) (h : TH) (Q : Int32 → TH → Prop) : Prop :=
  D_St_indexOf2 r o a1 0 h (fun x2 h1 => Q x2 h1)
set_option maxRecDepth 100000 in
set_option maxHeartbeats 4000000 in
theorem M_St_indexOf {Y : CG} {r : TR} {l : Launch} {o : Nat} {a1 : Int32} {h : TH} {Q : Int32 → TH → Prop} (t0 : o < 3) (hD : D_St_indexOf r o a1 h Q) : Mi Y r l yJ0_indexOf_0f7a4 cJ0_indexOf_0f7a4 2 .int 4 [.ref (yA Y o), .int a1] h Q := by
  unfold D_St_indexOf at hD
  refine Mi.of RJ0 rfl (by decide) (by simp [lg_sl, Value.category]) [(0, .ref (yA Y o)), (1, .int a1)] rfl (fun X hXl C R => ?_)
  subst hXl
  refine g_wt (fun hw => ?_)
  refine g_aload_n (pc := 0) rfl 0 rfl C dJ0_indexOf_0f7a4_0 ?_
  refine g_iload_n (pc := 1) rfl 1 rfl C dJ0_indexOf_0f7a4_1 ?_
  refine g_iconst (pc := 2) (v := 0) (by decide) C dJ0_indexOf_0f7a4_2 ?_
  refine g_callTi (pc := 3) (As := [.int a1, .int 0]) C mt_RJ0_633 (M_St_indexOf2 t0 hD) t0 (by decide) rfl rfl (Nat.le_of_ble_eq_true rfl) dJ0_indexOf_0f7a4_3 (fun x2 h1 hD => ?_)
  exact g_iret (pc := 6) C R dJ0_indexOf_0f7a4_6 hD
def DJ_Rd_addRow_75 (r : TR) (l0 : Nat) (l1 : Int32) (l2 : Int32) (l4 : Int32) (l5 : Int32) (s0 : Int32) (h : TH) (K38 : Int32 → Int32 → TH → Prop) (K105 : Int32 → TH → Prop) (Q : TH → Prop) : Prop :=
  vp_in ((8 * (h.1 (r l0 2) 1)) + l4) 40 ∧ ∀ h18, h18 = pI h (r (r l0 2) 5) (((8 * (h.1 (r l0 2) 1)) + l4).toNatClampNeg) l5 → ∀ x19 : Int32, x19 = l4 + 1 → K38 s0 x19 h18
set_option maxRecDepth 100000 in
set_option maxHeartbeats 4000000 in
theorem WJ_Rd_addRow_75 {Y : CG} {X : CX} {r : TR} {l0 : Nat} {l1 : Int32} {l2 : Int32} {l4 : Int32} {l5 : Int32} {s0 : Int32} {h : TH} {K38 : Int32 → Int32 → TH → Prop} {K105 : Int32 → TH → Prop} {Q : TH → Prop} (C : Gd Y X cX4_addRow 6 RX4 5) (R : Rv Y r X Q) (t0 : TO Y l0 4) (hK38 : ∀ (k3 : Int32) (k4 : Int32) (hh : TH), K38 k3 k4 hh → G Y X 6 38 [(0, .ref l0), (1, .int l1), (2, .int l2), (3, .int k3), (4, .int k4)] [] r hh) (hK105 : ∀ (k3 : Int32) (hh : TH), K105 k3 hh → G Y X 6 105 [(0, .ref l0), (1, .int l1), (3, .int k3)] [] r hh) (hD : DJ_Rd_addRow_75 r l0 l1 l2 l4 l5 s0 h K38 K105 Q) : G Y X 6 75 [(0, .ref l0), (1, .int l1), (2, .int l2), (4, .int l4), (5, .int l5)] [.int s0] r h := by
  unfold DJ_Rd_addRow_75 at hD
  refine g_wt (fun hw => ?_)
  refine g_istore_n (pc := 75) (fun _ => [(3, .int s0), (0, .ref l0), (1, .int l1), (2, .int l2), (4, .int l4), (5, .int l5)]) C dX4_addRow_75 rfl (by decide) rfl (fun _ _ => ?_)
  refine g_aload_n (pc := 76) rfl 1 rfl C dX4_addRow_76 ?_
  have u15 : TO Y (r l0 2) 0 := wt_o hw t0 (by decide) rfl
  refine g_getR (pc := 77) C fl_RX4_22 t0 rfl dX4_addRow_77 ?_
  have u16 : TA Y (r (r l0 2) 5) 10 40 := wt_a hw u15 (by decide) (by decide) rfl
  refine g_getR (pc := 80) C fl_RX4_159 u15 rfl dX4_addRow_80 ?_
  refine g_bipush (pc := 83) (v := 8) (by decide) C dX4_addRow_83 ?_
  refine g_aload_n (pc := 85) rfl 1 rfl C dX4_addRow_85 ?_
  have u17 : TO Y (r l0 2) 0 := wt_o hw t0 (by decide) rfl
  refine g_getR (pc := 86) C fl_RX4_22 t0 rfl dX4_addRow_86 ?_
  refine g_getI (pc := 89) C fl_RX4_148 u17 rfl dX4_addRow_89 ?_
  refine g_imul (pc := 92) C dX4_addRow_92 ?_
  refine g_iload (pc := 93) 4 rfl C dX4_addRow_93 ?_
  refine g_iadd (pc := 95) C dX4_addRow_95 ?_
  refine g_iload (pc := 96) 5 rfl C dX4_addRow_96 ?_
  obtain ⟨hb, hD⟩ := hD
  refine g_iast (pc := 98) C u16 hb dX4_addRow_98 (fun h18 eh18 => ?_)
  have hD := hD h18 eh18
  refine g_iinc (pc := 99) (q := 4) (c := 1) (fun x19 => [(4, .int x19), (3, .int s0), (0, .ref l0), (1, .int l1), (2, .int l2), (5, .int l5)]) C dX4_addRow_99 rfl (by decide) (by decide) rfl (fun x19 ex19 => ?_)
  have hD := hD x19 ex19
  refine g_goto (pc := 102) 38 C dX4_addRow_102 (by decide) ?_
  refine g_sub [2, 3, 4, 1, 0] rfl ?_
  exact hK38 s0 x19 h18 hD
def DJ_Rd_addRow_74 (r : TR) (l0 : Nat) (l1 : Int32) (l2 : Int32) (l4 : Int32) (l5 : Int32) (h : TH) (K38 : Int32 → Int32 → TH → Prop) (K105 : Int32 → TH → Prop) (Q : TH → Prop) : Prop :=
  DJ_Rd_addRow_75 r l0 l1 l2 l4 l5 0 h (K38) (K105) Q
set_option maxRecDepth 100000 in
set_option maxHeartbeats 4000000 in
theorem WJ_Rd_addRow_74 {Y : CG} {X : CX} {r : TR} {l0 : Nat} {l1 : Int32} {l2 : Int32} {l4 : Int32} {l5 : Int32} {h : TH} {K38 : Int32 → Int32 → TH → Prop} {K105 : Int32 → TH → Prop} {Q : TH → Prop} (C : Gd Y X cX4_addRow 6 RX4 5) (R : Rv Y r X Q) (t0 : TO Y l0 4) (hK38 : ∀ (k3 : Int32) (k4 : Int32) (hh : TH), K38 k3 k4 hh → G Y X 6 38 [(0, .ref l0), (1, .int l1), (2, .int l2), (3, .int k3), (4, .int k4)] [] r hh) (hK105 : ∀ (k3 : Int32) (hh : TH), K105 k3 hh → G Y X 6 105 [(0, .ref l0), (1, .int l1), (3, .int k3)] [] r hh) (hD : DJ_Rd_addRow_74 r l0 l1 l2 l4 l5 h K38 K105 Q) : G Y X 6 74 [(0, .ref l0), (1, .int l1), (2, .int l2), (4, .int l4), (5, .int l5)] [] r h := by
  unfold DJ_Rd_addRow_74 at hD
  refine g_wt (fun hw => ?_)
  refine g_iconst (pc := 74) (v := 0) (by decide) C dX4_addRow_74 ?_
  refine g_sub [0, 1, 2, 3, 4] rfl ?_
  exact WJ_Rd_addRow_75 C R t0 (hK38) (hK105) hD
def DB_Rd_addRow_38 (r : TR) (l0 : Nat) (l1 : Int32) (l2 : Int32) (l3 : Int32) (l4 : Int32) (h : TH) (K38 : Int32 → Int32 → TH → Prop) (K105 : Int32 → TH → Prop) (Q : TH → Prop) : Prop :=
  ((l2 ≤ l4 → K105 l3 h) ∧ (¬ l2 ≤ l4 → ∀ i9 : Int32, i9 = l1 + l4 → vp_in i9 2000 ∧ D_St_indexOf r 2 (jchar (h.1 (r l0 0) i9.toNatClampNeg)) h (fun x11 h10 => ((l3 = 0 → DJ_Rd_addRow_74 r l0 l1 l2 l4 x11 h10 (K38) (K105) Q) ∧ (¬ l3 = 0 → ((x11 < 0 → DJ_Rd_addRow_74 r l0 l1 l2 l4 x11 h10 (K38) (K105) Q) ∧ (¬ x11 < 0 → DJ_Rd_addRow_75 r l0 l1 l2 l4 x11 1 h10 (K38) (K105) Q)))))))
set_option maxRecDepth 100000 in
set_option maxHeartbeats 4000000 in
theorem WB_Rd_addRow_38 {Y : CG} {X : CX} {r : TR} {l0 : Nat} {l1 : Int32} {l2 : Int32} {l3 : Int32} {l4 : Int32} {h : TH} {K38 : Int32 → Int32 → TH → Prop} {K105 : Int32 → TH → Prop} {Q : TH → Prop} (C : Gd Y X cX4_addRow 6 RX4 5) (R : Rv Y r X Q) (t0 : TO Y l0 4) (hK38 : ∀ (k3 : Int32) (k4 : Int32) (hh : TH), K38 k3 k4 hh → G Y X 6 38 [(0, .ref l0), (1, .int l1), (2, .int l2), (3, .int k3), (4, .int k4)] [] r hh) (hK105 : ∀ (k3 : Int32) (hh : TH), K105 k3 hh → G Y X 6 105 [(0, .ref l0), (1, .int l1), (3, .int k3)] [] r hh) (hD : DB_Rd_addRow_38 r l0 l1 l2 l3 l4 h K38 K105 Q) : G Y X 6 38 [(0, .ref l0), (1, .int l1), (2, .int l2), (3, .int l3), (4, .int l4)] [] r h := by
  unfold DB_Rd_addRow_38 at hD
  refine g_wt (fun hw => ?_)
  refine g_iload (pc := 38) 4 rfl C dX4_addRow_38 ?_
  refine g_iload_n (pc := 40) rfl 2 rfl C dX4_addRow_40 ?_
  refine g_icmp_ge (pc := 41) 105 C dX4_addRow_41 (by decide) (fun c7 => ?_) (fun c7 => ?_)
  · have hD := hD.1 c7
    refine g_sub [0, 1, 3] rfl ?_
    exact hK105 l3 h hD
  · have hD := hD.2 c7
    refine g_ldcS (pc := 44) (i := 2) C (by decide) rfl dX4_addRow_44 ?_
    refine g_aload_n (pc := 46) rfl 0 rfl C dX4_addRow_46 ?_
    have u8 : TA Y (r l0 0) 9 2000 := wt_a hw t0 (by decide) (by decide) rfl
    refine g_getR (pc := 47) C fl_RX4_9 t0 rfl dX4_addRow_47 ?_
    refine g_iload_n (pc := 50) rfl 1 rfl C dX4_addRow_50 ?_
    refine g_iload (pc := 51) 4 rfl C dX4_addRow_51 ?_
    refine g_iadd (pc := 53) C dX4_addRow_53 ?_
    refine g_topi (fun i9 ei9 => ?_)
    have hD := hD i9 ei9
    obtain ⟨hb, hD⟩ := hD
    refine g_bald (pc := 54) C u8 hb dX4_addRow_54 ?_
    refine g_i2c (pc := 55) C dX4_addRow_55 ?_
    refine g_callTi (pc := 56) (As := [.int (jchar (h.1 (r l0 0) i9.toNatClampNeg))]) C mt_RX4_97 (M_St_indexOf (by decide) hD) (by decide) (by decide) rfl rfl (Nat.le_of_ble_eq_true rfl) dX4_addRow_56 (fun x11 h10 hD => ?_)
    refine g_istore (pc := 59) (fun _ => [(5, .int x11), (0, .ref l0), (1, .int l1), (2, .int l2), (3, .int l3), (4, .int l4)]) C dX4_addRow_59 (by decide) rfl (fun _ _ => ?_)
    refine g_iload_n (pc := 61) rfl 4 rfl C dX4_addRow_61 ?_
    refine g_if_eq (pc := 62) 74 C dX4_addRow_62 (by decide) (fun c13 => ?_) (fun c13 => ?_)
    · have hD := hD.1 c13
      refine g_sub [1, 2, 3, 5, 0] rfl ?_
      exact WJ_Rd_addRow_74 C R t0 (hK38) (hK105) hD
    · have hD := hD.2 c13
      refine g_iload (pc := 65) 0 rfl C dX4_addRow_65 ?_
      refine g_if_lt (pc := 67) 74 C dX4_addRow_67 (by decide) (fun c20 => ?_) (fun c20 => ?_)
      · have hD := hD.1 c20
        refine g_sub [1, 2, 3, 5, 0] rfl ?_
        exact WJ_Rd_addRow_74 C R t0 (hK38) (hK105) hD
      · have hD := hD.2 c20
        refine g_iconst (pc := 70) (v := 1) (by decide) C dX4_addRow_70 ?_
        refine g_goto (pc := 71) 75 C dX4_addRow_71 (by decide) ?_
        refine g_sub [1, 2, 3, 5, 0] rfl ?_
        exact WJ_Rd_addRow_75 C R t0 (hK38) (hK105) hD
def DJ_Rd_addRow_18 (r : TR) (l0 : Nat) (l1 : Int32) (l2 : Int32) (h : TH) (Q : TH → Prop) : Prop :=
  ((¬ l2 = (h.1 (r l0 2) 0) → ∃ n, lp (fun (K : Int32 × Int32 × TH → Prop) (s : Int32 × Int32 × TH) => DB_Rd_addRow_38 r l0 l1 l2 s.1 s.2.1 s.2.2 (fun y21 y22 h23 => K (y21, y22, h23)) (fun x24 h25 => ∀ h27, h27 = pI h25 (r l0 2) 1 ((h25.1 (r l0 2) 1) + 1) → ((¬ x24 = 0 → Q h27) ∧ (x24 = 0 → D_Rd_addFlaw r l0 6 l1 h27 (fun h29 => Q h29)))) Q) n (0, 0, h)) ∧ (l2 = (h.1 (r l0 2) 0) → ∃ n, lp (fun (K : Int32 × Int32 × TH → Prop) (s : Int32 × Int32 × TH) => DB_Rd_addRow_38 r l0 l1 l2 s.1 s.2.1 s.2.2 (fun y33 y34 h35 => K (y33, y34, h35)) (fun x36 h37 => ∀ h39, h39 = pI h37 (r l0 2) 1 ((h37.1 (r l0 2) 1) + 1) → ((¬ x36 = 0 → Q h39) ∧ (x36 = 0 → D_Rd_addFlaw r l0 6 l1 h39 (fun h41 => Q h41)))) Q) n (1, 0, h)))
set_option maxRecDepth 100000 in
set_option maxHeartbeats 4000000 in
theorem WJ_Rd_addRow_18 {Y : CG} {X : CX} {r : TR} {l0 : Nat} {l1 : Int32} {l2 : Int32} {h : TH} {Q : TH → Prop} (C : Gd Y X cX4_addRow 6 RX4 5) (R : Rv Y r X Q) (t0 : TO Y l0 4) (hD : DJ_Rd_addRow_18 r l0 l1 l2 h  Q) : G Y X 6 18 [(0, .ref l0), (1, .int l1), (2, .int l2)] [] r h := by
  unfold DJ_Rd_addRow_18 at hD
  refine g_wt (fun hw => ?_)
  refine g_iload_n (pc := 18) rfl 2 rfl C dX4_addRow_18 ?_
  refine g_aload_n (pc := 19) rfl 0 rfl C dX4_addRow_19 ?_
  have u3 : TO Y (r l0 2) 0 := wt_o hw t0 (by decide) rfl
  refine g_getR (pc := 20) C fl_RX4_22 t0 rfl dX4_addRow_20 ?_
  refine g_getI (pc := 23) C fl_RX4_154 u3 rfl dX4_addRow_23 ?_
  refine g_icmp_ne (pc := 26) 33 C dX4_addRow_26 (by decide) (fun c4 => ?_) (fun c4 => ?_)
  · have hD := hD.1 c4
    refine g_iconst (pc := 33) (v := 0) (by decide) C dX4_addRow_33 ?_
    refine g_istore_n (pc := 34) (fun _ => [(3, .int 0), (0, .ref l0), (1, .int l1), (2, .int l2)]) C dX4_addRow_34 rfl (by decide) rfl (fun _ _ => ?_)
    refine g_iconst (pc := 35) (v := 0) (by decide) C dX4_addRow_35 ?_
    refine g_istore (pc := 36) (fun _ => [(4, .int 0), (3, .int 0), (0, .ref l0), (1, .int l1), (2, .int l2)]) C dX4_addRow_36 (by decide) rfl (fun _ _ => ?_)
    obtain ⟨n, hD⟩ := hD
    refine g_sub [2, 3, 4, 1, 0] rfl ?_
    refine lp_run (fun s : Int32 × Int32 × TH => G Y X 6 38 [(0, .ref l0), (1, .int l1), (2, .int l2), (3, .int s.1), (4, .int s.2.1)] [] r s.2.2) (fun K s hB hK => ?_) n (0, 0, h) hD
    refine WB_Rd_addRow_38 C R t0 (fun y21 y22 h23 hk => hK _ hk) (fun x24 h25 hD => ?_) hB
    · refine g_aload_n (pc := 105) rfl 0 rfl C dX4_addRow_105 ?_
      have u26 : TO Y (r l0 2) 0 := wt_o hw t0 (by decide) rfl
      refine g_getR (pc := 106) C fl_RX4_22 t0 rfl dX4_addRow_106 ?_
      refine g_dup (pc := 109) rfl C dX4_addRow_109 ?_
      refine g_getI (pc := 110) C fl_RX4_148 u26 rfl dX4_addRow_110 ?_
      refine g_iconst (pc := 113) (v := 1) (by decide) C dX4_addRow_113 ?_
      refine g_iadd (pc := 114) C dX4_addRow_114 ?_
      refine g_putI (pc := 115) C fl_RX4_148 u26 rfl rfl rfl dX4_addRow_115 (fun h27 eh27 => ?_)
      have hD := hD h27 eh27
      refine g_iload_n (pc := 118) rfl 2 rfl C dX4_addRow_118 ?_
      refine g_if_ne (pc := 119) 129 C dX4_addRow_119 (by decide) (fun c28 => ?_) (fun c28 => ?_)
      · have hD := hD.1 c28
        exact g_vret (pc := 129) C R dX4_addRow_129 hD
      · have hD := hD.2 c28
        refine g_aload_n (pc := 122) rfl 0 rfl C dX4_addRow_122 ?_
        refine g_bipush (pc := 123) (v := 6) (by decide) C dX4_addRow_123 ?_
        refine g_iload_n (pc := 125) rfl 1 rfl C dX4_addRow_125 ?_
        refine g_callVv (pc := 126) (As := [.int 6, .int l1]) C mv_RX4_64 (M_Rd_addFlaw t0 hD) t0 (by decide) rfl rfl (Nat.le_of_ble_eq_true rfl) dX4_addRow_126 (fun h29 hD => ?_)
        exact g_vret (pc := 129) C R dX4_addRow_129 hD
  · have hD := hD.2 c4
    refine g_iconst (pc := 29) (v := 1) (by decide) C dX4_addRow_29 ?_
    refine g_goto (pc := 30) 34 C dX4_addRow_30 (by decide) ?_
    refine g_istore_n (pc := 34) (fun _ => [(3, .int 1), (0, .ref l0), (1, .int l1), (2, .int l2)]) C dX4_addRow_34 rfl (by decide) rfl (fun _ _ => ?_)
    refine g_iconst (pc := 35) (v := 0) (by decide) C dX4_addRow_35 ?_
    refine g_istore (pc := 36) (fun _ => [(4, .int 0), (3, .int 1), (0, .ref l0), (1, .int l1), (2, .int l2)]) C dX4_addRow_36 (by decide) rfl (fun _ _ => ?_)
    obtain ⟨n, hD⟩ := hD
    refine g_sub [2, 3, 4, 1, 0] rfl ?_
    refine lp_run (fun s : Int32 × Int32 × TH => G Y X 6 38 [(0, .ref l0), (1, .int l1), (2, .int l2), (3, .int s.1), (4, .int s.2.1)] [] r s.2.2) (fun K s hB hK => ?_) n (1, 0, h) hD
    refine WB_Rd_addRow_38 C R t0 (fun y33 y34 h35 hk => hK _ hk) (fun x36 h37 hD => ?_) hB
    · refine g_aload_n (pc := 105) rfl 0 rfl C dX4_addRow_105 ?_
      have u38 : TO Y (r l0 2) 0 := wt_o hw t0 (by decide) rfl
      refine g_getR (pc := 106) C fl_RX4_22 t0 rfl dX4_addRow_106 ?_
      refine g_dup (pc := 109) rfl C dX4_addRow_109 ?_
      refine g_getI (pc := 110) C fl_RX4_148 u38 rfl dX4_addRow_110 ?_
      refine g_iconst (pc := 113) (v := 1) (by decide) C dX4_addRow_113 ?_
      refine g_iadd (pc := 114) C dX4_addRow_114 ?_
      refine g_putI (pc := 115) C fl_RX4_148 u38 rfl rfl rfl dX4_addRow_115 (fun h39 eh39 => ?_)
      have hD := hD h39 eh39
      refine g_iload_n (pc := 118) rfl 2 rfl C dX4_addRow_118 ?_
      refine g_if_ne (pc := 119) 129 C dX4_addRow_119 (by decide) (fun c40 => ?_) (fun c40 => ?_)
      · have hD := hD.1 c40
        exact g_vret (pc := 129) C R dX4_addRow_129 hD
      · have hD := hD.2 c40
        refine g_aload_n (pc := 122) rfl 0 rfl C dX4_addRow_122 ?_
        refine g_bipush (pc := 123) (v := 6) (by decide) C dX4_addRow_123 ?_
        refine g_iload_n (pc := 125) rfl 1 rfl C dX4_addRow_125 ?_
        refine g_callVv (pc := 126) (As := [.int 6, .int l1]) C mv_RX4_64 (M_Rd_addFlaw t0 hD) t0 (by decide) rfl rfl (Nat.le_of_ble_eq_true rfl) dX4_addRow_126 (fun h41 hD => ?_)
        exact g_vret (pc := 129) C R dX4_addRow_129 hD
def D_Rd_addRow (r : TR) (o : Nat) (a1 : Int32) (a2 : Int32) (h : TH) (Q : TH → Prop) : Prop :=
  ((¬ (h.1 (r o 2) 1) = 0 → DJ_Rd_addRow_18 r o a1 a2 h Q) ∧ ((h.1 (r o 2) 1) = 0 → ∀ h44, h44 = pI h (r o 2) 0 a2 → DJ_Rd_addRow_18 r o a1 a2 h44 Q))
set_option maxRecDepth 100000 in
set_option maxHeartbeats 4000000 in
theorem M_Rd_addRow {Y : CG} {r : TR} {l : Launch} {o : Nat} {a1 : Int32} {a2 : Int32} {h : TH} {Q : TH → Prop} (t0 : TO Y o 4) (hD : D_Rd_addRow r o a1 a2 h Q) : Mv Y r l yX4_addRow cX4_addRow 6 5 [.ref o, .int a1, .int a2] h Q := by
  unfold D_Rd_addRow at hD
  refine Mv.of RX4 rfl (by decide) (by simp [lg_sl, Value.category]) [(0, .ref o), (1, .int a1), (2, .int a2)] rfl (fun X hXl C R => ?_)
  subst hXl
  refine g_wt (fun hw => ?_)
  refine g_aload_n (pc := 0) rfl 0 rfl C dX4_addRow_0 ?_
  have u1 : TO Y (r o 2) 0 := wt_o hw t0 (by decide) rfl
  refine g_getR (pc := 1) C fl_RX4_22 t0 rfl dX4_addRow_1 ?_
  refine g_getI (pc := 4) C fl_RX4_148 u1 rfl dX4_addRow_4 ?_
  refine g_if_ne (pc := 7) 18 C dX4_addRow_7 (by decide) (fun c2 => ?_) (fun c2 => ?_)
  · have hD := hD.1 c2
    refine g_sub [0, 1, 2] rfl ?_
    exact WJ_Rd_addRow_18 C R t0 hD
  · have hD := hD.2 c2
    refine g_aload_n (pc := 10) rfl 0 rfl C dX4_addRow_10 ?_
    have u43 : TO Y (r o 2) 0 := wt_o hw t0 (by decide) rfl
    refine g_getR (pc := 11) C fl_RX4_22 t0 rfl dX4_addRow_11 ?_
    refine g_iload_n (pc := 14) rfl 2 rfl C dX4_addRow_14 ?_
    refine g_putI (pc := 15) C fl_RX4_154 u43 rfl rfl rfl dX4_addRow_15 (fun h44 eh44 => ?_)
    have hD := hD h44 eh44
    refine g_sub [0, 1, 2] rfl ?_
    exact WJ_Rd_addRow_18 C R t0 hD
def D_Rd_isBlank (r : TR) (a0 : Int32) (h : TH) (Q : Int32 → TH → Prop) : Prop :=
  ((a0 = 9 → Q 1 h) ∧ (¬ a0 = 9 → ((a0 = 10 → Q 1 h) ∧ (¬ a0 = 10 → ((a0 = 13 → Q 1 h) ∧ (¬ a0 = 13 → ((¬ a0 = 32 → Q 0 h) ∧ (a0 = 32 → Q 1 h))))))))
set_option maxRecDepth 100000 in
set_option maxHeartbeats 4000000 in
theorem M_Rd_isBlank {Y : CG} {r : TR} {l : Launch} {a0 : Int32} {h : TH} {Q : Int32 → TH → Prop} (hD : D_Rd_isBlank r a0 h Q) : Mi Y r l yX4_isBlank cX4_isBlank 1 .boolean 1 [.int a0] h Q := by
  unfold D_Rd_isBlank at hD
  refine Mi.of RX4 rfl (by decide) (by simp [lg_sl, Value.category]) [(0, .int a0)] rfl (fun X hXl C R => ?_)
  subst hXl
  refine g_wt (fun hw => ?_)
  refine g_iload_n (pc := 0) rfl 0 rfl C dX4_isBlank_0 ?_
  refine g_bipush (pc := 1) (v := 9) (by decide) C dX4_isBlank_1 ?_
  refine g_icmp_eq (pc := 3) 24 C dX4_isBlank_3 (by decide) (fun c1 => ?_) (fun c1 => ?_)
  · have hD := hD.1 c1
    refine g_iconst (pc := 24) (v := 1) (by decide) C dX4_isBlank_24 ?_
    refine g_goto (pc := 25) 29 C dX4_isBlank_25 (by decide) ?_
    exact g_zret (pc := 29) C R nz_1 dX4_isBlank_29 hD
  · have hD := hD.2 c1
    refine g_iload_n (pc := 6) rfl 0 rfl C dX4_isBlank_6 ?_
    refine g_bipush (pc := 7) (v := 10) (by decide) C dX4_isBlank_7 ?_
    refine g_icmp_eq (pc := 9) 24 C dX4_isBlank_9 (by decide) (fun c2 => ?_) (fun c2 => ?_)
    · have hD := hD.1 c2
      refine g_iconst (pc := 24) (v := 1) (by decide) C dX4_isBlank_24 ?_
      refine g_goto (pc := 25) 29 C dX4_isBlank_25 (by decide) ?_
      exact g_zret (pc := 29) C R nz_1 dX4_isBlank_29 hD
    · have hD := hD.2 c2
      refine g_iload_n (pc := 12) rfl 0 rfl C dX4_isBlank_12 ?_
      refine g_bipush (pc := 13) (v := 13) (by decide) C dX4_isBlank_13 ?_
      refine g_icmp_eq (pc := 15) 24 C dX4_isBlank_15 (by decide) (fun c3 => ?_) (fun c3 => ?_)
      · have hD := hD.1 c3
        refine g_iconst (pc := 24) (v := 1) (by decide) C dX4_isBlank_24 ?_
        refine g_goto (pc := 25) 29 C dX4_isBlank_25 (by decide) ?_
        exact g_zret (pc := 29) C R nz_1 dX4_isBlank_29 hD
      · have hD := hD.2 c3
        refine g_iload_n (pc := 18) rfl 0 rfl C dX4_isBlank_18 ?_
        refine g_bipush (pc := 19) (v := 32) (by decide) C dX4_isBlank_19 ?_
        refine g_icmp_ne (pc := 21) 28 C dX4_isBlank_21 (by decide) (fun c4 => ?_) (fun c4 => ?_)
        · have hD := hD.1 c4
          refine g_iconst (pc := 28) (v := 0) (by decide) C dX4_isBlank_28 ?_
          exact g_zret (pc := 29) C R nz_0 dX4_isBlank_29 hD
        · have hD := hD.2 c4
          refine g_iconst (pc := 24) (v := 1) (by decide) C dX4_isBlank_24 ?_
          refine g_goto (pc := 25) 29 C dX4_isBlank_25 (by decide) ?_
          exact g_zret (pc := 29) C R nz_1 dX4_isBlank_29 hD
def DB_Rd_behindBlanks_2 (r : TR) (l0 : Nat) (l2 : Int32) (h : TH) (K2 : Int32 → TH → Prop) (K28 : Int32 → TH → Prop) (Q : Int32 → TH → Prop) : Prop :=
  (((h.1 l0 1) ≤ l2 → K28 l2 h) ∧ (¬ (h.1 l0 1) ≤ l2 → vp_in l2 2000 ∧ D_Rd_isBlank r (h.1 (r l0 0) l2.toNatClampNeg) h (fun x5 h4 => ((x5 = 0 → K28 l2 h4) ∧ (¬ x5 = 0 → ∀ x7 : Int32, x7 = l2 + 1 → K2 x7 h4)))))
set_option maxRecDepth 100000 in
set_option maxHeartbeats 4000000 in
theorem WB_Rd_behindBlanks_2 {Y : CG} {X : CX} {r : TR} {l0 : Nat} {l2 : Int32} {h : TH} {K2 : Int32 → TH → Prop} {K28 : Int32 → TH → Prop} {Q : Int32 → TH → Prop} (C : Gd Y X cX4_behindBlanks 3 RX4 2) (R : Ri Y r X .int Q) (t0 : TO Y l0 4) (hK2 : ∀ (k2 : Int32) (hh : TH), K2 k2 hh → G Y X 3 2 [(0, .ref l0), (2, .int k2)] [] r hh) (hK28 : ∀ (k2 : Int32) (hh : TH), K28 k2 hh → G Y X 3 28 [(2, .int k2)] [] r hh) (hD : DB_Rd_behindBlanks_2 r l0 l2 h K2 K28 Q) : G Y X 3 2 [(0, .ref l0), (2, .int l2)] [] r h := by
  unfold DB_Rd_behindBlanks_2 at hD
  refine g_wt (fun hw => ?_)
  refine g_iload_n (pc := 2) rfl 1 rfl C dX4_behindBlanks_2 ?_
  refine g_aload_n (pc := 3) rfl 0 rfl C dX4_behindBlanks_3 ?_
  refine g_getI (pc := 4) C fl_RX4_15 t0 rfl dX4_behindBlanks_4 ?_
  refine g_icmp_ge (pc := 7) 28 C dX4_behindBlanks_7 (by decide) (fun c2 => ?_) (fun c2 => ?_)
  · have hD := hD.1 c2
    refine g_sub [1] rfl ?_
    exact hK28 l2 h hD
  · have hD := hD.2 c2
    refine g_aload_n (pc := 10) rfl 0 rfl C dX4_behindBlanks_10 ?_
    have u3 : TA Y (r l0 0) 9 2000 := wt_a hw t0 (by decide) (by decide) rfl
    refine g_getR (pc := 11) C fl_RX4_9 t0 rfl dX4_behindBlanks_11 ?_
    refine g_iload_n (pc := 14) rfl 1 rfl C dX4_behindBlanks_14 ?_
    obtain ⟨hb, hD⟩ := hD
    refine g_bald (pc := 15) C u3 hb dX4_behindBlanks_15 ?_
    refine g_callSi (pc := 16) (As := [.int (h.1 (r l0 0) l2.toNatClampNeg)]) C ms_RX4_76 (M_Rd_isBlank  hD) (by decide) rfl rfl (Nat.le_of_ble_eq_true rfl) dX4_behindBlanks_16 (fun x5 h4 hD => ?_)
    refine g_if_eq (pc := 19) 28 C dX4_behindBlanks_19 (by decide) (fun c6 => ?_) (fun c6 => ?_)
    · have hD := hD.1 c6
      refine g_sub [1] rfl ?_
      exact hK28 l2 h4 hD
    · have hD := hD.2 c6
      refine g_iinc (pc := 22) (q := 1) (c := 1) (fun x7 => [(2, .int x7), (0, .ref l0)]) C dX4_behindBlanks_22 rfl (by decide) (by decide) rfl (fun x7 ex7 => ?_)
      have hD := hD x7 ex7
      refine g_goto (pc := 25) 2 C dX4_behindBlanks_25 (by decide) ?_
      refine g_sub [1, 0] rfl ?_
      exact hK2 x7 h4 hD
def D_Rd_behindBlanks (r : TR) (o : Nat) (a1 : Int32) (h : TH) (Q : Int32 → TH → Prop) : Prop :=
  ∃ n, lp (fun (K : Int32 × TH → Prop) (s : Int32 × TH) => DB_Rd_behindBlanks_2 r o s.1 s.2 (fun y8 h9 => K (y8, h9)) (fun x10 h11 => Q x10 h11) Q) n (a1, h)
set_option maxRecDepth 100000 in
set_option maxHeartbeats 4000000 in
theorem M_Rd_behindBlanks {Y : CG} {r : TR} {l : Launch} {o : Nat} {a1 : Int32} {h : TH} {Q : Int32 → TH → Prop} (t0 : TO Y o 4) (hD : D_Rd_behindBlanks r o a1 h Q) : Mi Y r l yX4_behindBlanks cX4_behindBlanks 3 .int 2 [.ref o, .int a1] h Q := by
  unfold D_Rd_behindBlanks at hD
  refine Mi.of RX4 rfl (by decide) (by simp [lg_sl, Value.category]) [(0, .ref o), (1, .int a1)] rfl (fun X hXl C R => ?_)
  subst hXl
  refine g_wt (fun hw => ?_)
  refine g_iload_n (pc := 0) rfl 1 rfl C dX4_behindBlanks_0 ?_
  refine g_istore_n (pc := 1) (fun _ => [(2, .int a1), (0, .ref o), (1, .int a1)]) C dX4_behindBlanks_1 rfl (by decide) rfl (fun _ _ => ?_)
  obtain ⟨n, hD⟩ := hD
  refine g_sub [1, 0] rfl ?_
  refine lp_run (fun s : Int32 × TH => G Y X 3 2 [(0, .ref o), (2, .int s.1)] [] r s.2) (fun K s hB hK => ?_) n (a1, h) hD
  refine WB_Rd_behindBlanks_2 C R t0 (fun y8 h9 hk => hK _ hk) (fun x10 h11 hD => ?_) hB
  · refine g_iload_n (pc := 28) rfl 0 rfl C dX4_behindBlanks_28 ?_
    exact g_iret (pc := 29) C R dX4_behindBlanks_29 hD
def D_La_charAt (r : TR) (a0 : Nat) (a1 : Int32) (h : TH) (Q : Int32 → TH → Prop) : Prop :=
  D_St_checkIndex r a1 (Int32.ofNat (lenS.getD a0 0)) h (fun h1 => vp_in a1 (lenS.getD a0 0) ∧ (narrow .char (.int (jchar ((chS a0 a1) &&& 255))) = .int (jchar ((chS a0 a1) &&& 255)) ∧ Q (jchar ((chS a0 a1) &&& 255)) h1))
set_option maxRecDepth 100000 in
set_option maxHeartbeats 4000000 in
theorem M_La_charAt {Y : CG} {r : TR} {l : Launch} {a0 : Nat} {a1 : Int32} {h : TH} {Q : Int32 → TH → Prop} (t0 : a0 < 3) (hD : D_La_charAt r a0 a1 h Q) : Mi Y r l yJ1_charAt_3b067 cJ1_charAt_3b067 2 .char 3 [.ref (yV Y a0), .int a1] h Q := by
  unfold D_La_charAt at hD
  refine Mi.of RJ1 rfl (by decide) (by simp [lg_sl, Value.category]) [(0, .ref (yV Y a0)), (1, .int a1)] rfl (fun X hXl C R => ?_)
  subst hXl
  refine g_wt (fun hw => ?_)
  refine g_iload_n (pc := 0) rfl 1 rfl C dJ1_charAt_3b067_0 ?_
  refine g_aload_n (pc := 1) rfl 0 rfl C dJ1_charAt_3b067_1 ?_
  refine g_tlen (pc := 2) C t0 dJ1_charAt_3b067_2 ?_
  refine g_callSv (pc := 3) (As := [.int a1, .int (Int32.ofNat (lenS.getD a0 0))]) C ms_RJ1_9 (M_St_checkIndex  hD) (by decide) rfl rfl (Nat.le_of_ble_eq_true rfl) dJ1_charAt_3b067_3 (fun h1 hD => ?_)
  refine g_aload_n (pc := 6) rfl 0 rfl C dJ1_charAt_3b067_6 ?_
  refine g_iload_n (pc := 7) rfl 1 rfl C dJ1_charAt_3b067_7 ?_
  obtain ⟨hb, hD⟩ := hD
  refine g_tb (pc := 8) C t0 hb dJ1_charAt_3b067_8 ?_
  refine g_sipush (pc := 9) (v := 255) (by decide) C dJ1_charAt_3b067_9 ?_
  refine g_iand (pc := 12) C dJ1_charAt_3b067_12 ?_
  refine g_i2c (pc := 13) C dJ1_charAt_3b067_13 ?_
  exact g_zret (pc := 14) C R hD.1 dJ1_charAt_3b067_14 hD.2
def D_St_charAt (r : TR) (o : Nat) (a1 : Int32) (h : TH) (Q : Int32 → TH → Prop) : Prop :=
  D_St_isLatin1 r o h (fun x2 h1 => ((x2 = 0 → False) ∧ (¬ x2 = 0 → D_La_charAt r o a1 h1 (fun x5 h4 => (narrow .char (.int x5) = .int x5 ∧ Q x5 h4)))))
set_option maxRecDepth 100000 in
set_option maxHeartbeats 4000000 in
theorem M_St_charAt {Y : CG} {r : TR} {l : Launch} {o : Nat} {a1 : Int32} {h : TH} {Q : Int32 → TH → Prop} (t0 : o < 3) (hD : D_St_charAt r o a1 h Q) : Mi Y r l yJ0_charAt_5068e cJ0_charAt_5068e 2 .char 4 [.ref (yA Y o), .int a1] h Q := by
  unfold D_St_charAt at hD
  refine Mi.of RJ0 rfl (by decide) (by simp [lg_sl, Value.category]) [(0, .ref (yA Y o)), (1, .int a1)] rfl (fun X hXl C R => ?_)
  subst hXl
  refine g_wt (fun hw => ?_)
  refine g_aload_n (pc := 0) rfl 0 rfl C dJ0_charAt_5068e_0 ?_
  refine g_callTi (pc := 1) (As := []) C mt_RJ0_492 (M_St_isLatin1 t0 hD) t0 (by decide) rfl rfl (Nat.le_of_ble_eq_true rfl) dJ0_charAt_5068e_1 (fun x2 h1 hD => ?_)
  refine g_if_eq (pc := 4) 16 C dJ0_charAt_5068e_4 (by decide) (fun c3 => ?_) (fun c3 => ?_)
  · have hD := hD.1 c3
    refine g_aload_n (pc := 16) rfl 0 rfl C dJ0_charAt_5068e_16 ?_
    refine g_getV (pc := 17) C t0 fs_RJ0_9 dJ0_charAt_5068e_17 ?_
    refine g_iload_n (pc := 20) rfl 1 rfl C dJ0_charAt_5068e_20 ?_
    exact absurd hD id
  · have hD := hD.2 c3
    refine g_aload_n (pc := 7) rfl 0 rfl C dJ0_charAt_5068e_7 ?_
    refine g_getV (pc := 8) C t0 fs_RJ0_9 dJ0_charAt_5068e_8 ?_
    refine g_iload_n (pc := 11) rfl 1 rfl C dJ0_charAt_5068e_11 ?_
    refine g_callSi (pc := 12) (As := [.ref (yV Y o), .int a1]) C ms_RJ0_495 (M_La_charAt t0 hD) (by decide) rfl rfl (Nat.le_of_ble_eq_true rfl) dJ0_charAt_5068e_12 (fun x5 h4 hD => ?_)
    exact g_zret (pc := 15) C R hD.1 dJ0_charAt_5068e_15 hD.2
def DJ_Rd_isWord_31 (r : TR) (l0 : Nat) (l1 : Int32) (l2 : Int32) (l3 : Int32) (l4 : Int32) (s0 : Int32) (h : TH) (K3 : Int32 → TH → Prop) (K58 : TH → Prop) (Q : Int32 → TH → Prop) : Prop :=
  D_St_charAt r 0 ((8 * l1) + l4) h (fun x6 h5 => ((x6 = s0 → ∀ x8 : Int32, x8 = l4 + 1 → K3 x8 h5) ∧ (¬ x6 = s0 → Q 0 h5)))
set_option maxRecDepth 100000 in
set_option maxHeartbeats 4000000 in
theorem WJ_Rd_isWord_31 {Y : CG} {X : CX} {r : TR} {l0 : Nat} {l1 : Int32} {l2 : Int32} {l3 : Int32} {l4 : Int32} {s0 : Int32} {h : TH} {K3 : Int32 → TH → Prop} {K58 : TH → Prop} {Q : Int32 → TH → Prop} (C : Gd Y X cX4_isWord 6 RX4 5) (R : Ri Y r X .boolean Q) (t0 : TO Y l0 4) (hK3 : ∀ (k4 : Int32) (hh : TH), K3 k4 hh → G Y X 6 3 [(0, .ref l0), (1, .int l1), (2, .int l2), (3, .int l3), (4, .int k4)] [] r hh) (hK58 : ∀ (hh : TH), K58 hh → G Y X 6 58 [] [] r hh) (hD : DJ_Rd_isWord_31 r l0 l1 l2 l3 l4 s0 h K3 K58 Q) : G Y X 6 31 [(0, .ref l0), (1, .int l1), (2, .int l2), (3, .int l3), (4, .int l4)] [.int s0] r h := by
  unfold DJ_Rd_isWord_31 at hD
  refine g_wt (fun hw => ?_)
  refine g_istore (pc := 31) (fun _ => [(5, .int s0), (0, .ref l0), (1, .int l1), (2, .int l2), (3, .int l3), (4, .int l4)]) C dX4_isWord_31 (by decide) rfl (fun _ _ => ?_)
  refine g_ldcS (pc := 33) (i := 0) C (by decide) rfl dX4_isWord_33 ?_
  refine g_bipush (pc := 35) (v := 8) (by decide) C dX4_isWord_35 ?_
  refine g_iload_n (pc := 37) rfl 2 rfl C dX4_isWord_37 ?_
  refine g_imul (pc := 38) C dX4_isWord_38 ?_
  refine g_iload (pc := 39) 5 rfl C dX4_isWord_39 ?_
  refine g_iadd (pc := 41) C dX4_isWord_41 ?_
  refine g_callTi (pc := 42) (As := [.int ((8 * l1) + l4)]) C mt_RX4_108 (M_St_charAt (by decide) hD) (by decide) (by decide) rfl rfl (Nat.le_of_ble_eq_true rfl) dX4_isWord_42 (fun x6 h5 hD => ?_)
  refine g_iload (pc := 45) 0 rfl C dX4_isWord_45 ?_
  refine g_icmp_eq (pc := 47) 52 C dX4_isWord_47 (by decide) (fun c7 => ?_) (fun c7 => ?_)
  · have hD := hD.1 c7
    refine g_iinc (pc := 52) (q := 5) (c := 1) (fun x8 => [(4, .int x8), (5, .int s0), (0, .ref l0), (1, .int l1), (2, .int l2), (3, .int l3)]) C dX4_isWord_52 rfl (by decide) (by decide) rfl (fun x8 ex8 => ?_)
    have hD := hD x8 ex8
    refine g_goto (pc := 55) 3 C dX4_isWord_55 (by decide) ?_
    refine g_sub [2, 3, 4, 5, 0] rfl ?_
    exact hK3 x8 h5 hD
  · have hD := hD.2 c7
    refine g_iconst (pc := 50) (v := 0) (by decide) C dX4_isWord_50 ?_
    exact g_zret (pc := 51) C R nz_0 dX4_isWord_51 hD
def DB_Rd_isWord_3 (r : TR) (l0 : Nat) (l1 : Int32) (l2 : Int32) (l3 : Int32) (l4 : Int32) (h : TH) (K3 : Int32 → TH → Prop) (K58 : TH → Prop) (Q : Int32 → TH → Prop) : Prop :=
  ((8 ≤ l4 → K58 h) ∧ (¬ 8 ≤ l4 → ((l3 ≤ l4 → DJ_Rd_isWord_31 r l0 l1 l2 l3 l4 32 h (K3) (K58) Q) ∧ (¬ l3 ≤ l4 → ∀ i10 : Int32, i10 = l2 + l4 → vp_in i10 2000 ∧ DJ_Rd_isWord_31 r l0 l1 l2 l3 l4 (jchar (h.1 (r l0 0) i10.toNatClampNeg)) h (K3) (K58) Q))))
set_option maxRecDepth 100000 in
set_option maxHeartbeats 4000000 in
theorem WB_Rd_isWord_3 {Y : CG} {X : CX} {r : TR} {l0 : Nat} {l1 : Int32} {l2 : Int32} {l3 : Int32} {l4 : Int32} {h : TH} {K3 : Int32 → TH → Prop} {K58 : TH → Prop} {Q : Int32 → TH → Prop} (C : Gd Y X cX4_isWord 6 RX4 5) (R : Ri Y r X .boolean Q) (t0 : TO Y l0 4) (hK3 : ∀ (k4 : Int32) (hh : TH), K3 k4 hh → G Y X 6 3 [(0, .ref l0), (1, .int l1), (2, .int l2), (3, .int l3), (4, .int k4)] [] r hh) (hK58 : ∀ (hh : TH), K58 hh → G Y X 6 58 [] [] r hh) (hD : DB_Rd_isWord_3 r l0 l1 l2 l3 l4 h K3 K58 Q) : G Y X 6 3 [(0, .ref l0), (1, .int l1), (2, .int l2), (3, .int l3), (4, .int l4)] [] r h := by
  unfold DB_Rd_isWord_3 at hD
  refine g_wt (fun hw => ?_)
  refine g_iload (pc := 3) 4 rfl C dX4_isWord_3 ?_
  refine g_bipush (pc := 5) (v := 8) (by decide) C dX4_isWord_5 ?_
  refine g_icmp_ge (pc := 7) 58 C dX4_isWord_7 (by decide) (fun c2 => ?_) (fun c2 => ?_)
  · have hD := hD.1 c2
    refine g_sub [] rfl ?_
    exact hK58 h hD
  · have hD := hD.2 c2
    refine g_iload (pc := 10) 4 rfl C dX4_isWord_10 ?_
    refine g_iload_n (pc := 12) rfl 3 rfl C dX4_isWord_12 ?_
    refine g_icmp_ge (pc := 13) 29 C dX4_isWord_13 (by decide) (fun c3 => ?_) (fun c3 => ?_)
    · have hD := hD.1 c3
      refine g_bipush (pc := 29) (v := 32) (by decide) C dX4_isWord_29 ?_
      refine g_sub [0, 1, 2, 3, 4] rfl ?_
      exact WJ_Rd_isWord_31 C R t0 (hK3) (hK58) hD
    · have hD := hD.2 c3
      refine g_aload_n (pc := 16) rfl 0 rfl C dX4_isWord_16 ?_
      have u9 : TA Y (r l0 0) 9 2000 := wt_a hw t0 (by decide) (by decide) rfl
      refine g_getR (pc := 17) C fl_RX4_9 t0 rfl dX4_isWord_17 ?_
      refine g_iload_n (pc := 20) rfl 2 rfl C dX4_isWord_20 ?_
      refine g_iload (pc := 21) 4 rfl C dX4_isWord_21 ?_
      refine g_iadd (pc := 23) C dX4_isWord_23 ?_
      refine g_topi (fun i10 ei10 => ?_)
      have hD := hD i10 ei10
      obtain ⟨hb, hD⟩ := hD
      refine g_bald (pc := 24) C u9 hb dX4_isWord_24 ?_
      refine g_i2c (pc := 25) C dX4_isWord_25 ?_
      refine g_goto (pc := 26) 31 C dX4_isWord_26 (by decide) ?_
      refine g_sub [0, 1, 2, 3, 4] rfl ?_
      exact WJ_Rd_isWord_31 C R t0 (hK3) (hK58) hD
def D_Rd_isWord (r : TR) (o : Nat) (a1 : Int32) (a2 : Int32) (a3 : Int32) (h : TH) (Q : Int32 → TH → Prop) : Prop :=
  ∃ n, lp (fun (K : Int32 × TH → Prop) (s : Int32 × TH) => DB_Rd_isWord_3 r o a1 a2 a3 s.1 s.2 (fun y11 h12 => K (y11, h12)) (fun h13 => Q 1 h13) Q) n (0, h)
set_option maxRecDepth 100000 in
set_option maxHeartbeats 4000000 in
theorem M_Rd_isWord {Y : CG} {r : TR} {l : Launch} {o : Nat} {a1 : Int32} {a2 : Int32} {a3 : Int32} {h : TH} {Q : Int32 → TH → Prop} (t0 : TO Y o 4) (hD : D_Rd_isWord r o a1 a2 a3 h Q) : Mi Y r l yX4_isWord cX4_isWord 6 .boolean 5 [.ref o, .int a1, .int a2, .int a3] h Q := by
  unfold D_Rd_isWord at hD
  refine Mi.of RX4 rfl (by decide) (by simp [lg_sl, Value.category]) [(0, .ref o), (1, .int a1), (2, .int a2), (3, .int a3)] rfl (fun X hXl C R => ?_)
  subst hXl
  refine g_wt (fun hw => ?_)
  refine g_iconst (pc := 0) (v := 0) (by decide) C dX4_isWord_0 ?_
  refine g_istore (pc := 1) (fun _ => [(4, .int 0), (0, .ref o), (1, .int a1), (2, .int a2), (3, .int a3)]) C dX4_isWord_1 (by decide) rfl (fun _ _ => ?_)
  obtain ⟨n, hD⟩ := hD
  refine g_sub [1, 2, 3, 4, 0] rfl ?_
  refine lp_run (fun s : Int32 × TH => G Y X 6 3 [(0, .ref o), (1, .int a1), (2, .int a2), (3, .int a3), (4, .int s.1)] [] r s.2) (fun K s hB hK => ?_) n (0, h) hD
  refine WB_Rd_isWord_3 C R t0 (fun y11 h12 hk => hK _ hk) (fun h13 hD => ?_) hB
  · refine g_iconst (pc := 58) (v := 1) (by decide) C dX4_isWord_58 ?_
    exact g_zret (pc := 59) C R nz_1 dX4_isWord_59 hD
def DB_Rd_kindOfWord_2 (r : TR) (l0 : Nat) (l1 : Int32) (l2 : Int32) (l3 : Int32) (h : TH) (K2 : Int32 → TH → Prop) (K28 : TH → Prop) (Q : Int32 → TH → Prop) : Prop :=
  ((19 ≤ l3 → K28 h) ∧ (¬ 19 ≤ l3 → D_Rd_isWord r l0 l3 l1 l2 h (fun x4 h3 => ((x4 = 0 → ∀ x6 : Int32, x6 = l3 + 1 → K2 x6 h3) ∧ (¬ x4 = 0 → Q (4 + l3) h3)))))
set_option maxRecDepth 100000 in
set_option maxHeartbeats 4000000 in
theorem WB_Rd_kindOfWord_2 {Y : CG} {X : CX} {r : TR} {l0 : Nat} {l1 : Int32} {l2 : Int32} {l3 : Int32} {h : TH} {K2 : Int32 → TH → Prop} {K28 : TH → Prop} {Q : Int32 → TH → Prop} (C : Gd Y X cX4_kindOfWord 4 RX4 6) (R : Ri Y r X .int Q) (t0 : TO Y l0 4) (hK2 : ∀ (k3 : Int32) (hh : TH), K2 k3 hh → G Y X 4 2 [(0, .ref l0), (1, .int l1), (2, .int l2), (3, .int k3)] [] r hh) (hK28 : ∀ (hh : TH), K28 hh → G Y X 4 28 [] [] r hh) (hD : DB_Rd_kindOfWord_2 r l0 l1 l2 l3 h K2 K28 Q) : G Y X 4 2 [(0, .ref l0), (1, .int l1), (2, .int l2), (3, .int l3)] [] r h := by
  unfold DB_Rd_kindOfWord_2 at hD
  refine g_wt (fun hw => ?_)
  refine g_iload_n (pc := 2) rfl 3 rfl C dX4_kindOfWord_2 ?_
  refine g_bipush (pc := 3) (v := 19) (by decide) C dX4_kindOfWord_3 ?_
  refine g_icmp_ge (pc := 5) 28 C dX4_kindOfWord_5 (by decide) (fun c2 => ?_) (fun c2 => ?_)
  · have hD := hD.1 c2
    refine g_sub [] rfl ?_
    exact hK28 h hD
  · have hD := hD.2 c2
    refine g_aload_n (pc := 8) rfl 0 rfl C dX4_kindOfWord_8 ?_
    refine g_iload_n (pc := 9) rfl 3 rfl C dX4_kindOfWord_9 ?_
    refine g_iload_n (pc := 10) rfl 1 rfl C dX4_kindOfWord_10 ?_
    refine g_iload_n (pc := 11) rfl 2 rfl C dX4_kindOfWord_11 ?_
    refine g_callVi (pc := 12) (As := [.int l3, .int l1, .int l2]) C mv_RX4_102 (M_Rd_isWord t0 hD) t0 (by decide) rfl rfl (Nat.le_of_ble_eq_true rfl) dX4_kindOfWord_12 (fun x4 h3 hD => ?_)
    refine g_if_eq (pc := 15) 22 C dX4_kindOfWord_15 (by decide) (fun c5 => ?_) (fun c5 => ?_)
    · have hD := hD.1 c5
      refine g_iinc (pc := 22) (q := 3) (c := 1) (fun x6 => [(3, .int x6), (0, .ref l0), (1, .int l1), (2, .int l2)]) C dX4_kindOfWord_22 rfl (by decide) (by decide) rfl (fun x6 ex6 => ?_)
      have hD := hD x6 ex6
      refine g_goto (pc := 25) 2 C dX4_kindOfWord_25 (by decide) ?_
      refine g_sub [1, 2, 3, 0] rfl ?_
      exact hK2 x6 h3 hD
    · have hD := hD.2 c5
      refine g_iconst (pc := 18) (v := 4) (by decide) C dX4_kindOfWord_18 ?_
      refine g_iload_n (pc := 19) rfl 3 rfl C dX4_kindOfWord_19 ?_
      refine g_iadd (pc := 20) C dX4_kindOfWord_20 ?_
      exact g_iret (pc := 21) C R dX4_kindOfWord_21 hD
def D_Rd_kindOfWord (r : TR) (o : Nat) (a1 : Int32) (a2 : Int32) (h : TH) (Q : Int32 → TH → Prop) : Prop :=
  ∃ n, lp (fun (K : Int32 × TH → Prop) (s : Int32 × TH) => DB_Rd_kindOfWord_2 r o a1 a2 s.1 s.2 (fun y7 h8 => K (y7, h8)) (fun h9 => Q 2 h9) Q) n (0, h)
set_option maxRecDepth 100000 in
set_option maxHeartbeats 4000000 in
theorem M_Rd_kindOfWord {Y : CG} {r : TR} {l : Launch} {o : Nat} {a1 : Int32} {a2 : Int32} {h : TH} {Q : Int32 → TH → Prop} (t0 : TO Y o 4) (hD : D_Rd_kindOfWord r o a1 a2 h Q) : Mi Y r l yX4_kindOfWord cX4_kindOfWord 4 .int 6 [.ref o, .int a1, .int a2] h Q := by
  unfold D_Rd_kindOfWord at hD
  refine Mi.of RX4 rfl (by decide) (by simp [lg_sl, Value.category]) [(0, .ref o), (1, .int a1), (2, .int a2)] rfl (fun X hXl C R => ?_)
  subst hXl
  refine g_wt (fun hw => ?_)
  refine g_iconst (pc := 0) (v := 0) (by decide) C dX4_kindOfWord_0 ?_
  refine g_istore_n (pc := 1) (fun _ => [(3, .int 0), (0, .ref o), (1, .int a1), (2, .int a2)]) C dX4_kindOfWord_1 rfl (by decide) rfl (fun _ _ => ?_)
  obtain ⟨n, hD⟩ := hD
  refine g_sub [1, 2, 3, 0] rfl ?_
  refine lp_run (fun s : Int32 × TH => G Y X 4 2 [(0, .ref o), (1, .int a1), (2, .int a2), (3, .int s.1)] [] r s.2) (fun K s hB hK => ?_) n (0, h) hD
  refine WB_Rd_kindOfWord_2 C R t0 (fun y7 h8 hk => hK _ hk) (fun h9 hD => ?_) hB
  · refine g_iconst (pc := 28) (v := 2) (by decide) C dX4_kindOfWord_28 ?_
    exact g_iret (pc := 29) C R dX4_kindOfWord_29 hD
def DB_Rd_nameAt_5 (r : TR) (l0 : Nat) (l1 : Int32) (l2 : Int32) (l3 : Int64) (l5 : Int32) (h : TH) (K5 : Int64 → Int32 → TH → Prop) (K40 : Int64 → TH → Prop) (Q : Int64 → TH → Prop) : Prop :=
  ((l2 ≤ l5 → K40 l3 h) ∧ (¬ l2 ≤ l5 → ∀ i5 : Int32, i5 = l1 + l5 → vp_in i5 2000 ∧ ∀ x6 : Int64, x6 = (((32 * l3) + ((h.1 (r l0 0) i5.toNatClampNeg).toInt64)) - 97) + 1 → ∀ x7 : Int32, x7 = l5 + 1 → K5 x6 x7 h))
set_option maxRecDepth 100000 in
set_option maxHeartbeats 4000000 in
theorem WB_Rd_nameAt_5 {Y : CG} {X : CX} {r : TR} {l0 : Nat} {l1 : Int32} {l2 : Int32} {l3 : Int64} {l5 : Int32} {h : TH} {K5 : Int64 → Int32 → TH → Prop} {K40 : Int64 → TH → Prop} {Q : Int64 → TH → Prop} (C : Gd Y X cX4_nameAt 6 RX4 1) (R : Rl Y r X Q) (t0 : TO Y l0 4) (hK5 : ∀ (k3 : Int64) (k5 : Int32) (hh : TH), K5 k3 k5 hh → G Y X 6 5 [(0, .ref l0), (1, .int l1), (2, .int l2), (3, .long k3), (5, .int k5)] [] r hh) (hK40 : ∀ (k3 : Int64) (hh : TH), K40 k3 hh → G Y X 6 40 [(3, .long k3)] [] r hh) (hD : DB_Rd_nameAt_5 r l0 l1 l2 l3 l5 h K5 K40 Q) : G Y X 6 5 [(0, .ref l0), (1, .int l1), (2, .int l2), (3, .long l3), (5, .int l5)] [] r h := by
  unfold DB_Rd_nameAt_5 at hD
  refine g_wt (fun hw => ?_)
  refine g_iload (pc := 5) 4 rfl C dX4_nameAt_5 ?_
  refine g_iload_n (pc := 7) rfl 2 rfl C dX4_nameAt_7 ?_
  refine g_icmp_ge (pc := 8) 40 C dX4_nameAt_8 (by decide) (fun c3 => ?_) (fun c3 => ?_)
  · have hD := hD.1 c3
    refine g_sub [3] rfl ?_
    exact hK40 l3 h hD
  · have hD := hD.2 c3
    refine g_ldc2 (pc := 11) cn_RX4_187 C dX4_nameAt_11 ?_
    refine g_lload_n (pc := 14) rfl 3 rfl C dX4_nameAt_14 ?_
    refine g_lmul (pc := 15) C dX4_nameAt_15 ?_
    refine g_aload_n (pc := 16) rfl 0 rfl C dX4_nameAt_16 ?_
    have u4 : TA Y (r l0 0) 9 2000 := wt_a hw t0 (by decide) (by decide) rfl
    refine g_getR (pc := 17) C fl_RX4_9 t0 rfl dX4_nameAt_17 ?_
    refine g_iload_n (pc := 20) rfl 1 rfl C dX4_nameAt_20 ?_
    refine g_iload (pc := 21) 4 rfl C dX4_nameAt_21 ?_
    refine g_iadd (pc := 23) C dX4_nameAt_23 ?_
    refine g_topi (fun i5 ei5 => ?_)
    have hD := hD i5 ei5
    obtain ⟨hb, hD⟩ := hD
    refine g_bald (pc := 24) C u4 hb dX4_nameAt_24 ?_
    refine g_i2l (pc := 25) C dX4_nameAt_25 ?_
    refine g_ladd (pc := 26) C dX4_nameAt_26 ?_
    refine g_ldc2 (pc := 27) cn_RX4_189 C dX4_nameAt_27 ?_
    refine g_lsub (pc := 30) C dX4_nameAt_30 ?_
    refine g_lconst (pc := 31) (v := 1) (by decide) C dX4_nameAt_31 ?_
    refine g_ladd (pc := 32) C dX4_nameAt_32 ?_
    refine g_lstore_n (pc := 33) (fun x6 => [(3, .long x6), (0, .ref l0), (1, .int l1), (2, .int l2), (5, .int l5)]) C dX4_nameAt_33 rfl (by decide) rfl (fun x6 ex6 => ?_)
    have hD := hD x6 ex6
    refine g_iinc (pc := 34) (q := 4) (c := 1) (fun x7 => [(5, .int x7), (3, .long x6), (0, .ref l0), (1, .int l1), (2, .int l2)]) C dX4_nameAt_34 rfl (by decide) (by decide) rfl (fun x7 ex7 => ?_)
    have hD := hD x7 ex7
    refine g_goto (pc := 37) 5 C dX4_nameAt_37 (by decide) ?_
    refine g_sub [2, 3, 4, 1, 0] rfl ?_
    exact hK5 x6 x7 h hD
def D_Rd_nameAt (r : TR) (o : Nat) (a1 : Int32) (a2 : Int32) (h : TH) (Q : Int64 → TH → Prop) : Prop :=
  ∃ n, lp (fun (K : Int64 × Int32 × TH → Prop) (s : Int64 × Int32 × TH) => DB_Rd_nameAt_5 r o a1 a2 s.1 s.2.1 s.2.2 (fun y8 y9 h10 => K (y8, y9, h10)) (fun x11 h12 => Q x11 h12) Q) n (0, 0, h)
set_option maxRecDepth 100000 in
set_option maxHeartbeats 4000000 in
theorem M_Rd_nameAt {Y : CG} {r : TR} {l : Launch} {o : Nat} {a1 : Int32} {a2 : Int32} {h : TH} {Q : Int64 → TH → Prop} (t0 : TO Y o 4) (hD : D_Rd_nameAt r o a1 a2 h Q) : Ml Y r l yX4_nameAt cX4_nameAt 6 1 [.ref o, .int a1, .int a2] h Q := by
  unfold D_Rd_nameAt at hD
  refine Ml.of RX4 rfl (by decide) (by simp [lg_sl, Value.category]) [(0, .ref o), (1, .int a1), (2, .int a2)] rfl (fun X hXl C R => ?_)
  subst hXl
  refine g_wt (fun hw => ?_)
  refine g_lconst (pc := 0) (v := 0) (by decide) C dX4_nameAt_0 ?_
  refine g_lstore_n (pc := 1) (fun _ => [(3, .long 0), (0, .ref o), (1, .int a1), (2, .int a2)]) C dX4_nameAt_1 rfl (by decide) rfl (fun _ _ => ?_)
  refine g_iconst (pc := 2) (v := 0) (by decide) C dX4_nameAt_2 ?_
  refine g_istore (pc := 3) (fun _ => [(5, .int 0), (3, .long 0), (0, .ref o), (1, .int a1), (2, .int a2)]) C dX4_nameAt_3 (by decide) rfl (fun _ _ => ?_)
  obtain ⟨n, hD⟩ := hD
  refine g_sub [2, 3, 4, 1, 0] rfl ?_
  refine lp_run (fun s : Int64 × Int32 × TH => G Y X 6 5 [(0, .ref o), (1, .int a1), (2, .int a2), (3, .long s.1), (5, .int s.2.1)] [] r s.2.2) (fun K s hB hK => ?_) n (0, 0, h) hD
  refine WB_Rd_nameAt_5 C R t0 (fun y8 y9 h10 hk => hK _ hk) (fun x11 h12 hD => ?_) hB
  · refine g_lload_n (pc := 40) rfl 0 rfl C dX4_nameAt_40 ?_
    exact g_lret (pc := 41) C R dX4_nameAt_41 hD
def D_Rd_number (r : TR) (o : Nat) (a1 : Int32) (h : TH) (Q : Int32 → TH → Prop) : Prop :=
  ∀ x1 : Int32, x1 = h.1 o 10 → D_Rd_need r o 3 h (fun x3 h2 => ((¬ x3 = 0 → vp_in x1 401 ∧ (((h2.1 (r o 9) x1.toNatClampNeg) ≤ a1 → vp_in x1 401 ∧ Q (h2.1 (r o 9) x1.toNatClampNeg) h2) ∧ (¬ (h2.1 (r o 9) x1.toNatClampNeg) ≤ a1 → vp_in x1 401 ∧ D_Rd_addFlaw r o 5 (h2.1 (r o 8) x1.toNatClampNeg) h2 (fun h9 => vp_in x1 401 ∧ Q (h9.1 (r o 9) x1.toNatClampNeg) h9)))) ∧ (x3 = 0 → Q 0 h2)))
set_option maxRecDepth 100000 in
set_option maxHeartbeats 4000000 in
theorem M_Rd_number {Y : CG} {r : TR} {l : Launch} {o : Nat} {a1 : Int32} {h : TH} {Q : Int32 → TH → Prop} (t0 : TO Y o 4) (hD : D_Rd_number r o a1 h Q) : Mi Y r l yX4_number cX4_number 3 .int 2 [.ref o, .int a1] h Q := by
  unfold D_Rd_number at hD
  refine Mi.of RX4 rfl (by decide) (by simp [lg_sl, Value.category]) [(0, .ref o), (1, .int a1)] rfl (fun X hXl C R => ?_)
  subst hXl
  refine g_wt (fun hw => ?_)
  refine g_aload_n (pc := 0) rfl 0 rfl C dX4_number_0 ?_
  refine g_getI (pc := 1) C fl_RX4_48 t0 rfl dX4_number_1 ?_
  refine g_istore_n (pc := 4) (fun x1 => [(2, .int x1), (0, .ref o), (1, .int a1)]) C dX4_number_4 rfl (by decide) rfl (fun x1 ex1 => ?_)
  have hD := hD x1 ex1
  refine g_aload_n (pc := 5) rfl 1 rfl C dX4_number_5 ?_
  refine g_iconst (pc := 6) (v := 3) (by decide) C dX4_number_6 ?_
  refine g_callVi (pc := 7) (As := [.int 3]) C mv_RX4_132 (M_Rd_need t0 hD) t0 (by decide) rfl rfl (Nat.le_of_ble_eq_true rfl) dX4_number_7 (fun x3 h2 hD => ?_)
  refine g_if_ne (pc := 10) 15 C dX4_number_10 (by decide) (fun c4 => ?_) (fun c4 => ?_)
  · have hD := hD.1 c4
    refine g_aload_n (pc := 15) rfl 1 rfl C dX4_number_15 ?_
    have u5 : TA Y (r o 9) 10 401 := wt_a hw t0 (by decide) (by decide) rfl
    refine g_getR (pc := 16) C fl_RX4_45 t0 rfl dX4_number_16 ?_
    refine g_iload_n (pc := 19) rfl 0 rfl C dX4_number_19 ?_
    obtain ⟨hb, hD⟩ := hD
    refine g_iald (pc := 20) C u5 hb dX4_number_20 ?_
    refine g_iload_n (pc := 21) rfl 2 rfl C dX4_number_21 ?_
    refine g_icmp_le (pc := 22) 36 C dX4_number_22 (by decide) (fun c6 => ?_) (fun c6 => ?_)
    · have hD := hD.1 c6
      refine g_aload_n (pc := 36) rfl 1 rfl C dX4_number_36 ?_
      have u7 : TA Y (r o 9) 10 401 := wt_a hw t0 (by decide) (by decide) rfl
      refine g_getR (pc := 37) C fl_RX4_45 t0 rfl dX4_number_37 ?_
      refine g_iload_n (pc := 40) rfl 0 rfl C dX4_number_40 ?_
      obtain ⟨hb, hD⟩ := hD
      refine g_iald (pc := 41) C u7 hb dX4_number_41 ?_
      exact g_iret (pc := 42) C R dX4_number_42 hD
    · have hD := hD.2 c6
      refine g_aload_n (pc := 25) rfl 1 rfl C dX4_number_25 ?_
      refine g_iconst (pc := 26) (v := 5) (by decide) C dX4_number_26 ?_
      refine g_aload_n (pc := 27) rfl 1 rfl C dX4_number_27 ?_
      have u8 : TA Y (r o 8) 10 401 := wt_a hw t0 (by decide) (by decide) rfl
      refine g_getR (pc := 28) C fl_RX4_42 t0 rfl dX4_number_28 ?_
      refine g_iload_n (pc := 31) rfl 0 rfl C dX4_number_31 ?_
      obtain ⟨hb, hD⟩ := hD
      refine g_iald (pc := 32) C u8 hb dX4_number_32 ?_
      refine g_callVv (pc := 33) (As := [.int 5, .int (h2.1 (r o 8) x1.toNatClampNeg)]) C mv_RX4_64 (M_Rd_addFlaw t0 hD) t0 (by decide) rfl rfl (Nat.le_of_ble_eq_true rfl) dX4_number_33 (fun h9 hD => ?_)
      refine g_aload_n (pc := 36) rfl 1 rfl C dX4_number_36 ?_
      have u11 : TA Y (r o 9) 10 401 := wt_a hw t0 (by decide) (by decide) rfl
      refine g_getR (pc := 37) C fl_RX4_45 t0 rfl dX4_number_37 ?_
      refine g_iload_n (pc := 40) rfl 0 rfl C dX4_number_40 ?_
      obtain ⟨hb, hD⟩ := hD
      refine g_iald (pc := 41) C u11 hb dX4_number_41 ?_
      exact g_iret (pc := 42) C R dX4_number_42 hD
  · have hD := hD.2 c4
    refine g_iconst (pc := 13) (v := 0) (by decide) C dX4_number_13 ?_
    exact g_iret (pc := 14) C R dX4_number_14 hD
def DB_Rd_numberAt_5 (r : TR) (l0 : Nat) (l1 : Int32) (l2 : Int32) (l3 : Int32) (l4 : Int32) (h : TH) (K5 : Int32 → Int32 → TH → Prop) (K35 : Int32 → TH → Prop) (Q : Int32 → TH → Prop) : Prop :=
  ((l2 ≤ l4 → K35 l3 h) ∧ (¬ l2 ≤ l4 → ∀ i5 : Int32, i5 = l1 + l4 → vp_in i5 2000 ∧ ∀ x6 : Int32, x6 = ((10 * l3) + (h.1 (r l0 0) i5.toNatClampNeg)) - 48 → ∀ x7 : Int32, x7 = l4 + 1 → K5 x6 x7 h))
set_option maxRecDepth 100000 in
set_option maxHeartbeats 4000000 in
theorem WB_Rd_numberAt_5 {Y : CG} {X : CX} {r : TR} {l0 : Nat} {l1 : Int32} {l2 : Int32} {l3 : Int32} {l4 : Int32} {h : TH} {K5 : Int32 → Int32 → TH → Prop} {K35 : Int32 → TH → Prop} {Q : Int32 → TH → Prop} (C : Gd Y X cX4_numberAt 5 RX4 1) (R : Ri Y r X .int Q) (t0 : TO Y l0 4) (hK5 : ∀ (k3 : Int32) (k4 : Int32) (hh : TH), K5 k3 k4 hh → G Y X 5 5 [(0, .ref l0), (1, .int l1), (2, .int l2), (3, .int k3), (4, .int k4)] [] r hh) (hK35 : ∀ (k3 : Int32) (hh : TH), K35 k3 hh → G Y X 5 35 [(3, .int k3)] [] r hh) (hD : DB_Rd_numberAt_5 r l0 l1 l2 l3 l4 h K5 K35 Q) : G Y X 5 5 [(0, .ref l0), (1, .int l1), (2, .int l2), (3, .int l3), (4, .int l4)] [] r h := by
  unfold DB_Rd_numberAt_5 at hD
  refine g_wt (fun hw => ?_)
  refine g_iload (pc := 5) 4 rfl C dX4_numberAt_5 ?_
  refine g_iload_n (pc := 7) rfl 2 rfl C dX4_numberAt_7 ?_
  refine g_icmp_ge (pc := 8) 35 C dX4_numberAt_8 (by decide) (fun c3 => ?_) (fun c3 => ?_)
  · have hD := hD.1 c3
    refine g_sub [3] rfl ?_
    exact hK35 l3 h hD
  · have hD := hD.2 c3
    refine g_bipush (pc := 11) (v := 10) (by decide) C dX4_numberAt_11 ?_
    refine g_iload_n (pc := 13) rfl 3 rfl C dX4_numberAt_13 ?_
    refine g_imul (pc := 14) C dX4_numberAt_14 ?_
    refine g_aload_n (pc := 15) rfl 0 rfl C dX4_numberAt_15 ?_
    have u4 : TA Y (r l0 0) 9 2000 := wt_a hw t0 (by decide) (by decide) rfl
    refine g_getR (pc := 16) C fl_RX4_9 t0 rfl dX4_numberAt_16 ?_
    refine g_iload_n (pc := 19) rfl 1 rfl C dX4_numberAt_19 ?_
    refine g_iload (pc := 20) 4 rfl C dX4_numberAt_20 ?_
    refine g_iadd (pc := 22) C dX4_numberAt_22 ?_
    refine g_topi (fun i5 ei5 => ?_)
    have hD := hD i5 ei5
    obtain ⟨hb, hD⟩ := hD
    refine g_bald (pc := 23) C u4 hb dX4_numberAt_23 ?_
    refine g_iadd (pc := 24) C dX4_numberAt_24 ?_
    refine g_bipush (pc := 25) (v := 48) (by decide) C dX4_numberAt_25 ?_
    refine g_isub (pc := 27) C dX4_numberAt_27 ?_
    refine g_istore_n (pc := 28) (fun x6 => [(3, .int x6), (0, .ref l0), (1, .int l1), (2, .int l2), (4, .int l4)]) C dX4_numberAt_28 rfl (by decide) rfl (fun x6 ex6 => ?_)
    have hD := hD x6 ex6
    refine g_iinc (pc := 29) (q := 4) (c := 1) (fun x7 => [(4, .int x7), (3, .int x6), (0, .ref l0), (1, .int l1), (2, .int l2)]) C dX4_numberAt_29 rfl (by decide) (by decide) rfl (fun x7 ex7 => ?_)
    have hD := hD x7 ex7
    refine g_goto (pc := 32) 5 C dX4_numberAt_32 (by decide) ?_
    refine g_sub [2, 3, 4, 1, 0] rfl ?_
    exact hK5 x6 x7 h hD
def D_Rd_numberAt (r : TR) (o : Nat) (a1 : Int32) (a2 : Int32) (h : TH) (Q : Int32 → TH → Prop) : Prop :=
  ∃ n, lp (fun (K : Int32 × Int32 × TH → Prop) (s : Int32 × Int32 × TH) => DB_Rd_numberAt_5 r o a1 a2 s.1 s.2.1 s.2.2 (fun y8 y9 h10 => K (y8, y9, h10)) (fun x11 h12 => Q x11 h12) Q) n (0, 0, h)
set_option maxRecDepth 100000 in
set_option maxHeartbeats 4000000 in
theorem M_Rd_numberAt {Y : CG} {r : TR} {l : Launch} {o : Nat} {a1 : Int32} {a2 : Int32} {h : TH} {Q : Int32 → TH → Prop} (t0 : TO Y o 4) (hD : D_Rd_numberAt r o a1 a2 h Q) : Mi Y r l yX4_numberAt cX4_numberAt 5 .int 1 [.ref o, .int a1, .int a2] h Q := by
  unfold D_Rd_numberAt at hD
  refine Mi.of RX4 rfl (by decide) (by simp [lg_sl, Value.category]) [(0, .ref o), (1, .int a1), (2, .int a2)] rfl (fun X hXl C R => ?_)
  subst hXl
  refine g_wt (fun hw => ?_)
  refine g_iconst (pc := 0) (v := 0) (by decide) C dX4_numberAt_0 ?_
  refine g_istore_n (pc := 1) (fun _ => [(3, .int 0), (0, .ref o), (1, .int a1), (2, .int a2)]) C dX4_numberAt_1 rfl (by decide) rfl (fun _ _ => ?_)
  refine g_iconst (pc := 2) (v := 0) (by decide) C dX4_numberAt_2 ?_
  refine g_istore (pc := 3) (fun _ => [(4, .int 0), (3, .int 0), (0, .ref o), (1, .int a1), (2, .int a2)]) C dX4_numberAt_3 (by decide) rfl (fun _ _ => ?_)
  obtain ⟨n, hD⟩ := hD
  refine g_sub [2, 3, 4, 1, 0] rfl ?_
  refine lp_run (fun s : Int32 × Int32 × TH => G Y X 5 5 [(0, .ref o), (1, .int a1), (2, .int a2), (3, .int s.1), (4, .int s.2.1)] [] r s.2.2) (fun K s hB hK => ?_) n (0, 0, h) hD
  refine WB_Rd_numberAt_5 C R t0 (fun y8 y9 h10 hk => hK _ hk) (fun x11 h12 hD => ?_) hB
  · refine g_iload_n (pc := 35) rfl 0 rfl C dX4_numberAt_35 ?_
    exact g_iret (pc := 36) C R dX4_numberAt_36 hD
def DB_Rd_runOf_3 (r : TR) (l0 : Nat) (l1 : Int32) (l2 : Int32) (l3 : Int32) (l4 : Int32) (h : TH) (K3 : Int32 → TH → Prop) (K40 : Int32 → TH → Prop) (Q : Int32 → TH → Prop) : Prop :=
  (((h.1 l0 1) ≤ l4 → K40 l4 h) ∧ (¬ (h.1 l0 1) ≤ l4 → vp_in l4 2000 ∧ (((h.1 (r l0 0) l4.toNatClampNeg) < l2 → K40 l4 h) ∧ (¬ (h.1 (r l0 0) l4.toNatClampNeg) < l2 → vp_in l4 2000 ∧ ((l3 < (h.1 (r l0 0) l4.toNatClampNeg) → K40 l4 h) ∧ (¬ l3 < (h.1 (r l0 0) l4.toNatClampNeg) → ∀ x7 : Int32, x7 = l4 + 1 → K3 x7 h))))))
set_option maxRecDepth 100000 in
set_option maxHeartbeats 4000000 in
theorem WB_Rd_runOf_3 {Y : CG} {X : CX} {r : TR} {l0 : Nat} {l1 : Int32} {l2 : Int32} {l3 : Int32} {l4 : Int32} {h : TH} {K3 : Int32 → TH → Prop} {K40 : Int32 → TH → Prop} {Q : Int32 → TH → Prop} (C : Gd Y X cX4_runOf 5 RX4 1) (R : Ri Y r X .int Q) (t0 : TO Y l0 4) (hK3 : ∀ (k4 : Int32) (hh : TH), K3 k4 hh → G Y X 5 3 [(0, .ref l0), (1, .int l1), (2, .int l2), (3, .int l3), (4, .int k4)] [] r hh) (hK40 : ∀ (k4 : Int32) (hh : TH), K40 k4 hh → G Y X 5 40 [(1, .int l1), (4, .int k4)] [] r hh) (hD : DB_Rd_runOf_3 r l0 l1 l2 l3 l4 h K3 K40 Q) : G Y X 5 3 [(0, .ref l0), (1, .int l1), (2, .int l2), (3, .int l3), (4, .int l4)] [] r h := by
  unfold DB_Rd_runOf_3 at hD
  refine g_wt (fun hw => ?_)
  refine g_iload (pc := 3) 4 rfl C dX4_runOf_3 ?_
  refine g_aload_n (pc := 5) rfl 0 rfl C dX4_runOf_5 ?_
  refine g_getI (pc := 6) C fl_RX4_15 t0 rfl dX4_runOf_6 ?_
  refine g_icmp_ge (pc := 9) 40 C dX4_runOf_9 (by decide) (fun c2 => ?_) (fun c2 => ?_)
  · have hD := hD.1 c2
    refine g_sub [1, 4] rfl ?_
    exact hK40 l4 h hD
  · have hD := hD.2 c2
    refine g_aload_n (pc := 12) rfl 0 rfl C dX4_runOf_12 ?_
    have u3 : TA Y (r l0 0) 9 2000 := wt_a hw t0 (by decide) (by decide) rfl
    refine g_getR (pc := 13) C fl_RX4_9 t0 rfl dX4_runOf_13 ?_
    refine g_iload (pc := 16) 4 rfl C dX4_runOf_16 ?_
    obtain ⟨hb, hD⟩ := hD
    refine g_bald (pc := 18) C u3 hb dX4_runOf_18 ?_
    refine g_iload_n (pc := 19) rfl 2 rfl C dX4_runOf_19 ?_
    refine g_icmp_lt (pc := 20) 40 C dX4_runOf_20 (by decide) (fun c4 => ?_) (fun c4 => ?_)
    · have hD := hD.1 c4
      refine g_sub [1, 4] rfl ?_
      exact hK40 l4 h hD
    · have hD := hD.2 c4
      refine g_aload_n (pc := 23) rfl 0 rfl C dX4_runOf_23 ?_
      have u5 : TA Y (r l0 0) 9 2000 := wt_a hw t0 (by decide) (by decide) rfl
      refine g_getR (pc := 24) C fl_RX4_9 t0 rfl dX4_runOf_24 ?_
      refine g_iload (pc := 27) 4 rfl C dX4_runOf_27 ?_
      obtain ⟨hb, hD⟩ := hD
      refine g_bald (pc := 29) C u5 hb dX4_runOf_29 ?_
      refine g_iload_n (pc := 30) rfl 3 rfl C dX4_runOf_30 ?_
      refine g_icmp_gt (pc := 31) 40 C dX4_runOf_31 (by decide) (fun c6 => ?_) (fun c6 => ?_)
      · have hD := hD.1 c6
        refine g_sub [1, 4] rfl ?_
        exact hK40 l4 h hD
      · have hD := hD.2 c6
        refine g_iinc (pc := 34) (q := 4) (c := 1) (fun x7 => [(4, .int x7), (0, .ref l0), (1, .int l1), (2, .int l2), (3, .int l3)]) C dX4_runOf_34 rfl (by decide) (by decide) rfl (fun x7 ex7 => ?_)
        have hD := hD x7 ex7
        refine g_goto (pc := 37) 3 C dX4_runOf_37 (by decide) ?_
        refine g_sub [1, 2, 3, 4, 0] rfl ?_
        exact hK3 x7 h hD
def D_Rd_runOf (r : TR) (o : Nat) (a1 : Int32) (a2 : Int32) (a3 : Int32) (h : TH) (Q : Int32 → TH → Prop) : Prop :=
  ∃ n, lp (fun (K : Int32 × TH → Prop) (s : Int32 × TH) => DB_Rd_runOf_3 r o a1 a2 a3 s.1 s.2 (fun y8 h9 => K (y8, h9)) (fun x10 h11 => Q (x10 - a1) h11) Q) n (a1, h)
set_option maxRecDepth 100000 in
set_option maxHeartbeats 4000000 in
theorem M_Rd_runOf {Y : CG} {r : TR} {l : Launch} {o : Nat} {a1 : Int32} {a2 : Int32} {a3 : Int32} {h : TH} {Q : Int32 → TH → Prop} (t0 : TO Y o 4) (hD : D_Rd_runOf r o a1 a2 a3 h Q) : Mi Y r l yX4_runOf cX4_runOf 5 .int 1 [.ref o, .int a1, .int a2, .int a3] h Q := by
  unfold D_Rd_runOf at hD
  refine Mi.of RX4 rfl (by decide) (by simp [lg_sl, Value.category]) [(0, .ref o), (1, .int a1), (2, .int a2), (3, .int a3)] rfl (fun X hXl C R => ?_)
  subst hXl
  refine g_wt (fun hw => ?_)
  refine g_iload_n (pc := 0) rfl 1 rfl C dX4_runOf_0 ?_
  refine g_istore (pc := 1) (fun _ => [(4, .int a1), (0, .ref o), (1, .int a1), (2, .int a2), (3, .int a3)]) C dX4_runOf_1 (by decide) rfl (fun _ _ => ?_)
  obtain ⟨n, hD⟩ := hD
  refine g_sub [1, 2, 3, 4, 0] rfl ?_
  refine lp_run (fun s : Int32 × TH => G Y X 5 3 [(0, .ref o), (1, .int a1), (2, .int a2), (3, .int a3), (4, .int s.1)] [] r s.2) (fun K s hB hK => ?_) n (a1, h) hD
  refine WB_Rd_runOf_3 C R t0 (fun y8 h9 hk => hK _ hk) (fun x10 h11 hD => ?_) hB
  · refine g_iload (pc := 40) 1 rfl C dX4_runOf_40 ?_
    refine g_iload_n (pc := 42) rfl 0 rfl C dX4_runOf_42 ?_
    refine g_isub (pc := 43) C dX4_runOf_43 ?_
    exact g_iret (pc := 44) C R dX4_runOf_44 hD
def DJ_Rd_scanToken_96 (r : TR) (l0 : Nat) (l1 : Int32) (l2 : Int32) (l4 : Int32) (s0 : Int32) (s1 : Int32) (s2 : Nat) (h : TH) (Q : Int32 → TH → Prop) : Prop :=
  vp_in s1 401 ∧ ∀ h20, h20 = pI h s2 s1.toNatClampNeg s0 → D_Rd_numberAt r l0 l2 ((if 4 < l4 then 4 else l4)) h20 (fun x23 h22 => vp_in l1 401 ∧ ∀ h24, h24 = pI h22 (r l0 9) l1.toNatClampNeg x23 → Q (l2 + l4) h24)
set_option maxRecDepth 100000 in
set_option maxHeartbeats 4000000 in
theorem WJ_Rd_scanToken_96 {Y : CG} {X : CX} {r : TR} {l0 : Nat} {l1 : Int32} {l2 : Int32} {l4 : Int32} {s0 : Int32} {s1 : Int32} {s2 : Nat} {h : TH} {Q : Int32 → TH → Prop} (C : Gd Y X cX4_scanToken 6 RX4 7) (R : Ri Y r X .int Q) (t0 : TO Y l0 4) (ts2 : TA Y s2 10 401) (hD : DJ_Rd_scanToken_96 r l0 l1 l2 l4 s0 s1 s2 h  Q) : G Y X 6 96 [(0, .ref l0), (1, .int l1), (2, .int l2), (4, .int l4)] [.int s0, .int s1, .ref s2] r h := by
  unfold DJ_Rd_scanToken_96 at hD
  refine g_wt (fun hw => ?_)
  obtain ⟨hb, hD⟩ := hD
  refine g_iast (pc := 96) C ts2 hb dX4_scanToken_96 (fun h20 eh20 => ?_)
  have hD := hD h20 eh20
  refine g_aload_n (pc := 97) rfl 0 rfl C dX4_scanToken_97 ?_
  have u21 : TA Y (r l0 9) 10 401 := wt_a hw t0 (by decide) (by decide) rfl
  refine g_getR (pc := 98) C fl_RX4_45 t0 rfl dX4_scanToken_98 ?_
  refine g_iload_n (pc := 101) rfl 1 rfl C dX4_scanToken_101 ?_
  refine g_aload_n (pc := 102) rfl 0 rfl C dX4_scanToken_102 ?_
  refine g_iload_n (pc := 103) rfl 2 rfl C dX4_scanToken_103 ?_
  refine g_iload (pc := 104) 3 rfl C dX4_scanToken_104 ?_
  refine g_iconst (pc := 106) (v := 4) (by decide) C dX4_scanToken_106 ?_
  refine g_min (pc := 107) C (by decide) lk_RX4_87 mst_min mini mco_min (Nat.le_of_ble_eq_true rfl) dX4_scanToken_107 ?_
  refine g_callVi (pc := 110) (As := [.int l2, .int ((if 4 < l4 then 4 else l4))]) C mv_RX4_92 (M_Rd_numberAt t0 hD) t0 (by decide) rfl rfl (Nat.le_of_ble_eq_true rfl) dX4_scanToken_110 (fun x23 h22 hD => ?_)
  obtain ⟨hb, hD⟩ := hD
  refine g_iast (pc := 113) C u21 hb dX4_scanToken_113 (fun h24 eh24 => ?_)
  have hD := hD h24 eh24
  refine g_iload_n (pc := 114) rfl 2 rfl C dX4_scanToken_114 ?_
  refine g_iload (pc := 115) 3 rfl C dX4_scanToken_115 ?_
  refine g_iadd (pc := 117) C dX4_scanToken_117 ?_
  exact g_iret (pc := 118) C R dX4_scanToken_118 hD
def DJ_Rd_scanToken_52 (r : TR) (l0 : Nat) (l1 : Int32) (l2 : Int32) (l3 : Int32) (s0 : Int32) (s1 : Int32) (s2 : Nat) (h : TH) (Q : Int32 → TH → Prop) : Prop :=
  vp_in s1 401 ∧ ∀ h29, h29 = pI h s2 s1.toNatClampNeg s0 → vp_in l1 401 ∧ ∀ h31, h31 = pI h29 (r l0 9) l1.toNatClampNeg l3 → Q (l2 + l3) h31
set_option maxRecDepth 100000 in
set_option maxHeartbeats 4000000 in
theorem WJ_Rd_scanToken_52 {Y : CG} {X : CX} {r : TR} {l0 : Nat} {l1 : Int32} {l2 : Int32} {l3 : Int32} {s0 : Int32} {s1 : Int32} {s2 : Nat} {h : TH} {Q : Int32 → TH → Prop} (C : Gd Y X cX4_scanToken 6 RX4 7) (R : Ri Y r X .int Q) (t0 : TO Y l0 4) (ts2 : TA Y s2 10 401) (hD : DJ_Rd_scanToken_52 r l0 l1 l2 l3 s0 s1 s2 h  Q) : G Y X 6 52 [(0, .ref l0), (1, .int l1), (2, .int l2), (3, .int l3)] [.int s0, .int s1, .ref s2] r h := by
  unfold DJ_Rd_scanToken_52 at hD
  refine g_wt (fun hw => ?_)
  obtain ⟨hb, hD⟩ := hD
  refine g_iast (pc := 52) C ts2 hb dX4_scanToken_52 (fun h29 eh29 => ?_)
  have hD := hD h29 eh29
  refine g_aload_n (pc := 53) rfl 0 rfl C dX4_scanToken_53 ?_
  have u30 : TA Y (r l0 9) 10 401 := wt_a hw t0 (by decide) (by decide) rfl
  refine g_getR (pc := 54) C fl_RX4_45 t0 rfl dX4_scanToken_54 ?_
  refine g_iload_n (pc := 57) rfl 1 rfl C dX4_scanToken_57 ?_
  refine g_iload_n (pc := 58) rfl 3 rfl C dX4_scanToken_58 ?_
  obtain ⟨hb, hD⟩ := hD
  refine g_iast (pc := 59) C u30 hb dX4_scanToken_59 (fun h31 eh31 => ?_)
  have hD := hD h31 eh31
  refine g_iload_n (pc := 60) rfl 2 rfl C dX4_scanToken_60 ?_
  refine g_iload_n (pc := 61) rfl 3 rfl C dX4_scanToken_61 ?_
  refine g_iadd (pc := 62) C dX4_scanToken_62 ?_
  exact g_iret (pc := 63) C R dX4_scanToken_63 hD
def D_Rd_scanToken (r : TR) (o : Nat) (a1 : Int32) (a2 : Int32) (h : TH) (Q : Int32 → TH → Prop) : Prop :=
  ((a2 < (h.1 o 1) → D_Rd_runOf r o a2 97 122 h (fun x3 h2 => ((x3 ≤ 0 → D_Rd_runOf r o a2 48 57 h2 (fun x7 h6 => ((x7 ≤ 0 → vp_in a2 2000 ∧ D_St_indexOf r 1 (jchar ((h6.1 (r o 0) a2.toNatClampNeg) &&& 255)) h6 (fun x12 h11 => ((0 ≤ x12 → vp_in a1 401 ∧ ∀ h16, h16 = pI h11 (r o 7) a1.toNatClampNeg (23 + x12) → Q (a2 + 1) h16) ∧ (¬ 0 ≤ x12 → vp_in a1 401 ∧ ∀ h17, h17 = pI h11 (r o 7) a1.toNatClampNeg 1 → Q (a2 + 1) h17)))) ∧ (¬ x7 ≤ 0 → ((x7 ≤ 4 → DJ_Rd_scanToken_96 r o a1 a2 x7 3 a1 (r o 7) h6 Q) ∧ (¬ x7 ≤ 4 → DJ_Rd_scanToken_96 r o a1 a2 x7 1 a1 (r o 7) h6 Q)))))) ∧ (¬ x3 ≤ 0 → ((x3 ≤ 8 → D_Rd_kindOfWord r o a2 x3 h2 (fun x28 h27 => DJ_Rd_scanToken_52 r o a1 a2 x3 x28 a1 (r o 7) h27 Q)) ∧ (¬ x3 ≤ 8 → DJ_Rd_scanToken_52 r o a1 a2 x3 1 a1 (r o 7) h2 Q)))))) ∧ (¬ a2 < (h.1 o 1) → vp_in a1 401 ∧ ∀ h33, h33 = pI h (r o 7) a1.toNatClampNeg 0 → Q a2 h33))
set_option maxRecDepth 100000 in
set_option maxHeartbeats 4000000 in
theorem M_Rd_scanToken {Y : CG} {r : TR} {l : Launch} {o : Nat} {a1 : Int32} {a2 : Int32} {h : TH} {Q : Int32 → TH → Prop} (t0 : TO Y o 4) (hD : D_Rd_scanToken r o a1 a2 h Q) : Mi Y r l yX4_scanToken cX4_scanToken 6 .int 7 [.ref o, .int a1, .int a2] h Q := by
  unfold D_Rd_scanToken at hD
  refine Mi.of RX4 rfl (by decide) (by simp [lg_sl, Value.category]) [(0, .ref o), (1, .int a1), (2, .int a2)] rfl (fun X hXl C R => ?_)
  subst hXl
  refine g_wt (fun hw => ?_)
  refine g_iload_n (pc := 0) rfl 2 rfl C dX4_scanToken_0 ?_
  refine g_aload_n (pc := 1) rfl 0 rfl C dX4_scanToken_1 ?_
  refine g_getI (pc := 2) C fl_RX4_15 t0 rfl dX4_scanToken_2 ?_
  refine g_icmp_lt (pc := 5) 17 C dX4_scanToken_5 (by decide) (fun c1 => ?_) (fun c1 => ?_)
  · have hD := hD.1 c1
    refine g_aload_n (pc := 17) rfl 0 rfl C dX4_scanToken_17 ?_
    refine g_iload_n (pc := 18) rfl 2 rfl C dX4_scanToken_18 ?_
    refine g_bipush (pc := 19) (v := 97) (by decide) C dX4_scanToken_19 ?_
    refine g_bipush (pc := 21) (v := 122) (by decide) C dX4_scanToken_21 ?_
    refine g_callVi (pc := 23) (As := [.int a2, .int 97, .int 122]) C mv_RX4_80 (M_Rd_runOf t0 hD) t0 (by decide) rfl rfl (Nat.le_of_ble_eq_true rfl) dX4_scanToken_23 (fun x3 h2 hD => ?_)
    refine g_istore_n (pc := 26) (fun _ => [(3, .int x3), (0, .ref o), (1, .int a1), (2, .int a2)]) C dX4_scanToken_26 rfl (by decide) rfl (fun _ _ => ?_)
    refine g_iload_n (pc := 27) rfl 0 rfl C dX4_scanToken_27 ?_
    refine g_if_le (pc := 28) 64 C dX4_scanToken_28 (by decide) (fun c5 => ?_) (fun c5 => ?_)
    · have hD := hD.1 c5
      refine g_aload_n (pc := 64) rfl 1 rfl C dX4_scanToken_64 ?_
      refine g_iload_n (pc := 65) rfl 3 rfl C dX4_scanToken_65 ?_
      refine g_bipush (pc := 66) (v := 48) (by decide) C dX4_scanToken_66 ?_
      refine g_bipush (pc := 68) (v := 57) (by decide) C dX4_scanToken_68 ?_
      refine g_callVi (pc := 70) (As := [.int a2, .int 48, .int 57]) C mv_RX4_80 (M_Rd_runOf t0 hD) t0 (by decide) rfl rfl (Nat.le_of_ble_eq_true rfl) dX4_scanToken_70 (fun x7 h6 hD => ?_)
      refine g_istore (pc := 73) (fun _ => [(4, .int x7), (3, .int x3), (0, .ref o), (1, .int a1), (2, .int a2)]) C dX4_scanToken_73 (by decide) rfl (fun _ _ => ?_)
      refine g_iload (pc := 75) 0 rfl C dX4_scanToken_75 ?_
      refine g_if_le (pc := 77) 119 C dX4_scanToken_77 (by decide) (fun c9 => ?_) (fun c9 => ?_)
      · have hD := hD.1 c9
        refine g_ldcS (pc := 119) (i := 1) C (by decide) rfl dX4_scanToken_119 ?_
        refine g_aload_n (pc := 121) rfl 2 rfl C dX4_scanToken_121 ?_
        have u10 : TA Y (r o 0) 9 2000 := wt_a hw t0 (by decide) (by decide) rfl
        refine g_getR (pc := 122) C fl_RX4_9 t0 rfl dX4_scanToken_122 ?_
        refine g_iload_n (pc := 125) rfl 4 rfl C dX4_scanToken_125 ?_
        obtain ⟨hb, hD⟩ := hD
        refine g_bald (pc := 126) C u10 hb dX4_scanToken_126 ?_
        refine g_sipush (pc := 127) (v := 255) (by decide) C dX4_scanToken_127 ?_
        refine g_iand (pc := 130) C dX4_scanToken_130 ?_
        refine g_i2c (pc := 131) C dX4_scanToken_131 ?_
        refine g_callTi (pc := 132) (As := [.int (jchar ((h6.1 (r o 0) a2.toNatClampNeg) &&& 255))]) C mt_RX4_97 (M_St_indexOf (by decide) hD) (by decide) (by decide) rfl rfl (Nat.le_of_ble_eq_true rfl) dX4_scanToken_132 (fun x12 h11 hD => ?_)
        refine g_istore (pc := 135) (fun _ => [(5, .int x12), (4, .int x7), (3, .int x3), (0, .ref o), (1, .int a1), (2, .int a2)]) C dX4_scanToken_135 (by decide) rfl (fun _ _ => ?_)
        refine g_aload_n (pc := 137) rfl 3 rfl C dX4_scanToken_137 ?_
        have u14 : TA Y (r o 7) 10 401 := wt_a hw t0 (by decide) (by decide) rfl
        refine g_getR (pc := 138) C fl_RX4_38 t0 rfl dX4_scanToken_138 ?_
        refine g_iload_n (pc := 141) rfl 4 rfl C dX4_scanToken_141 ?_
        refine g_iload (pc := 142) 0 rfl C dX4_scanToken_142 ?_
        refine g_if_ge (pc := 144) 151 C dX4_scanToken_144 (by decide) (fun c15 => ?_) (fun c15 => ?_)
        · have hD := hD.1 c15
          refine g_bipush (pc := 151) (v := 23) (by decide) C dX4_scanToken_151 ?_
          refine g_iload (pc := 153) 0 rfl C dX4_scanToken_153 ?_
          refine g_iadd (pc := 155) C dX4_scanToken_155 ?_
          obtain ⟨hb, hD⟩ := hD
          refine g_iast (pc := 156) C u14 hb dX4_scanToken_156 (fun h16 eh16 => ?_)
          have hD := hD h16 eh16
          refine g_iload_n (pc := 157) rfl 5 rfl C dX4_scanToken_157 ?_
          refine g_iconst (pc := 158) (v := 1) (by decide) C dX4_scanToken_158 ?_
          refine g_iadd (pc := 159) C dX4_scanToken_159 ?_
          exact g_iret (pc := 160) C R dX4_scanToken_160 hD
        · have hD := hD.2 c15
          refine g_iconst (pc := 147) (v := 1) (by decide) C dX4_scanToken_147 ?_
          refine g_goto (pc := 148) 156 C dX4_scanToken_148 (by decide) ?_
          obtain ⟨hb, hD⟩ := hD
          refine g_iast (pc := 156) C u14 hb dX4_scanToken_156 (fun h17 eh17 => ?_)
          have hD := hD h17 eh17
          refine g_iload_n (pc := 157) rfl 5 rfl C dX4_scanToken_157 ?_
          refine g_iconst (pc := 158) (v := 1) (by decide) C dX4_scanToken_158 ?_
          refine g_iadd (pc := 159) C dX4_scanToken_159 ?_
          exact g_iret (pc := 160) C R dX4_scanToken_160 hD
      · have hD := hD.2 c9
        refine g_aload_n (pc := 80) rfl 2 rfl C dX4_scanToken_80 ?_
        have u18 : TA Y (r o 7) 10 401 := wt_a hw t0 (by decide) (by decide) rfl
        refine g_getR (pc := 81) C fl_RX4_38 t0 rfl dX4_scanToken_81 ?_
        refine g_iload_n (pc := 84) rfl 3 rfl C dX4_scanToken_84 ?_
        refine g_iload (pc := 85) 0 rfl C dX4_scanToken_85 ?_
        refine g_iconst (pc := 87) (v := 4) (by decide) C dX4_scanToken_87 ?_
        refine g_icmp_le (pc := 88) 95 C dX4_scanToken_88 (by decide) (fun c19 => ?_) (fun c19 => ?_)
        · have hD := hD.1 c19
          refine g_iconst (pc := 95) (v := 3) (by decide) C dX4_scanToken_95 ?_
          refine g_sub [2, 3, 4, 0] rfl ?_
          exact WJ_Rd_scanToken_96 C R t0 u18 hD
        · have hD := hD.2 c19
          refine g_iconst (pc := 91) (v := 1) (by decide) C dX4_scanToken_91 ?_
          refine g_goto (pc := 92) 96 C dX4_scanToken_92 (by decide) ?_
          refine g_sub [2, 3, 4, 0] rfl ?_
          exact WJ_Rd_scanToken_96 C R t0 u18 hD
    · have hD := hD.2 c5
      refine g_aload_n (pc := 31) rfl 1 rfl C dX4_scanToken_31 ?_
      have u25 : TA Y (r o 7) 10 401 := wt_a hw t0 (by decide) (by decide) rfl
      refine g_getR (pc := 32) C fl_RX4_38 t0 rfl dX4_scanToken_32 ?_
      refine g_iload_n (pc := 35) rfl 2 rfl C dX4_scanToken_35 ?_
      refine g_iload_n (pc := 36) rfl 0 rfl C dX4_scanToken_36 ?_
      refine g_bipush (pc := 37) (v := 8) (by decide) C dX4_scanToken_37 ?_
      refine g_icmp_le (pc := 39) 46 C dX4_scanToken_39 (by decide) (fun c26 => ?_) (fun c26 => ?_)
      · have hD := hD.1 c26
        refine g_aload_n (pc := 46) rfl 1 rfl C dX4_scanToken_46 ?_
        refine g_iload_n (pc := 47) rfl 3 rfl C dX4_scanToken_47 ?_
        refine g_iload_n (pc := 48) rfl 0 rfl C dX4_scanToken_48 ?_
        refine g_callVi (pc := 49) (As := [.int a2, .int x3]) C mv_RX4_84 (M_Rd_kindOfWord t0 hD) t0 (by decide) rfl rfl (Nat.le_of_ble_eq_true rfl) dX4_scanToken_49 (fun x28 h27 hD => ?_)
        refine g_sub [1, 2, 3, 0] rfl ?_
        exact WJ_Rd_scanToken_52 C R t0 u25 hD
      · have hD := hD.2 c26
        refine g_iconst (pc := 42) (v := 1) (by decide) C dX4_scanToken_42 ?_
        refine g_goto (pc := 43) 52 C dX4_scanToken_43 (by decide) ?_
        refine g_sub [1, 2, 3, 0] rfl ?_
        exact WJ_Rd_scanToken_52 C R t0 u25 hD
  · have hD := hD.2 c1
    refine g_aload_n (pc := 8) rfl 0 rfl C dX4_scanToken_8 ?_
    have u32 : TA Y (r o 7) 10 401 := wt_a hw t0 (by decide) (by decide) rfl
    refine g_getR (pc := 9) C fl_RX4_38 t0 rfl dX4_scanToken_9 ?_
    refine g_iload_n (pc := 12) rfl 1 rfl C dX4_scanToken_12 ?_
    refine g_iconst (pc := 13) (v := 0) (by decide) C dX4_scanToken_13 ?_
    obtain ⟨hb, hD⟩ := hD
    refine g_iast (pc := 14) C u32 hb dX4_scanToken_14 (fun h33 eh33 => ?_)
    have hD := hD h33 eh33
    refine g_iload_n (pc := 15) rfl 2 rfl C dX4_scanToken_15 ?_
    exact g_iret (pc := 16) C R dX4_scanToken_16 hD
def DB_Rd_scan_4 (r : TR) (l0 : Nat) (l1 : Int32) (l2 : Int32) (h : TH) (K4 : Int32 → Int32 → TH → Prop) (K57 : TH → Prop) (Q : TH → Prop) : Prop :=
  ((400 < l2 → K57 h) ∧ (¬ 400 < l2 → D_Rd_behindBlanks r l0 l1 h (fun x5 h4 => vp_in l2 401 ∧ ∀ h8, h8 = pI h4 (r l0 8) l2.toNatClampNeg x5 → D_Rd_scanToken r l0 l2 x5 h8 (fun x10 h9 => vp_in l2 401 ∧ (((h9.1 (r l0 7) l2.toNatClampNeg) = 0 → Q h9) ∧ (¬ (h9.1 (r l0 7) l2.toNatClampNeg) = 0 → vp_in l2 401 ∧ ((¬ (h9.1 (r l0 7) l2.toNatClampNeg) = 1 → ∀ x16 : Int32, x16 = l2 + 1 → K4 x10 x16 h9) ∧ ((h9.1 (r l0 7) l2.toNatClampNeg) = 1 → Q h9))))))))
set_option maxRecDepth 100000 in
set_option maxHeartbeats 4000000 in
theorem WB_Rd_scan_4 {Y : CG} {X : CX} {r : TR} {l0 : Nat} {l1 : Int32} {l2 : Int32} {h : TH} {K4 : Int32 → Int32 → TH → Prop} {K57 : TH → Prop} {Q : TH → Prop} (C : Gd Y X cX4_scan 3 RX4 8) (R : Rv Y r X Q) (t0 : TO Y l0 4) (hK4 : ∀ (k1 : Int32) (k2 : Int32) (hh : TH), K4 k1 k2 hh → G Y X 3 4 [(0, .ref l0), (1, .int k1), (2, .int k2)] [] r hh) (hK57 : ∀ (hh : TH), K57 hh → G Y X 3 57 [] [] r hh) (hD : DB_Rd_scan_4 r l0 l1 l2 h K4 K57 Q) : G Y X 3 4 [(0, .ref l0), (1, .int l1), (2, .int l2)] [] r h := by
  unfold DB_Rd_scan_4 at hD
  refine g_wt (fun hw => ?_)
  refine g_iload_n (pc := 4) rfl 2 rfl C dX4_scan_4 ?_
  refine g_sipush (pc := 5) (v := 400) (by decide) C dX4_scan_5 ?_
  refine g_icmp_gt (pc := 8) 57 C dX4_scan_8 (by decide) (fun c3 => ?_) (fun c3 => ?_)
  · have hD := hD.1 c3
    refine g_sub [] rfl ?_
    exact hK57 h hD
  · have hD := hD.2 c3
    refine g_aload_n (pc := 11) rfl 0 rfl C dX4_scan_11 ?_
    refine g_iload_n (pc := 12) rfl 1 rfl C dX4_scan_12 ?_
    refine g_callVi (pc := 13) (As := [.int l1]) C mv_RX4_68 (M_Rd_behindBlanks t0 hD) t0 (by decide) rfl rfl (Nat.le_of_ble_eq_true rfl) dX4_scan_13 (fun x5 h4 hD => ?_)
    refine g_istore_n (pc := 16) (fun _ => [(1, .int x5), (0, .ref l0), (2, .int l2)]) C dX4_scan_16 rfl (by decide) rfl (fun _ _ => ?_)
    refine g_aload_n (pc := 17) rfl 1 rfl C dX4_scan_17 ?_
    have u7 : TA Y (r l0 8) 10 401 := wt_a hw t0 (by decide) (by decide) rfl
    refine g_getR (pc := 18) C fl_RX4_42 t0 rfl dX4_scan_18 ?_
    refine g_iload_n (pc := 21) rfl 2 rfl C dX4_scan_21 ?_
    refine g_iload_n (pc := 22) rfl 0 rfl C dX4_scan_22 ?_
    obtain ⟨hb, hD⟩ := hD
    refine g_iast (pc := 23) C u7 hb dX4_scan_23 (fun h8 eh8 => ?_)
    have hD := hD h8 eh8
    refine g_aload_n (pc := 24) rfl 1 rfl C dX4_scan_24 ?_
    refine g_iload_n (pc := 25) rfl 2 rfl C dX4_scan_25 ?_
    refine g_iload_n (pc := 26) rfl 0 rfl C dX4_scan_26 ?_
    refine g_callVi (pc := 27) (As := [.int l2, .int x5]) C mv_RX4_72 (M_Rd_scanToken t0 hD) t0 (by decide) rfl rfl (Nat.le_of_ble_eq_true rfl) dX4_scan_27 (fun x10 h9 hD => ?_)
    refine g_istore_n (pc := 30) (fun _ => [(1, .int x10), (0, .ref l0), (2, .int l2)]) C dX4_scan_30 rfl (by decide) rfl (fun _ _ => ?_)
    refine g_aload_n (pc := 31) rfl 1 rfl C dX4_scan_31 ?_
    have u12 : TA Y (r l0 7) 10 401 := wt_a hw t0 (by decide) (by decide) rfl
    refine g_getR (pc := 32) C fl_RX4_38 t0 rfl dX4_scan_32 ?_
    refine g_iload_n (pc := 35) rfl 2 rfl C dX4_scan_35 ?_
    obtain ⟨hb, hD⟩ := hD
    refine g_iald (pc := 36) C u12 hb dX4_scan_36 ?_
    refine g_if_eq (pc := 37) 50 C dX4_scan_37 (by decide) (fun c13 => ?_) (fun c13 => ?_)
    · have hD := hD.1 c13
      exact g_vret (pc := 50) C R dX4_scan_50 hD
    · have hD := hD.2 c13
      refine g_aload_n (pc := 40) rfl 1 rfl C dX4_scan_40 ?_
      have u14 : TA Y (r l0 7) 10 401 := wt_a hw t0 (by decide) (by decide) rfl
      refine g_getR (pc := 41) C fl_RX4_38 t0 rfl dX4_scan_41 ?_
      refine g_iload_n (pc := 44) rfl 2 rfl C dX4_scan_44 ?_
      obtain ⟨hb, hD⟩ := hD
      refine g_iald (pc := 45) C u14 hb dX4_scan_45 ?_
      refine g_iconst (pc := 46) (v := 1) (by decide) C dX4_scan_46 ?_
      refine g_icmp_ne (pc := 47) 51 C dX4_scan_47 (by decide) (fun c15 => ?_) (fun c15 => ?_)
      · have hD := hD.1 c15
        refine g_iinc (pc := 51) (q := 2) (c := 1) (fun x16 => [(2, .int x16), (1, .int x10), (0, .ref l0)]) C dX4_scan_51 rfl (by decide) (by decide) rfl (fun x16 ex16 => ?_)
        have hD := hD x16 ex16
        refine g_goto (pc := 54) 4 C dX4_scan_54 (by decide) ?_
        refine g_sub [2, 1, 0] rfl ?_
        exact hK4 x10 x16 h9 hD
      · have hD := hD.2 c15
        exact g_vret (pc := 50) C R dX4_scan_50 hD
def D_Rd_scan (r : TR) (o : Nat) (h : TH) (Q : TH → Prop) : Prop :=
  ∃ n, lp (fun (K : Int32 × Int32 × TH → Prop) (s : Int32 × Int32 × TH) => DB_Rd_scan_4 r o s.1 s.2.1 s.2.2 (fun y17 y18 h19 => K (y17, y18, h19)) (fun h20 => Q h20) Q) n (0, 0, h)
set_option maxRecDepth 100000 in
set_option maxHeartbeats 4000000 in
theorem M_Rd_scan {Y : CG} {r : TR} {l : Launch} {o : Nat} {h : TH} {Q : TH → Prop} (t0 : TO Y o 4) (hD : D_Rd_scan r o h Q) : Mv Y r l yX4_scan cX4_scan 3 8 [.ref o] h Q := by
  unfold D_Rd_scan at hD
  refine Mv.of RX4 rfl (by decide) (by simp [lg_sl, Value.category]) [(0, .ref o)] rfl (fun X hXl C R => ?_)
  subst hXl
  refine g_wt (fun hw => ?_)
  refine g_iconst (pc := 0) (v := 0) (by decide) C dX4_scan_0 ?_
  refine g_istore_n (pc := 1) (fun _ => [(1, .int 0), (0, .ref o)]) C dX4_scan_1 rfl (by decide) rfl (fun _ _ => ?_)
  refine g_iconst (pc := 2) (v := 0) (by decide) C dX4_scan_2 ?_
  refine g_istore_n (pc := 3) (fun _ => [(2, .int 0), (1, .int 0), (0, .ref o)]) C dX4_scan_3 rfl (by decide) rfl (fun _ _ => ?_)
  obtain ⟨n, hD⟩ := hD
  refine g_sub [2, 1, 0] rfl ?_
  refine lp_run (fun s : Int32 × Int32 × TH => G Y X 3 4 [(0, .ref o), (1, .int s.1), (2, .int s.2.1)] [] r s.2.2) (fun K s hB hK => ?_) n (0, 0, h) hD
  refine WB_Rd_scan_4 C R t0 (fun y17 y18 h19 hk => hK _ hk) (fun h20 hD => ?_) hB
  · exact g_vret (pc := 57) C R dX4_scan_57 hD
def DJ_Rd_tellBoat_76 (r : TR) (l0 : Nat) (l2 : Int64) (h : TH) (Q : TH → Prop) : Prop :=
  D_Rd_number r l0 9 h (fun x19 h18 => D_Rd_number r l0 9 h18 (fun x22 h21 => D_Rd_number r l0 9 h21 (fun x25 h24 => D_Rd_number r l0 9 h24 (fun x28 h27 => ∀ x31 : Int32, x31 = h27.1 (r l0 2) 2 → vp_in x31 6 ∧ ∀ h34, h34 = pL h27 (r (r l0 2) 7) x31.toNatClampNeg l2 → vp_in x31 6 ∧ ∀ h37, h37 = pI h34 (r (r l0 2) 8) x31.toNatClampNeg x19 → vp_in x31 6 ∧ ∀ h40, h40 = pI h37 (r (r l0 2) 9) x31.toNatClampNeg x22 → vp_in x31 6 ∧ ∀ h43, h43 = pI h40 (r (r l0 2) 10) x31.toNatClampNeg x25 → vp_in x31 6 ∧ ∀ h46, h46 = pI h43 (r (r l0 2) 11) x31.toNatClampNeg x28 → ∀ h48, h48 = pI h46 (r l0 2) 2 ((h46.1 (r l0 2) 2) + 1) → Q h48))))
set_option maxRecDepth 100000 in
set_option maxHeartbeats 4000000 in
theorem WJ_Rd_tellBoat_76 {Y : CG} {X : CX} {r : TR} {l0 : Nat} {l2 : Int64} {h : TH} {Q : TH → Prop} (C : Gd Y X cX4_tellBoat 9 RX4 3) (R : Rv Y r X Q) (t0 : TO Y l0 4) (hD : DJ_Rd_tellBoat_76 r l0 l2 h  Q) : G Y X 9 76 [(0, .ref l0), (2, .long l2)] [] r h := by
  unfold DJ_Rd_tellBoat_76 at hD
  refine g_wt (fun hw => ?_)
  refine g_aload_n (pc := 76) rfl 0 rfl C dX4_tellBoat_76 ?_
  refine g_bipush (pc := 77) (v := 9) (by decide) C dX4_tellBoat_77 ?_
  refine g_callVi (pc := 79) (As := [.int 9]) C mv_RX4_135 (M_Rd_number t0 hD) t0 (by decide) rfl rfl (Nat.le_of_ble_eq_true rfl) dX4_tellBoat_79 (fun x19 h18 hD => ?_)
  refine g_istore (pc := 82) (fun _ => [(4, .int x19), (0, .ref l0), (2, .long l2)]) C dX4_tellBoat_82 (by decide) rfl (fun _ _ => ?_)
  refine g_aload_n (pc := 84) rfl 1 rfl C dX4_tellBoat_84 ?_
  refine g_bipush (pc := 85) (v := 9) (by decide) C dX4_tellBoat_85 ?_
  refine g_callVi (pc := 87) (As := [.int 9]) C mv_RX4_135 (M_Rd_number t0 hD) t0 (by decide) rfl rfl (Nat.le_of_ble_eq_true rfl) dX4_tellBoat_87 (fun x22 h21 hD => ?_)
  refine g_istore (pc := 90) (fun _ => [(5, .int x22), (4, .int x19), (0, .ref l0), (2, .long l2)]) C dX4_tellBoat_90 (by decide) rfl (fun _ _ => ?_)
  refine g_aload_n (pc := 92) rfl 2 rfl C dX4_tellBoat_92 ?_
  refine g_bipush (pc := 93) (v := 9) (by decide) C dX4_tellBoat_93 ?_
  refine g_callVi (pc := 95) (As := [.int 9]) C mv_RX4_135 (M_Rd_number t0 hD) t0 (by decide) rfl rfl (Nat.le_of_ble_eq_true rfl) dX4_tellBoat_95 (fun x25 h24 hD => ?_)
  refine g_istore (pc := 98) (fun _ => [(6, .int x25), (5, .int x22), (4, .int x19), (0, .ref l0), (2, .long l2)]) C dX4_tellBoat_98 (by decide) rfl (fun _ _ => ?_)
  refine g_aload_n (pc := 100) rfl 3 rfl C dX4_tellBoat_100 ?_
  refine g_bipush (pc := 101) (v := 9) (by decide) C dX4_tellBoat_101 ?_
  refine g_callVi (pc := 103) (As := [.int 9]) C mv_RX4_135 (M_Rd_number t0 hD) t0 (by decide) rfl rfl (Nat.le_of_ble_eq_true rfl) dX4_tellBoat_103 (fun x28 h27 hD => ?_)
  refine g_istore (pc := 106) (fun _ => [(7, .int x28), (6, .int x25), (5, .int x22), (4, .int x19), (0, .ref l0), (2, .long l2)]) C dX4_tellBoat_106 (by decide) rfl (fun _ _ => ?_)
  refine g_aload_n (pc := 108) rfl 4 rfl C dX4_tellBoat_108 ?_
  have u30 : TO Y (r l0 2) 0 := wt_o hw t0 (by decide) rfl
  refine g_getR (pc := 109) C fl_RX4_22 t0 rfl dX4_tellBoat_109 ?_
  refine g_getI (pc := 112) C fl_RX4_160 u30 rfl dX4_tellBoat_112 ?_
  refine g_istore (pc := 115) (fun x31 => [(8, .int x31), (7, .int x28), (6, .int x25), (5, .int x22), (4, .int x19), (0, .ref l0), (2, .long l2)]) C dX4_tellBoat_115 (by decide) rfl (fun x31 ex31 => ?_)
  have hD := hD x31 ex31
  refine g_aload_n (pc := 117) rfl 5 rfl C dX4_tellBoat_117 ?_
  have u32 : TO Y (r l0 2) 0 := wt_o hw t0 (by decide) rfl
  refine g_getR (pc := 118) C fl_RX4_22 t0 rfl dX4_tellBoat_118 ?_
  have u33 : TA Y (r (r l0 2) 7) 11 6 := wt_a hw u32 (by decide) (by decide) rfl
  refine g_getR (pc := 121) C fl_RX4_171 u32 rfl dX4_tellBoat_121 ?_
  refine g_iload (pc := 124) 0 rfl C dX4_tellBoat_124 ?_
  refine g_lload_n (pc := 126) rfl 6 rfl C dX4_tellBoat_126 ?_
  obtain ⟨hb, hD⟩ := hD
  refine g_last (pc := 127) C u33 hb dX4_tellBoat_127 (fun h34 eh34 => ?_)
  have hD := hD h34 eh34
  refine g_aload_n (pc := 128) rfl 5 rfl C dX4_tellBoat_128 ?_
  have u35 : TO Y (r l0 2) 0 := wt_o hw t0 (by decide) rfl
  refine g_getR (pc := 129) C fl_RX4_22 t0 rfl dX4_tellBoat_129 ?_
  have u36 : TA Y (r (r l0 2) 8) 10 6 := wt_a hw u35 (by decide) (by decide) rfl
  refine g_getR (pc := 132) C fl_RX4_175 u35 rfl dX4_tellBoat_132 ?_
  refine g_iload (pc := 135) 0 rfl C dX4_tellBoat_135 ?_
  refine g_iload (pc := 137) 4 rfl C dX4_tellBoat_137 ?_
  obtain ⟨hb, hD⟩ := hD
  refine g_iast (pc := 139) C u36 hb dX4_tellBoat_139 (fun h37 eh37 => ?_)
  have hD := hD h37 eh37
  refine g_aload_n (pc := 140) rfl 5 rfl C dX4_tellBoat_140 ?_
  have u38 : TO Y (r l0 2) 0 := wt_o hw t0 (by decide) rfl
  refine g_getR (pc := 141) C fl_RX4_22 t0 rfl dX4_tellBoat_141 ?_
  have u39 : TA Y (r (r l0 2) 9) 10 6 := wt_a hw u38 (by decide) (by decide) rfl
  refine g_getR (pc := 144) C fl_RX4_178 u38 rfl dX4_tellBoat_144 ?_
  refine g_iload (pc := 147) 0 rfl C dX4_tellBoat_147 ?_
  refine g_iload (pc := 149) 3 rfl C dX4_tellBoat_149 ?_
  obtain ⟨hb, hD⟩ := hD
  refine g_iast (pc := 151) C u39 hb dX4_tellBoat_151 (fun h40 eh40 => ?_)
  have hD := hD h40 eh40
  refine g_aload_n (pc := 152) rfl 5 rfl C dX4_tellBoat_152 ?_
  have u41 : TO Y (r l0 2) 0 := wt_o hw t0 (by decide) rfl
  refine g_getR (pc := 153) C fl_RX4_22 t0 rfl dX4_tellBoat_153 ?_
  have u42 : TA Y (r (r l0 2) 10) 10 6 := wt_a hw u41 (by decide) (by decide) rfl
  refine g_getR (pc := 156) C fl_RX4_181 u41 rfl dX4_tellBoat_156 ?_
  refine g_iload (pc := 159) 0 rfl C dX4_tellBoat_159 ?_
  refine g_iload (pc := 161) 2 rfl C dX4_tellBoat_161 ?_
  obtain ⟨hb, hD⟩ := hD
  refine g_iast (pc := 163) C u42 hb dX4_tellBoat_163 (fun h43 eh43 => ?_)
  have hD := hD h43 eh43
  refine g_aload_n (pc := 164) rfl 5 rfl C dX4_tellBoat_164 ?_
  have u44 : TO Y (r l0 2) 0 := wt_o hw t0 (by decide) rfl
  refine g_getR (pc := 165) C fl_RX4_22 t0 rfl dX4_tellBoat_165 ?_
  have u45 : TA Y (r (r l0 2) 11) 10 6 := wt_a hw u44 (by decide) (by decide) rfl
  refine g_getR (pc := 168) C fl_RX4_184 u44 rfl dX4_tellBoat_168 ?_
  refine g_iload (pc := 171) 0 rfl C dX4_tellBoat_171 ?_
  refine g_iload (pc := 173) 1 rfl C dX4_tellBoat_173 ?_
  obtain ⟨hb, hD⟩ := hD
  refine g_iast (pc := 175) C u45 hb dX4_tellBoat_175 (fun h46 eh46 => ?_)
  have hD := hD h46 eh46
  refine g_aload_n (pc := 176) rfl 5 rfl C dX4_tellBoat_176 ?_
  have u47 : TO Y (r l0 2) 0 := wt_o hw t0 (by decide) rfl
  refine g_getR (pc := 177) C fl_RX4_22 t0 rfl dX4_tellBoat_177 ?_
  refine g_dup (pc := 180) rfl C dX4_tellBoat_180 ?_
  refine g_getI (pc := 181) C fl_RX4_160 u47 rfl dX4_tellBoat_181 ?_
  refine g_iconst (pc := 184) (v := 1) (by decide) C dX4_tellBoat_184 ?_
  refine g_iadd (pc := 185) C dX4_tellBoat_185 ?_
  refine g_putI (pc := 186) C fl_RX4_160 u47 rfl rfl rfl dX4_tellBoat_186 (fun h48 eh48 => ?_)
  have hD := hD h48 eh48
  exact g_vret (pc := 189) C R dX4_tellBoat_189 hD
def DJ_Rd_tellBoat_17 (r : TR) (l0 : Nat) (h : TH) (Q : TH → Prop) : Prop :=
  D_Rd_need r l0 5 h (fun x4 h3 => ∀ x5 : Int32, x5 = h3.1 l0 10 → D_Rd_need r l0 2 h3 (fun x7 h6 => ((¬ x7 = 0 → vp_in x5 401 ∧ vp_in x5 401 ∧ D_Rd_nameAt r l0 (h6.1 (r l0 8) x5.toNatClampNeg) (h6.1 (r l0 9) x5.toNatClampNeg) h6 (fun x12 h11 => D_Bay_isNamed r (r l0 2) x12 h11 (fun x16 h15 => ((x16 = 0 → DJ_Rd_tellBoat_76 r l0 x12 h15 Q) ∧ (¬ x16 = 0 → vp_in x5 401 ∧ D_Rd_addFlaw r l0 3 (h15.1 (r l0 8) x5.toNatClampNeg) h15 (fun h50 => DJ_Rd_tellBoat_76 r l0 x12 h50 Q)))))) ∧ (x7 = 0 → Q h6))))
set_option maxRecDepth 100000 in
set_option maxHeartbeats 4000000 in
theorem WJ_Rd_tellBoat_17 {Y : CG} {X : CX} {r : TR} {l0 : Nat} {h : TH} {Q : TH → Prop} (C : Gd Y X cX4_tellBoat 9 RX4 3) (R : Rv Y r X Q) (t0 : TO Y l0 4) (hD : DJ_Rd_tellBoat_17 r l0 h  Q) : G Y X 9 17 [(0, .ref l0)] [] r h := by
  unfold DJ_Rd_tellBoat_17 at hD
  refine g_wt (fun hw => ?_)
  refine g_aload_n (pc := 17) rfl 0 rfl C dX4_tellBoat_17 ?_
  refine g_iconst (pc := 18) (v := 5) (by decide) C dX4_tellBoat_18 ?_
  refine g_callVi (pc := 19) (As := [.int 5]) C mv_RX4_132 (M_Rd_need t0 hD) t0 (by decide) rfl rfl (Nat.le_of_ble_eq_true rfl) dX4_tellBoat_19 (fun x4 h3 hD => ?_)
  refine g_pop (pc := 22) rfl C dX4_tellBoat_22 ?_
  refine g_aload_n (pc := 23) rfl 0 rfl C dX4_tellBoat_23 ?_
  refine g_getI (pc := 24) C fl_RX4_48 t0 rfl dX4_tellBoat_24 ?_
  refine g_istore_n (pc := 27) (fun x5 => [(1, .int x5), (0, .ref l0)]) C dX4_tellBoat_27 rfl (by decide) rfl (fun x5 ex5 => ?_)
  have hD := hD x5 ex5
  refine g_aload_n (pc := 28) rfl 1 rfl C dX4_tellBoat_28 ?_
  refine g_iconst (pc := 29) (v := 2) (by decide) C dX4_tellBoat_29 ?_
  refine g_callVi (pc := 30) (As := [.int 2]) C mv_RX4_132 (M_Rd_need t0 hD) t0 (by decide) rfl rfl (Nat.le_of_ble_eq_true rfl) dX4_tellBoat_30 (fun x7 h6 hD => ?_)
  refine g_if_ne (pc := 33) 37 C dX4_tellBoat_33 (by decide) (fun c8 => ?_) (fun c8 => ?_)
  · have hD := hD.1 c8
    refine g_aload_n (pc := 37) rfl 1 rfl C dX4_tellBoat_37 ?_
    refine g_aload_n (pc := 38) rfl 1 rfl C dX4_tellBoat_38 ?_
    have u9 : TA Y (r l0 8) 10 401 := wt_a hw t0 (by decide) (by decide) rfl
    refine g_getR (pc := 39) C fl_RX4_42 t0 rfl dX4_tellBoat_39 ?_
    refine g_iload_n (pc := 42) rfl 0 rfl C dX4_tellBoat_42 ?_
    obtain ⟨hb, hD⟩ := hD
    refine g_iald (pc := 43) C u9 hb dX4_tellBoat_43 ?_
    refine g_aload_n (pc := 44) rfl 1 rfl C dX4_tellBoat_44 ?_
    have u10 : TA Y (r l0 9) 10 401 := wt_a hw t0 (by decide) (by decide) rfl
    refine g_getR (pc := 45) C fl_RX4_45 t0 rfl dX4_tellBoat_45 ?_
    refine g_iload_n (pc := 48) rfl 0 rfl C dX4_tellBoat_48 ?_
    obtain ⟨hb, hD⟩ := hD
    refine g_iald (pc := 49) C u10 hb dX4_tellBoat_49 ?_
    refine g_callVl (pc := 50) (As := [.int (h6.1 (r l0 8) x5.toNatClampNeg), .int (h6.1 (r l0 9) x5.toNatClampNeg)]) C mv_RX4_163 (M_Rd_nameAt t0 hD) t0 (by decide) rfl rfl (Nat.le_of_ble_eq_true rfl) dX4_tellBoat_50 (fun x12 h11 hD => ?_)
    refine g_lstore_n (pc := 53) (fun _ => [(2, .long x12), (1, .int x5), (0, .ref l0)]) C dX4_tellBoat_53 rfl (by decide) rfl (fun _ _ => ?_)
    refine g_aload_n (pc := 54) rfl 2 rfl C dX4_tellBoat_54 ?_
    have u14 : TO Y (r l0 2) 0 := wt_o hw t0 (by decide) rfl
    refine g_getR (pc := 55) C fl_RX4_22 t0 rfl dX4_tellBoat_55 ?_
    refine g_lload_n (pc := 58) rfl 0 rfl C dX4_tellBoat_58 ?_
    refine g_callVi (pc := 59) (As := [.long x12]) C mv_RX4_167 (M_Bay_isNamed u14 hD) u14 (by decide) rfl rfl (Nat.le_of_ble_eq_true rfl) dX4_tellBoat_59 (fun x16 h15 hD => ?_)
    refine g_if_eq (pc := 62) 76 C dX4_tellBoat_62 (by decide) (fun c17 => ?_) (fun c17 => ?_)
    · have hD := hD.1 c17
      refine g_sub [2, 0] rfl ?_
      exact WJ_Rd_tellBoat_76 C R t0 hD
    · have hD := hD.2 c17
      refine g_aload_n (pc := 65) rfl 2 rfl C dX4_tellBoat_65 ?_
      refine g_iconst (pc := 66) (v := 3) (by decide) C dX4_tellBoat_66 ?_
      refine g_aload_n (pc := 67) rfl 2 rfl C dX4_tellBoat_67 ?_
      have u49 : TA Y (r l0 8) 10 401 := wt_a hw t0 (by decide) (by decide) rfl
      refine g_getR (pc := 68) C fl_RX4_42 t0 rfl dX4_tellBoat_68 ?_
      refine g_iload_n (pc := 71) rfl 1 rfl C dX4_tellBoat_71 ?_
      obtain ⟨hb, hD⟩ := hD
      refine g_iald (pc := 72) C u49 hb dX4_tellBoat_72 ?_
      refine g_callVv (pc := 73) (As := [.int 3, .int (h15.1 (r l0 8) x5.toNatClampNeg)]) C mv_RX4_64 (M_Rd_addFlaw t0 hD) t0 (by decide) rfl rfl (Nat.le_of_ble_eq_true rfl) dX4_tellBoat_73 (fun h50 hD => ?_)
      refine g_sub [2, 0] rfl ?_
      exact WJ_Rd_tellBoat_76 C R t0 hD
  · have hD := hD.2 c8
    exact g_vret (pc := 36) C R dX4_tellBoat_36 hD
def D_Rd_tellBoat (r : TR) (o : Nat) (h : TH) (Q : TH → Prop) : Prop :=
  (((h.1 (r o 2) 2) < 6 → DJ_Rd_tellBoat_17 r o h Q) ∧ (¬ (h.1 (r o 2) 2) < 6 → D_Rd_fail r o 2 h (fun h52 => DJ_Rd_tellBoat_17 r o h52 Q)))
set_option maxRecDepth 100000 in
set_option maxHeartbeats 4000000 in
theorem M_Rd_tellBoat {Y : CG} {r : TR} {l : Launch} {o : Nat} {h : TH} {Q : TH → Prop} (t0 : TO Y o 4) (hD : D_Rd_tellBoat r o h Q) : Mv Y r l yX4_tellBoat cX4_tellBoat 9 3 [.ref o] h Q := by
  unfold D_Rd_tellBoat at hD
  refine Mv.of RX4 rfl (by decide) (by simp [lg_sl, Value.category]) [(0, .ref o)] rfl (fun X hXl C R => ?_)
  subst hXl
  refine g_wt (fun hw => ?_)
  refine g_aload_n (pc := 0) rfl 0 rfl C dX4_tellBoat_0 ?_
  have u1 : TO Y (r o 2) 0 := wt_o hw t0 (by decide) rfl
  refine g_getR (pc := 1) C fl_RX4_22 t0 rfl dX4_tellBoat_1 ?_
  refine g_getI (pc := 4) C fl_RX4_160 u1 rfl dX4_tellBoat_4 ?_
  refine g_bipush (pc := 7) (v := 6) (by decide) C dX4_tellBoat_7 ?_
  refine g_icmp_lt (pc := 9) 17 C dX4_tellBoat_9 (by decide) (fun c2 => ?_) (fun c2 => ?_)
  · have hD := hD.1 c2
    refine g_sub [0] rfl ?_
    exact WJ_Rd_tellBoat_17 C R t0 hD
  · have hD := hD.2 c2
    refine g_aload_n (pc := 12) rfl 0 rfl C dX4_tellBoat_12 ?_
    refine g_iconst (pc := 13) (v := 2) (by decide) C dX4_tellBoat_13 ?_
    refine g_callVv (pc := 14) (As := [.int 2]) C mv_RX4_144 (M_Rd_fail t0 hD) t0 (by decide) rfl rfl (Nat.le_of_ble_eq_true rfl) dX4_tellBoat_14 (fun h52 hD => ?_)
    refine g_sub [0] rfl ?_
    exact WJ_Rd_tellBoat_17 C R t0 hD
