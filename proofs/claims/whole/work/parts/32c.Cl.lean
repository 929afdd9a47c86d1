def DB_Rd_tellLaw_27 (r : TR) (l0 : Nat) (l1 : Nat) (l2 : Int32) (h : TH) (K27 : Int32 → TH → Prop) (K117 : TH → Prop) (Q : TH → Prop) : Prop :=
  ((4 ≤ l2 → K117 h) ∧ (¬ 4 ≤ l2 → ((¬ (h.1 l0 4) = 0 → K117 h) ∧ ((h.1 l0 4) = 0 → ∀ i13 : Int32, i13 = h.1 l0 10 → vp_in i13 401 ∧ ((¬ (h.1 (r l0 7) i13.toNatClampNeg) = 11 → K117 h) ∧ ((h.1 (r l0 7) i13.toNatClampNeg) = 11 → D_Rd_need r l0 11 h (fun x16 h15 => SumN r 8 l0 l1 0 h15 (fun h17 => D_Law_endPiece r l1 h17 (fun h19 => D_Rd_need r l0 29 h19 (fun x22 h21 => SumN r 8 l0 l1 0 h21 (fun h23 => D_Law_endPiece r l1 h23 (fun h25 => D_Rd_need r l0 12 h25 (fun x28 h27 => SumN r 8 l0 l1 0 h27 (fun h29 => D_Law_endPiece r l1 h29 (fun h31 => D_Rd_need r l0 13 h31 (fun x34 h33 => ∀ x35 : Int32, x35 = l2 + 1 → K27 x35 h33))))))))))))))))
set_option maxRecDepth 100000 in
set_option maxHeartbeats 4000000 in
theorem WB_Rd_tellLaw_27 {Y : CG} {X : CX} {r : TR} {l0 : Nat} {l1 : Nat} {l2 : Int32} {h : TH} {K27 : Int32 → TH → Prop} {K117 : TH → Prop} {Q : TH → Prop} (C : Gd Y X cX4_tellLaw 3 RX4 34) (R : Rv Y r X Q) (t0 : TO Y l0 4) (t1 : TO Y l1 1) (hK27 : ∀ (k2 : Int32) (hh : TH), K27 k2 hh → G Y X 3 27 [(0, .ref l0), (1, .ref l1), (2, .int k2)] [] r hh) (hK117 : ∀ (hh : TH), K117 hh → G Y X 3 117 [(0, .ref l0), (1, .ref l1)] [] r hh) (hD : DB_Rd_tellLaw_27 r l0 l1 l2 h K27 K117 Q) : G Y X 3 27 [(0, .ref l0), (1, .ref l1), (2, .int l2)] [] r h := by
  unfold DB_Rd_tellLaw_27 at hD
  refine g_wt (fun hw => ?_)
  refine g_iload_n (pc := 27) rfl 2 rfl C dX4_tellLaw_27 ?_
  refine g_iconst (pc := 28) (v := 4) (by decide) C dX4_tellLaw_28 ?_
  refine g_icmp_ge (pc := 29) 117 C dX4_tellLaw_29 (by decide) (fun c10 => ?_) (fun c10 => ?_)
  · have hD := hD.1 c10
    refine g_sub [0, 1] rfl ?_
    exact hK117 h hD
  · have hD := hD.2 c10
    refine g_aload_n (pc := 32) rfl 0 rfl C dX4_tellLaw_32 ?_
    refine g_getI (pc := 33) C fl_RX4_29 t0 rfl dX4_tellLaw_33 ?_
    refine g_if_ne (pc := 36) 117 C dX4_tellLaw_36 (by decide) (fun c11 => ?_) (fun c11 => ?_)
    · have hD := hD.1 c11
      refine g_sub [0, 1] rfl ?_
      exact hK117 h hD
    · have hD := hD.2 c11
      refine g_aload_n (pc := 39) rfl 0 rfl C dX4_tellLaw_39 ?_
      have u12 : TA Y (r l0 7) 10 401 := wt_a hw t0 (by decide) (by decide) rfl
      refine g_getR (pc := 40) C fl_RX4_38 t0 rfl dX4_tellLaw_40 ?_
      refine g_aload_n (pc := 43) rfl 0 rfl C dX4_tellLaw_43 ?_
      refine g_getI (pc := 44) C fl_RX4_48 t0 rfl dX4_tellLaw_44 ?_
      refine g_topi (fun i13 ei13 => ?_)
      have hD := hD i13 ei13
      obtain ⟨hb, hD⟩ := hD
      refine g_iald (pc := 47) C u12 hb dX4_tellLaw_47 ?_
      refine g_bipush (pc := 48) (v := 11) (by decide) C dX4_tellLaw_48 ?_
      refine g_icmp_ne (pc := 50) 117 C dX4_tellLaw_50 (by decide) (fun c14 => ?_) (fun c14 => ?_)
      · have hD := hD.1 c14
        refine g_sub [0, 1] rfl ?_
        exact hK117 h hD
      · have hD := hD.2 c14
        refine g_aload_n (pc := 53) rfl 0 rfl C dX4_tellLaw_53 ?_
        refine g_bipush (pc := 54) (v := 11) (by decide) C dX4_tellLaw_54 ?_
        refine g_callVi (pc := 56) (As := [.int 11]) C mv_RX4_132 (M_Rd_need t0 hD) t0 (by decide) rfl rfl (Nat.le_of_ble_eq_true rfl) dX4_tellLaw_56 (fun x16 h15 hD => ?_)
        refine g_pop (pc := 59) rfl C dX4_tellLaw_59 ?_
        refine g_aload_n (pc := 60) rfl 0 rfl C dX4_tellLaw_60 ?_
        refine g_aload_n (pc := 61) rfl 1 rfl C dX4_tellLaw_61 ?_
        refine g_iconst (pc := 62) (v := 0) (by decide) C dX4_tellLaw_62 ?_
        refine g_callVv (pc := 63) (As := [.ref l1, .int 0]) C mv_RX4_194 (M_SumN 8 t0 t1 hD) t0 (by decide) rfl rfl (Nat.le_of_ble_eq_true rfl) dX4_tellLaw_63 (fun h17 hD => ?_)
        refine g_aload_n (pc := 66) rfl 1 rfl C dX4_tellLaw_66 ?_
        refine g_callVv (pc := 67) (As := []) C mv_RX4_198 (M_Law_endPiece t1 hD) t1 (by decide) rfl rfl (Nat.le_of_ble_eq_true rfl) dX4_tellLaw_67 (fun h19 hD => ?_)
        refine g_aload_n (pc := 70) rfl 0 rfl C dX4_tellLaw_70 ?_
        refine g_bipush (pc := 71) (v := 29) (by decide) C dX4_tellLaw_71 ?_
        refine g_callVi (pc := 73) (As := [.int 29]) C mv_RX4_132 (M_Rd_need t0 hD) t0 (by decide) rfl rfl (Nat.le_of_ble_eq_true rfl) dX4_tellLaw_73 (fun x22 h21 hD => ?_)
        refine g_pop (pc := 76) rfl C dX4_tellLaw_76 ?_
        refine g_aload_n (pc := 77) rfl 0 rfl C dX4_tellLaw_77 ?_
        refine g_aload_n (pc := 78) rfl 1 rfl C dX4_tellLaw_78 ?_
        refine g_iconst (pc := 79) (v := 0) (by decide) C dX4_tellLaw_79 ?_
        refine g_callVv (pc := 80) (As := [.ref l1, .int 0]) C mv_RX4_194 (M_SumN 8 t0 t1 hD) t0 (by decide) rfl rfl (Nat.le_of_ble_eq_true rfl) dX4_tellLaw_80 (fun h23 hD => ?_)
        refine g_aload_n (pc := 83) rfl 1 rfl C dX4_tellLaw_83 ?_
        refine g_callVv (pc := 84) (As := []) C mv_RX4_198 (M_Law_endPiece t1 hD) t1 (by decide) rfl rfl (Nat.le_of_ble_eq_true rfl) dX4_tellLaw_84 (fun h25 hD => ?_)
        refine g_aload_n (pc := 87) rfl 0 rfl C dX4_tellLaw_87 ?_
        refine g_bipush (pc := 88) (v := 12) (by decide) C dX4_tellLaw_88 ?_
        refine g_callVi (pc := 90) (As := [.int 12]) C mv_RX4_132 (M_Rd_need t0 hD) t0 (by decide) rfl rfl (Nat.le_of_ble_eq_true rfl) dX4_tellLaw_90 (fun x28 h27 hD => ?_)
        refine g_pop (pc := 93) rfl C dX4_tellLaw_93 ?_
        refine g_aload_n (pc := 94) rfl 0 rfl C dX4_tellLaw_94 ?_
        refine g_aload_n (pc := 95) rfl 1 rfl C dX4_tellLaw_95 ?_
        refine g_iconst (pc := 96) (v := 0) (by decide) C dX4_tellLaw_96 ?_
        refine g_callVv (pc := 97) (As := [.ref l1, .int 0]) C mv_RX4_194 (M_SumN 8 t0 t1 hD) t0 (by decide) rfl rfl (Nat.le_of_ble_eq_true rfl) dX4_tellLaw_97 (fun h29 hD => ?_)
        refine g_aload_n (pc := 100) rfl 1 rfl C dX4_tellLaw_100 ?_
        refine g_callVv (pc := 101) (As := []) C mv_RX4_198 (M_Law_endPiece t1 hD) t1 (by decide) rfl rfl (Nat.le_of_ble_eq_true rfl) dX4_tellLaw_101 (fun h31 hD => ?_)
        refine g_aload_n (pc := 104) rfl 0 rfl C dX4_tellLaw_104 ?_
        refine g_bipush (pc := 105) (v := 13) (by decide) C dX4_tellLaw_105 ?_
        refine g_callVi (pc := 107) (As := [.int 13]) C mv_RX4_132 (M_Rd_need t0 hD) t0 (by decide) rfl rfl (Nat.le_of_ble_eq_true rfl) dX4_tellLaw_107 (fun x34 h33 hD => ?_)
        refine g_pop (pc := 110) rfl C dX4_tellLaw_110 ?_
        refine g_iinc (pc := 111) (q := 2) (c := 1) (fun x35 => [(2, .int x35), (0, .ref l0), (1, .ref l1)]) C dX4_tellLaw_111 rfl (by decide) (by decide) rfl (fun x35 ex35 => ?_)
        have hD := hD x35 ex35
        refine g_goto (pc := 114) 27 C dX4_tellLaw_114 (by decide) ?_
        refine g_sub [1, 2, 0] rfl ?_
        exact hK27 x35 h33 hD
def DJ_Rd_tellLaw_117 (r : TR) (l0 : Nat) (l1 : Nat) (h : TH) (Q : TH → Prop) : Prop :=
  ∀ i40 : Int32, i40 = h.1 l0 10 → vp_in i40 401 ∧ ((¬ (h.1 (r l0 7) i40.toNatClampNeg) = 11 → SumN r 8 l0 l1 0 h (fun h42 => D_Law_endPiece r l1 h42 (fun h44 => Q h44))) ∧ ((h.1 (r l0 7) i40.toNatClampNeg) = 11 → D_Rd_fail r l0 2 h (fun h46 => SumN r 8 l0 l1 0 h46 (fun h48 => D_Law_endPiece r l1 h48 (fun h50 => Q h50)))))
set_option maxRecDepth 100000 in
set_option maxHeartbeats 4000000 in
theorem WJ_Rd_tellLaw_117 {Y : CG} {X : CX} {r : TR} {l0 : Nat} {l1 : Nat} {h : TH} {Q : TH → Prop} (C : Gd Y X cX4_tellLaw 3 RX4 34) (R : Rv Y r X Q) (t0 : TO Y l0 4) (t1 : TO Y l1 1) (hD : DJ_Rd_tellLaw_117 r l0 l1 h  Q) : G Y X 3 117 [(0, .ref l0), (1, .ref l1)] [] r h := by
  unfold DJ_Rd_tellLaw_117 at hD
  refine g_wt (fun hw => ?_)
  refine g_aload_n (pc := 117) rfl 0 rfl C dX4_tellLaw_117 ?_
  have u39 : TA Y (r l0 7) 10 401 := wt_a hw t0 (by decide) (by decide) rfl
  refine g_getR (pc := 118) C fl_RX4_38 t0 rfl dX4_tellLaw_118 ?_
  refine g_aload_n (pc := 121) rfl 0 rfl C dX4_tellLaw_121 ?_
  refine g_getI (pc := 122) C fl_RX4_48 t0 rfl dX4_tellLaw_122 ?_
  refine g_topi (fun i40 ei40 => ?_)
  have hD := hD i40 ei40
  obtain ⟨hb, hD⟩ := hD
  refine g_iald (pc := 125) C u39 hb dX4_tellLaw_125 ?_
  refine g_bipush (pc := 126) (v := 11) (by decide) C dX4_tellLaw_126 ?_
  refine g_icmp_ne (pc := 128) 136 C dX4_tellLaw_128 (by decide) (fun c41 => ?_) (fun c41 => ?_)
  · have hD := hD.1 c41
    refine g_aload_n (pc := 136) rfl 0 rfl C dX4_tellLaw_136 ?_
    refine g_aload_n (pc := 137) rfl 1 rfl C dX4_tellLaw_137 ?_
    refine g_iconst (pc := 138) (v := 0) (by decide) C dX4_tellLaw_138 ?_
    refine g_callVv (pc := 139) (As := [.ref l1, .int 0]) C mv_RX4_194 (M_SumN 8 t0 t1 hD) t0 (by decide) rfl rfl (Nat.le_of_ble_eq_true rfl) dX4_tellLaw_139 (fun h42 hD => ?_)
    refine g_aload_n (pc := 142) rfl 1 rfl C dX4_tellLaw_142 ?_
    refine g_callVv (pc := 143) (As := []) C mv_RX4_198 (M_Law_endPiece t1 hD) t1 (by decide) rfl rfl (Nat.le_of_ble_eq_true rfl) dX4_tellLaw_143 (fun h44 hD => ?_)
    exact g_vret (pc := 146) C R dX4_tellLaw_146 hD
  · have hD := hD.2 c41
    refine g_aload_n (pc := 131) rfl 0 rfl C dX4_tellLaw_131 ?_
    refine g_iconst (pc := 132) (v := 2) (by decide) C dX4_tellLaw_132 ?_
    refine g_callVv (pc := 133) (As := [.int 2]) C mv_RX4_144 (M_Rd_fail t0 hD) t0 (by decide) rfl rfl (Nat.le_of_ble_eq_true rfl) dX4_tellLaw_133 (fun h46 hD => ?_)
    refine g_aload_n (pc := 136) rfl 0 rfl C dX4_tellLaw_136 ?_
    refine g_aload_n (pc := 137) rfl 1 rfl C dX4_tellLaw_137 ?_
    refine g_iconst (pc := 138) (v := 0) (by decide) C dX4_tellLaw_138 ?_
    refine g_callVv (pc := 139) (As := [.ref l1, .int 0]) C mv_RX4_194 (M_SumN 8 t0 t1 hD) t0 (by decide) rfl rfl (Nat.le_of_ble_eq_true rfl) dX4_tellLaw_139 (fun h48 hD => ?_)
    refine g_aload_n (pc := 142) rfl 1 rfl C dX4_tellLaw_142 ?_
    refine g_callVv (pc := 143) (As := []) C mv_RX4_198 (M_Law_endPiece t1 hD) t1 (by decide) rfl rfl (Nat.le_of_ble_eq_true rfl) dX4_tellLaw_143 (fun h50 hD => ?_)
    exact g_vret (pc := 146) C R dX4_tellLaw_146 hD
def D_Rd_tellLaw (r : TR) (o : Nat) (a1 : Nat) (h : TH) (Q : TH → Prop) : Prop :=
  ∀ i2 : Int32, i2 = h.1 o 10 → vp_in i2 401 ∧ D_Rd_need r o (h.1 (r o 7) i2.toNatClampNeg) h (fun x4 h3 => D_Rd_need r o 24 h3 (fun x6 h5 => D_Law_clear r a1 h5 (fun h7 => ∃ n, lp (fun (K : Int32 × TH → Prop) (s : Int32 × TH) => DB_Rd_tellLaw_27 r o a1 s.1 s.2 (fun y36 h37 => K (y36, h37)) (fun h38 => DJ_Rd_tellLaw_117 r o a1 h38 Q) Q) n (0, h7))))
set_option maxRecDepth 100000 in
set_option maxHeartbeats 4000000 in
theorem M_Rd_tellLaw {Y : CG} {r : TR} {l : Launch} {o : Nat} {a1 : Nat} {h : TH} {Q : TH → Prop} (t0 : TO Y o 4) (t1 : TO Y a1 1) (hD : D_Rd_tellLaw r o a1 h Q) : Mv Y r l yX4_tellLaw cX4_tellLaw 3 34 [.ref o, .ref a1] h Q := by
  unfold D_Rd_tellLaw at hD
  refine Mv.of RX4 rfl (by decide) (by simp [lg_sl, Value.category]) [(0, .ref o), (1, .ref a1)] rfl (fun X hXl C R => ?_)
  subst hXl
  refine g_wt (fun hw => ?_)
  refine g_aload_n (pc := 0) rfl 0 rfl C dX4_tellLaw_0 ?_
  refine g_aload_n (pc := 1) rfl 0 rfl C dX4_tellLaw_1 ?_
  have u1 : TA Y (r o 7) 10 401 := wt_a hw t0 (by decide) (by decide) rfl
  refine g_getR (pc := 2) C fl_RX4_38 t0 rfl dX4_tellLaw_2 ?_
  refine g_aload_n (pc := 5) rfl 0 rfl C dX4_tellLaw_5 ?_
  refine g_getI (pc := 6) C fl_RX4_48 t0 rfl dX4_tellLaw_6 ?_
  refine g_topi (fun i2 ei2 => ?_)
  have hD := hD i2 ei2
  obtain ⟨hb, hD⟩ := hD
  refine g_iald (pc := 9) C u1 hb dX4_tellLaw_9 ?_
  refine g_callVi (pc := 10) (As := [.int (h.1 (r o 7) i2.toNatClampNeg)]) C mv_RX4_132 (M_Rd_need t0 hD) t0 (by decide) rfl rfl (Nat.le_of_ble_eq_true rfl) dX4_tellLaw_10 (fun x4 h3 hD => ?_)
  refine g_pop (pc := 13) rfl C dX4_tellLaw_13 ?_
  refine g_aload_n (pc := 14) rfl 0 rfl C dX4_tellLaw_14 ?_
  refine g_bipush (pc := 15) (v := 24) (by decide) C dX4_tellLaw_15 ?_
  refine g_callVi (pc := 17) (As := [.int 24]) C mv_RX4_132 (M_Rd_need t0 hD) t0 (by decide) rfl rfl (Nat.le_of_ble_eq_true rfl) dX4_tellLaw_17 (fun x6 h5 hD => ?_)
  refine g_pop (pc := 20) rfl C dX4_tellLaw_20 ?_
  refine g_aload_n (pc := 21) rfl 1 rfl C dX4_tellLaw_21 ?_
  refine g_callVv (pc := 22) (As := []) C mv_RX4_191 (M_Law_clear t1 hD) t1 (by decide) rfl rfl (Nat.le_of_ble_eq_true rfl) dX4_tellLaw_22 (fun h7 hD => ?_)
  refine g_iconst (pc := 25) (v := 0) (by decide) C dX4_tellLaw_25 ?_
  refine g_istore_n (pc := 26) (fun _ => [(2, .int 0), (0, .ref o), (1, .ref a1)]) C dX4_tellLaw_26 rfl (by decide) rfl (fun _ _ => ?_)
  obtain ⟨n, hD⟩ := hD
  refine g_sub [1, 2, 0] rfl ?_
  refine lp_run (fun s : Int32 × TH => G Y X 3 27 [(0, .ref o), (1, .ref a1), (2, .int s.1)] [] r s.2) (fun K s hB hK => ?_) n (0, h7) hD
  refine WB_Rd_tellLaw_27 C R t0 t1 (fun y36 h37 hk => hK _ hk) (fun h38 hD => ?_) hB
  · refine g_sub [0, 1] rfl ?_
    exact WJ_Rd_tellLaw_117 C R t0 t1 hD
def DJ_Rd_tellRow_16 (r : TR) (l0 : Nat) (h : TH) (Q : TH → Prop) : Prop :=
  D_Rd_need r l0 4 h (fun x4 h3 => ∀ x5 : Int32, x5 = h3.1 l0 10 → D_Rd_need r l0 2 h3 (fun x7 h6 => ((x7 = 0 → Q h6) ∧ (¬ x7 = 0 → vp_in x5 401 ∧ vp_in x5 401 ∧ D_Rd_addRow r l0 (h6.1 (r l0 8) x5.toNatClampNeg) (h6.1 (r l0 9) x5.toNatClampNeg) h6 (fun h11 => Q h11)))))
set_option maxRecDepth 100000 in
set_option maxHeartbeats 4000000 in
theorem WJ_Rd_tellRow_16 {Y : CG} {X : CX} {r : TR} {l0 : Nat} {h : TH} {Q : TH → Prop} (C : Gd Y X cX4_tellRow 2 RX4 6) (R : Rv Y r X Q) (t0 : TO Y l0 4) (hD : DJ_Rd_tellRow_16 r l0 h  Q) : G Y X 2 16 [(0, .ref l0)] [] r h := by
  unfold DJ_Rd_tellRow_16 at hD
  refine g_wt (fun hw => ?_)
  refine g_aload_n (pc := 16) rfl 0 rfl C dX4_tellRow_16 ?_
  refine g_iconst (pc := 17) (v := 4) (by decide) C dX4_tellRow_17 ?_
  refine g_callVi (pc := 18) (As := [.int 4]) C mv_RX4_132 (M_Rd_need t0 hD) t0 (by decide) rfl rfl (Nat.le_of_ble_eq_true rfl) dX4_tellRow_18 (fun x4 h3 hD => ?_)
  refine g_pop (pc := 21) rfl C dX4_tellRow_21 ?_
  refine g_aload_n (pc := 22) rfl 0 rfl C dX4_tellRow_22 ?_
  refine g_getI (pc := 23) C fl_RX4_48 t0 rfl dX4_tellRow_23 ?_
  refine g_istore_n (pc := 26) (fun x5 => [(1, .int x5), (0, .ref l0)]) C dX4_tellRow_26 rfl (by decide) rfl (fun x5 ex5 => ?_)
  have hD := hD x5 ex5
  refine g_aload_n (pc := 27) rfl 1 rfl C dX4_tellRow_27 ?_
  refine g_iconst (pc := 28) (v := 2) (by decide) C dX4_tellRow_28 ?_
  refine g_callVi (pc := 29) (As := [.int 2]) C mv_RX4_132 (M_Rd_need t0 hD) t0 (by decide) rfl rfl (Nat.le_of_ble_eq_true rfl) dX4_tellRow_29 (fun x7 h6 hD => ?_)
  refine g_if_eq (pc := 32) 51 C dX4_tellRow_32 (by decide) (fun c8 => ?_) (fun c8 => ?_)
  · have hD := hD.1 c8
    exact g_vret (pc := 51) C R dX4_tellRow_51 hD
  · have hD := hD.2 c8
    refine g_aload_n (pc := 35) rfl 1 rfl C dX4_tellRow_35 ?_
    refine g_aload_n (pc := 36) rfl 1 rfl C dX4_tellRow_36 ?_
    have u9 : TA Y (r l0 8) 10 401 := wt_a hw t0 (by decide) (by decide) rfl
    refine g_getR (pc := 37) C fl_RX4_42 t0 rfl dX4_tellRow_37 ?_
    refine g_iload_n (pc := 40) rfl 0 rfl C dX4_tellRow_40 ?_
    obtain ⟨hb, hD⟩ := hD
    refine g_iald (pc := 41) C u9 hb dX4_tellRow_41 ?_
    refine g_aload_n (pc := 42) rfl 1 rfl C dX4_tellRow_42 ?_
    have u10 : TA Y (r l0 9) 10 401 := wt_a hw t0 (by decide) (by decide) rfl
    refine g_getR (pc := 43) C fl_RX4_45 t0 rfl dX4_tellRow_43 ?_
    refine g_iload_n (pc := 46) rfl 0 rfl C dX4_tellRow_46 ?_
    obtain ⟨hb, hD⟩ := hD
    refine g_iald (pc := 47) C u10 hb dX4_tellRow_47 ?_
    refine g_callVv (pc := 48) (As := [.int (h6.1 (r l0 8) x5.toNatClampNeg), .int (h6.1 (r l0 9) x5.toNatClampNeg)]) C mv_RX4_151 (M_Rd_addRow t0 hD) t0 (by decide) rfl rfl (Nat.le_of_ble_eq_true rfl) dX4_tellRow_48 (fun h11 hD => ?_)
    exact g_vret (pc := 51) C R dX4_tellRow_51 hD
def D_Rd_tellRow (r : TR) (o : Nat) (h : TH) (Q : TH → Prop) : Prop :=
  (((h.1 (r o 2) 1) < 5 → DJ_Rd_tellRow_16 r o h Q) ∧ (¬ (h.1 (r o 2) 1) < 5 → D_Rd_fail r o 2 h (fun h13 => DJ_Rd_tellRow_16 r o h13 Q)))
set_option maxRecDepth 100000 in
set_option maxHeartbeats 4000000 in
theorem M_Rd_tellRow {Y : CG} {r : TR} {l : Launch} {o : Nat} {h : TH} {Q : TH → Prop} (t0 : TO Y o 4) (hD : D_Rd_tellRow r o h Q) : Mv Y r l yX4_tellRow cX4_tellRow 2 6 [.ref o] h Q := by
  unfold D_Rd_tellRow at hD
  refine Mv.of RX4 rfl (by decide) (by simp [lg_sl, Value.category]) [(0, .ref o)] rfl (fun X hXl C R => ?_)
  subst hXl
  refine g_wt (fun hw => ?_)
  refine g_aload_n (pc := 0) rfl 0 rfl C dX4_tellRow_0 ?_
  have u1 : TO Y (r o 2) 0 := wt_o hw t0 (by decide) rfl
  refine g_getR (pc := 1) C fl_RX4_22 t0 rfl dX4_tellRow_1 ?_
  refine g_getI (pc := 4) C fl_RX4_148 u1 rfl dX4_tellRow_4 ?_
  refine g_iconst (pc := 7) (v := 5) (by decide) C dX4_tellRow_7 ?_
  refine g_icmp_lt (pc := 8) 16 C dX4_tellRow_8 (by decide) (fun c2 => ?_) (fun c2 => ?_)
  · have hD := hD.1 c2
    refine g_sub [0] rfl ?_
    exact WJ_Rd_tellRow_16 C R t0 hD
  · have hD := hD.2 c2
    refine g_aload_n (pc := 11) rfl 0 rfl C dX4_tellRow_11 ?_
    refine g_iconst (pc := 12) (v := 2) (by decide) C dX4_tellRow_12 ?_
    refine g_callVv (pc := 13) (As := [.int 2]) C mv_RX4_144 (M_Rd_fail t0 hD) t0 (by decide) rfl rfl (Nat.le_of_ble_eq_true rfl) dX4_tellRow_13 (fun h13 hD => ?_)
    refine g_sub [0] rfl ?_
    exact WJ_Rd_tellRow_16 C R t0 hD
def D_Rd_tellOne (r : TR) (o : Nat) (h : TH) (Q : TH → Prop) : Prop :=
  ∀ i2 : Int32, i2 = h.1 o 10 → vp_in i2 401 ∧ (((h.1 (r o 7) i2.toNatClampNeg) = 4 → D_Rd_tellRow r o h (fun h4 => D_Rd_need r o 23 h4 (fun x7 h6 => Q h6))) ∧ (¬ (h.1 (r o 7) i2.toNatClampNeg) = 4 → (((h.1 (r o 7) i2.toNatClampNeg) = 5 → D_Rd_tellBoat r o h (fun h9 => D_Rd_need r o 23 h9 (fun x12 h11 => Q h11))) ∧ (¬ (h.1 (r o 7) i2.toNatClampNeg) = 5 → (((h.1 (r o 7) i2.toNatClampNeg) = 6 → D_Rd_tellLaw r o (r (r o 2) 12) h (fun h16 => D_Rd_need r o 23 h16 (fun x19 h18 => Q h18))) ∧ (¬ (h.1 (r o 7) i2.toNatClampNeg) = 6 → (((h.1 (r o 7) i2.toNatClampNeg) = 7 → D_Rd_tellLaw r o (r (r o 2) 13) h (fun h23 => D_Rd_need r o 23 h23 (fun x26 h25 => Q h25))) ∧ (¬ (h.1 (r o 7) i2.toNatClampNeg) = 7 → (((h.1 (r o 7) i2.toNatClampNeg) = 8 → D_Rd_tellLaw r o (r (r o 2) 14) h (fun h30 => D_Rd_need r o 23 h30 (fun x33 h32 => Q h32))) ∧ (¬ (h.1 (r o 7) i2.toNatClampNeg) = 8 → (((h.1 (r o 7) i2.toNatClampNeg) = 9 → D_Rd_need r o 9 h (fun x36 h35 => D_Rd_number r o 100 h35 (fun x39 h38 => ∀ h40, h40 = pI h38 (r o 2) 3 x39 → D_Rd_need r o 23 h40 (fun x42 h41 => Q h41)))) ∧ (¬ (h.1 (r o 7) i2.toNatClampNeg) = 9 → (((h.1 (r o 7) i2.toNatClampNeg) = 10 → D_Rd_need r o 10 h (fun x45 h44 => D_Rd_number r o 9999 h44 (fun x48 h47 => ∀ h49, h49 = pI h47 (r o 2) 4 x48 → D_Rd_need r o 23 h49 (fun x51 h50 => Q h50)))) ∧ (¬ (h.1 (r o 7) i2.toNatClampNeg) = 10 → D_Rd_fail r o 1 h (fun h52 => D_Rd_need r o 23 h52 (fun x55 h54 => Q h54))))))))))))))))
set_option maxRecDepth 100000 in
set_option maxHeartbeats 4000000 in
theorem M_Rd_tellOne {Y : CG} {r : TR} {l : Launch} {o : Nat} {h : TH} {Q : TH → Prop} (t0 : TO Y o 4) (hD : D_Rd_tellOne r o h Q) : Mv Y r l yX4_tellOne cX4_tellOne 1 35 [.ref o] h Q := by
  unfold D_Rd_tellOne at hD
  refine Mv.of RX4 rfl (by decide) (by simp [lg_sl, Value.category]) [(0, .ref o)] rfl (fun X hXl C R => ?_)
  subst hXl
  refine g_wt (fun hw => ?_)
  refine g_aload_n (pc := 0) rfl 0 rfl C dX4_tellOne_0 ?_
  have u1 : TA Y (r o 7) 10 401 := wt_a hw t0 (by decide) (by decide) rfl
  refine g_getR (pc := 1) C fl_RX4_38 t0 rfl dX4_tellOne_1 ?_
  refine g_aload_n (pc := 4) rfl 0 rfl C dX4_tellOne_4 ?_
  refine g_getI (pc := 5) C fl_RX4_48 t0 rfl dX4_tellOne_5 ?_
  refine g_topi (fun i2 ei2 => ?_)
  have hD := hD i2 ei2
  obtain ⟨hb, hD⟩ := hD
  refine g_iald (pc := 8) C u1 hb dX4_tellOne_8 ?_
  by_cases c3 : (h.1 (r o 7) i2.toNatClampNeg) = 4
  · have hD := hD.1 c3
    refine g_tswIn (pc := 9) 52 C dX4_tellOne_9 4 c3 (by decide) (by decide) rfl (by decide) ?_
    refine g_aload_n (pc := 52) rfl 0 rfl C dX4_tellOne_52 ?_
    refine g_callVv (pc := 53) (As := []) C mv_RX4_112 (M_Rd_tellRow t0 hD) t0 (by decide) rfl rfl (Nat.le_of_ble_eq_true rfl) dX4_tellOne_53 (fun h4 hD => ?_)
    refine g_goto (pc := 56) 160 C dX4_tellOne_56 (by decide) ?_
    refine g_aload_n (pc := 160) rfl 0 rfl C dX4_tellOne_160 ?_
    refine g_bipush (pc := 161) (v := 23) (by decide) C dX4_tellOne_161 ?_
    refine g_callVi (pc := 163) (As := [.int 23]) C mv_RX4_132 (M_Rd_need t0 hD) t0 (by decide) rfl rfl (Nat.le_of_ble_eq_true rfl) dX4_tellOne_163 (fun x7 h6 hD => ?_)
    refine g_pop (pc := 166) rfl C dX4_tellOne_166 ?_
    exact g_vret (pc := 167) C R dX4_tellOne_167 hD
  have hD := hD.2 c3
  by_cases c8 : (h.1 (r o 7) i2.toNatClampNeg) = 5
  · have hD := hD.1 c8
    refine g_tswIn (pc := 9) 59 C dX4_tellOne_9 5 c8 (by decide) (by decide) rfl (by decide) ?_
    refine g_aload_n (pc := 59) rfl 0 rfl C dX4_tellOne_59 ?_
    refine g_callVv (pc := 60) (As := []) C mv_RX4_115 (M_Rd_tellBoat t0 hD) t0 (by decide) rfl rfl (Nat.le_of_ble_eq_true rfl) dX4_tellOne_60 (fun h9 hD => ?_)
    refine g_goto (pc := 63) 160 C dX4_tellOne_63 (by decide) ?_
    refine g_aload_n (pc := 160) rfl 0 rfl C dX4_tellOne_160 ?_
    refine g_bipush (pc := 161) (v := 23) (by decide) C dX4_tellOne_161 ?_
    refine g_callVi (pc := 163) (As := [.int 23]) C mv_RX4_132 (M_Rd_need t0 hD) t0 (by decide) rfl rfl (Nat.le_of_ble_eq_true rfl) dX4_tellOne_163 (fun x12 h11 hD => ?_)
    refine g_pop (pc := 166) rfl C dX4_tellOne_166 ?_
    exact g_vret (pc := 167) C R dX4_tellOne_167 hD
  have hD := hD.2 c8
  by_cases c13 : (h.1 (r o 7) i2.toNatClampNeg) = 6
  · have hD := hD.1 c13
    refine g_tswIn (pc := 9) 66 C dX4_tellOne_9 6 c13 (by decide) (by decide) rfl (by decide) ?_
    refine g_aload_n (pc := 66) rfl 0 rfl C dX4_tellOne_66 ?_
    refine g_aload_n (pc := 67) rfl 0 rfl C dX4_tellOne_67 ?_
    have u14 : TO Y (r o 2) 0 := wt_o hw t0 (by decide) rfl
    refine g_getR (pc := 68) C fl_RX4_22 t0 rfl dX4_tellOne_68 ?_
    have u15 : TO Y (r (r o 2) 12) 1 := wt_o hw u14 (by decide) rfl
    refine g_getR (pc := 71) C fl_RX4_118 u14 rfl dX4_tellOne_71 ?_
    refine g_callVv (pc := 74) (As := [.ref (r (r o 2) 12)]) C mv_RX4_122 (M_Rd_tellLaw t0 u15 hD) t0 (by decide) rfl rfl (Nat.le_of_ble_eq_true rfl) dX4_tellOne_74 (fun h16 hD => ?_)
    refine g_goto (pc := 77) 160 C dX4_tellOne_77 (by decide) ?_
    refine g_aload_n (pc := 160) rfl 0 rfl C dX4_tellOne_160 ?_
    refine g_bipush (pc := 161) (v := 23) (by decide) C dX4_tellOne_161 ?_
    refine g_callVi (pc := 163) (As := [.int 23]) C mv_RX4_132 (M_Rd_need t0 hD) t0 (by decide) rfl rfl (Nat.le_of_ble_eq_true rfl) dX4_tellOne_163 (fun x19 h18 hD => ?_)
    refine g_pop (pc := 166) rfl C dX4_tellOne_166 ?_
    exact g_vret (pc := 167) C R dX4_tellOne_167 hD
  have hD := hD.2 c13
  by_cases c20 : (h.1 (r o 7) i2.toNatClampNeg) = 7
  · have hD := hD.1 c20
    refine g_tswIn (pc := 9) 80 C dX4_tellOne_9 7 c20 (by decide) (by decide) rfl (by decide) ?_
    refine g_aload_n (pc := 80) rfl 0 rfl C dX4_tellOne_80 ?_
    refine g_aload_n (pc := 81) rfl 0 rfl C dX4_tellOne_81 ?_
    have u21 : TO Y (r o 2) 0 := wt_o hw t0 (by decide) rfl
    refine g_getR (pc := 82) C fl_RX4_22 t0 rfl dX4_tellOne_82 ?_
    have u22 : TO Y (r (r o 2) 13) 1 := wt_o hw u21 (by decide) rfl
    refine g_getR (pc := 85) C fl_RX4_126 u21 rfl dX4_tellOne_85 ?_
    refine g_callVv (pc := 88) (As := [.ref (r (r o 2) 13)]) C mv_RX4_122 (M_Rd_tellLaw t0 u22 hD) t0 (by decide) rfl rfl (Nat.le_of_ble_eq_true rfl) dX4_tellOne_88 (fun h23 hD => ?_)
    refine g_goto (pc := 91) 160 C dX4_tellOne_91 (by decide) ?_
    refine g_aload_n (pc := 160) rfl 0 rfl C dX4_tellOne_160 ?_
    refine g_bipush (pc := 161) (v := 23) (by decide) C dX4_tellOne_161 ?_
    refine g_callVi (pc := 163) (As := [.int 23]) C mv_RX4_132 (M_Rd_need t0 hD) t0 (by decide) rfl rfl (Nat.le_of_ble_eq_true rfl) dX4_tellOne_163 (fun x26 h25 hD => ?_)
    refine g_pop (pc := 166) rfl C dX4_tellOne_166 ?_
    exact g_vret (pc := 167) C R dX4_tellOne_167 hD
  have hD := hD.2 c20
  by_cases c27 : (h.1 (r o 7) i2.toNatClampNeg) = 8
  · have hD := hD.1 c27
    refine g_tswIn (pc := 9) 94 C dX4_tellOne_9 8 c27 (by decide) (by decide) rfl (by decide) ?_
    refine g_aload_n (pc := 94) rfl 0 rfl C dX4_tellOne_94 ?_
    refine g_aload_n (pc := 95) rfl 0 rfl C dX4_tellOne_95 ?_
    have u28 : TO Y (r o 2) 0 := wt_o hw t0 (by decide) rfl
    refine g_getR (pc := 96) C fl_RX4_22 t0 rfl dX4_tellOne_96 ?_
    have u29 : TO Y (r (r o 2) 14) 1 := wt_o hw u28 (by decide) rfl
    refine g_getR (pc := 99) C fl_RX4_129 u28 rfl dX4_tellOne_99 ?_
    refine g_callVv (pc := 102) (As := [.ref (r (r o 2) 14)]) C mv_RX4_122 (M_Rd_tellLaw t0 u29 hD) t0 (by decide) rfl rfl (Nat.le_of_ble_eq_true rfl) dX4_tellOne_102 (fun h30 hD => ?_)
    refine g_goto (pc := 105) 160 C dX4_tellOne_105 (by decide) ?_
    refine g_aload_n (pc := 160) rfl 0 rfl C dX4_tellOne_160 ?_
    refine g_bipush (pc := 161) (v := 23) (by decide) C dX4_tellOne_161 ?_
    refine g_callVi (pc := 163) (As := [.int 23]) C mv_RX4_132 (M_Rd_need t0 hD) t0 (by decide) rfl rfl (Nat.le_of_ble_eq_true rfl) dX4_tellOne_163 (fun x33 h32 hD => ?_)
    refine g_pop (pc := 166) rfl C dX4_tellOne_166 ?_
    exact g_vret (pc := 167) C R dX4_tellOne_167 hD
  have hD := hD.2 c27
  by_cases c34 : (h.1 (r o 7) i2.toNatClampNeg) = 9
  · have hD := hD.1 c34
    refine g_tswIn (pc := 9) 108 C dX4_tellOne_9 9 c34 (by decide) (by decide) rfl (by decide) ?_
    refine g_aload_n (pc := 108) rfl 0 rfl C dX4_tellOne_108 ?_
    refine g_bipush (pc := 109) (v := 9) (by decide) C dX4_tellOne_109 ?_
    refine g_callVi (pc := 111) (As := [.int 9]) C mv_RX4_132 (M_Rd_need t0 hD) t0 (by decide) rfl rfl (Nat.le_of_ble_eq_true rfl) dX4_tellOne_111 (fun x36 h35 hD => ?_)
    refine g_pop (pc := 114) rfl C dX4_tellOne_114 ?_
    refine g_aload_n (pc := 115) rfl 0 rfl C dX4_tellOne_115 ?_
    have u37 : TO Y (r o 2) 0 := wt_o hw t0 (by decide) rfl
    refine g_getR (pc := 116) C fl_RX4_22 t0 rfl dX4_tellOne_116 ?_
    refine g_aload_n (pc := 119) rfl 0 rfl C dX4_tellOne_119 ?_
    refine g_bipush (pc := 120) (v := 100) (by decide) C dX4_tellOne_120 ?_
    refine g_callVi (pc := 122) (As := [.int 100]) C mv_RX4_135 (M_Rd_number t0 hD) t0 (by decide) rfl rfl (Nat.le_of_ble_eq_true rfl) dX4_tellOne_122 (fun x39 h38 hD => ?_)
    refine g_putI (pc := 125) C fl_RX4_138 u37 rfl rfl rfl dX4_tellOne_125 (fun h40 eh40 => ?_)
    have hD := hD h40 eh40
    refine g_goto (pc := 128) 160 C dX4_tellOne_128 (by decide) ?_
    refine g_aload_n (pc := 160) rfl 0 rfl C dX4_tellOne_160 ?_
    refine g_bipush (pc := 161) (v := 23) (by decide) C dX4_tellOne_161 ?_
    refine g_callVi (pc := 163) (As := [.int 23]) C mv_RX4_132 (M_Rd_need t0 hD) t0 (by decide) rfl rfl (Nat.le_of_ble_eq_true rfl) dX4_tellOne_163 (fun x42 h41 hD => ?_)
    refine g_pop (pc := 166) rfl C dX4_tellOne_166 ?_
    exact g_vret (pc := 167) C R dX4_tellOne_167 hD
  have hD := hD.2 c34
  by_cases c43 : (h.1 (r o 7) i2.toNatClampNeg) = 10
  · have hD := hD.1 c43
    refine g_tswIn (pc := 9) 131 C dX4_tellOne_9 10 c43 (by decide) (by decide) rfl (by decide) ?_
    refine g_aload_n (pc := 131) rfl 0 rfl C dX4_tellOne_131 ?_
    refine g_bipush (pc := 132) (v := 10) (by decide) C dX4_tellOne_132 ?_
    refine g_callVi (pc := 134) (As := [.int 10]) C mv_RX4_132 (M_Rd_need t0 hD) t0 (by decide) rfl rfl (Nat.le_of_ble_eq_true rfl) dX4_tellOne_134 (fun x45 h44 hD => ?_)
    refine g_pop (pc := 137) rfl C dX4_tellOne_137 ?_
    refine g_aload_n (pc := 138) rfl 0 rfl C dX4_tellOne_138 ?_
    have u46 : TO Y (r o 2) 0 := wt_o hw t0 (by decide) rfl
    refine g_getR (pc := 139) C fl_RX4_22 t0 rfl dX4_tellOne_139 ?_
    refine g_aload_n (pc := 142) rfl 0 rfl C dX4_tellOne_142 ?_
    refine g_sipush (pc := 143) (v := 9999) (by decide) C dX4_tellOne_143 ?_
    refine g_callVi (pc := 146) (As := [.int 9999]) C mv_RX4_135 (M_Rd_number t0 hD) t0 (by decide) rfl rfl (Nat.le_of_ble_eq_true rfl) dX4_tellOne_146 (fun x48 h47 hD => ?_)
    refine g_putI (pc := 149) C fl_RX4_141 u46 rfl rfl rfl dX4_tellOne_149 (fun h49 eh49 => ?_)
    have hD := hD h49 eh49
    refine g_goto (pc := 152) 160 C dX4_tellOne_152 (by decide) ?_
    refine g_aload_n (pc := 160) rfl 0 rfl C dX4_tellOne_160 ?_
    refine g_bipush (pc := 161) (v := 23) (by decide) C dX4_tellOne_161 ?_
    refine g_callVi (pc := 163) (As := [.int 23]) C mv_RX4_132 (M_Rd_need t0 hD) t0 (by decide) rfl rfl (Nat.le_of_ble_eq_true rfl) dX4_tellOne_163 (fun x51 h50 hD => ?_)
    refine g_pop (pc := 166) rfl C dX4_tellOne_166 ?_
    exact g_vret (pc := 167) C R dX4_tellOne_167 hD
  have hD := hD.2 c43
  have nc3 : ¬ ((h.1 (r o 7) i2.toNatClampNeg)).toInt = 4 := tsw_ne c3
  have nc8 : ¬ ((h.1 (r o 7) i2.toNatClampNeg)).toInt = 5 := tsw_ne c8
  have nc13 : ¬ ((h.1 (r o 7) i2.toNatClampNeg)).toInt = 6 := tsw_ne c13
  have nc20 : ¬ ((h.1 (r o 7) i2.toNatClampNeg)).toInt = 7 := tsw_ne c20
  have nc27 : ¬ ((h.1 (r o 7) i2.toNatClampNeg)).toInt = 8 := tsw_ne c27
  have nc34 : ¬ ((h.1 (r o 7) i2.toNatClampNeg)).toInt = 9 := tsw_ne c34
  have nc43 : ¬ ((h.1 (r o 7) i2.toNatClampNeg)).toInt = 10 := tsw_ne c43
  refine g_tswOut (pc := 9) 155 C dX4_tellOne_9 (by omega) (by decide) ?_
  refine g_aload_n (pc := 155) rfl 0 rfl C dX4_tellOne_155 ?_
  refine g_iconst (pc := 156) (v := 1) (by decide) C dX4_tellOne_156 ?_
  refine g_callVv (pc := 157) (As := [.int 1]) C mv_RX4_144 (M_Rd_fail t0 hD) t0 (by decide) rfl rfl (Nat.le_of_ble_eq_true rfl) dX4_tellOne_157 (fun h52 hD => ?_)
  refine g_aload_n (pc := 160) rfl 0 rfl C dX4_tellOne_160 ?_
  refine g_bipush (pc := 161) (v := 23) (by decide) C dX4_tellOne_161 ?_
  refine g_callVi (pc := 163) (As := [.int 23]) C mv_RX4_132 (M_Rd_need t0 hD) t0 (by decide) rfl rfl (Nat.le_of_ble_eq_true rfl) dX4_tellOne_163 (fun x55 h54 hD => ?_)
  refine g_pop (pc := 166) rfl C dX4_tellOne_166 ?_
  exact g_vret (pc := 167) C R dX4_tellOne_167 hD
def DB_Rd_parse_38 (r : TR) (l0 : Nat) (l1 : Int32) (h : TH) (K38 : Int32 → TH → Prop) (K74 : TH → Prop) (Q : Int32 → TH → Prop) : Prop :=
  ((400 ≤ l1 → K74 h) ∧ (¬ 400 ≤ l1 → ((¬ (h.1 l0 4) = 0 → K74 h) ∧ ((h.1 l0 4) = 0 → ∀ i15 : Int32, i15 = h.1 l0 10 → vp_in i15 401 ∧ (((h.1 (r l0 7) i15.toNatClampNeg) = 0 → K74 h) ∧ (¬ (h.1 (r l0 7) i15.toNatClampNeg) = 0 → D_Rd_tellOne r l0 h (fun h17 => ∀ x19 : Int32, x19 = l1 + 1 → K38 x19 h17)))))))
set_option maxRecDepth 100000 in
set_option maxHeartbeats 4000000 in
theorem WB_Rd_parse_38 {Y : CG} {X : CX} {r : TR} {l0 : Nat} {l1 : Int32} {h : TH} {K38 : Int32 → TH → Prop} {K74 : TH → Prop} {Q : Int32 → TH → Prop} (C : Gd Y X cX4_parse 2 RX4 36) (R : Ri Y r X .int Q) (t0 : TO Y l0 4) (hK38 : ∀ (k1 : Int32) (hh : TH), K38 k1 hh → G Y X 2 38 [(0, .ref l0), (1, .int k1)] [] r hh) (hK74 : ∀ (hh : TH), K74 hh → G Y X 2 74 [(0, .ref l0)] [] r hh) (hD : DB_Rd_parse_38 r l0 l1 h K38 K74 Q) : G Y X 2 38 [(0, .ref l0), (1, .int l1)] [] r h := by
  unfold DB_Rd_parse_38 at hD
  refine g_wt (fun hw => ?_)
  refine g_iload_n (pc := 38) rfl 1 rfl C dX4_parse_38 ?_
  refine g_sipush (pc := 39) (v := 400) (by decide) C dX4_parse_39 ?_
  refine g_icmp_ge (pc := 42) 74 C dX4_parse_42 (by decide) (fun c12 => ?_) (fun c12 => ?_)
  · have hD := hD.1 c12
    refine g_sub [0] rfl ?_
    exact hK74 h hD
  · have hD := hD.2 c12
    refine g_aload_n (pc := 45) rfl 0 rfl C dX4_parse_45 ?_
    refine g_getI (pc := 46) C fl_RX4_29 t0 rfl dX4_parse_46 ?_
    refine g_if_ne (pc := 49) 74 C dX4_parse_49 (by decide) (fun c13 => ?_) (fun c13 => ?_)
    · have hD := hD.1 c13
      refine g_sub [0] rfl ?_
      exact hK74 h hD
    · have hD := hD.2 c13
      refine g_aload_n (pc := 52) rfl 0 rfl C dX4_parse_52 ?_
      have u14 : TA Y (r l0 7) 10 401 := wt_a hw t0 (by decide) (by decide) rfl
      refine g_getR (pc := 53) C fl_RX4_38 t0 rfl dX4_parse_53 ?_
      refine g_aload_n (pc := 56) rfl 0 rfl C dX4_parse_56 ?_
      refine g_getI (pc := 57) C fl_RX4_48 t0 rfl dX4_parse_57 ?_
      refine g_topi (fun i15 ei15 => ?_)
      have hD := hD i15 ei15
      obtain ⟨hb, hD⟩ := hD
      refine g_iald (pc := 60) C u14 hb dX4_parse_60 ?_
      refine g_if_eq (pc := 61) 74 C dX4_parse_61 (by decide) (fun c16 => ?_) (fun c16 => ?_)
      · have hD := hD.1 c16
        refine g_sub [0] rfl ?_
        exact hK74 h hD
      · have hD := hD.2 c16
        refine g_aload_n (pc := 64) rfl 0 rfl C dX4_parse_64 ?_
        refine g_callVv (pc := 65) (As := []) C mv_RX4_57 (M_Rd_tellOne t0 hD) t0 (by decide) rfl rfl (Nat.le_of_ble_eq_true rfl) dX4_parse_65 (fun h17 hD => ?_)
        refine g_iinc (pc := 68) (q := 1) (c := 1) (fun x19 => [(1, .int x19), (0, .ref l0)]) C dX4_parse_68 rfl (by decide) (by decide) rfl (fun x19 ex19 => ?_)
        have hD := hD x19 ex19
        refine g_goto (pc := 71) 38 C dX4_parse_71 (by decide) ?_
        refine g_sub [1, 0] rfl ?_
        exact hK38 x19 h17 hD
def DJ_Rd_parse_94 (r : TR) (l0 : Nat) (h : TH) (Q : Int32 → TH → Prop) : Prop :=
  ((¬ (h.1 l0 4) = 0 → Q (h.1 l0 4) h) ∧ ((h.1 l0 4) = 0 → ∀ h28, h28 = pI h l0 4 (h.1 l0 5) → ∀ h29, h29 = pI h28 l0 3 (h28.1 l0 6) → Q (h29.1 l0 4) h29))
set_option maxRecDepth 100000 in
set_option maxHeartbeats 4000000 in
theorem WJ_Rd_parse_94 {Y : CG} {X : CX} {r : TR} {l0 : Nat} {h : TH} {Q : Int32 → TH → Prop} (C : Gd Y X cX4_parse 2 RX4 36) (R : Ri Y r X .int Q) (t0 : TO Y l0 4) (hD : DJ_Rd_parse_94 r l0 h  Q) : G Y X 2 94 [(0, .ref l0)] [] r h := by
  unfold DJ_Rd_parse_94 at hD
  refine g_wt (fun hw => ?_)
  refine g_aload_n (pc := 94) rfl 0 rfl C dX4_parse_94 ?_
  refine g_getI (pc := 95) C fl_RX4_29 t0 rfl dX4_parse_95 ?_
  refine g_if_ne (pc := 98) 117 C dX4_parse_98 (by decide) (fun c27 => ?_) (fun c27 => ?_)
  · have hD := hD.1 c27
    refine g_aload_n (pc := 117) rfl 0 rfl C dX4_parse_117 ?_
    refine g_getI (pc := 118) C fl_RX4_29 t0 rfl dX4_parse_118 ?_
    exact g_iret (pc := 121) C R dX4_parse_121 hD
  · have hD := hD.2 c27
    refine g_aload_n (pc := 101) rfl 0 rfl C dX4_parse_101 ?_
    refine g_aload_n (pc := 102) rfl 0 rfl C dX4_parse_102 ?_
    refine g_getI (pc := 103) C fl_RX4_32 t0 rfl dX4_parse_103 ?_
    refine g_putI (pc := 106) C fl_RX4_29 t0 rfl rfl rfl dX4_parse_106 (fun h28 eh28 => ?_)
    have hD := hD h28 eh28
    refine g_aload_n (pc := 109) rfl 0 rfl C dX4_parse_109 ?_
    refine g_aload_n (pc := 110) rfl 0 rfl C dX4_parse_110 ?_
    refine g_getI (pc := 111) C fl_RX4_35 t0 rfl dX4_parse_111 ?_
    refine g_putI (pc := 114) C fl_RX4_26 t0 rfl rfl rfl dX4_parse_114 (fun h29 eh29 => ?_)
    have hD := hD h29 eh29
    refine g_aload_n (pc := 117) rfl 0 rfl C dX4_parse_117 ?_
    refine g_getI (pc := 118) C fl_RX4_29 t0 rfl dX4_parse_118 ?_
    exact g_iret (pc := 121) C R dX4_parse_121 hD
def DJ_Rd_parse_74 (r : TR) (l0 : Nat) (h : TH) (Q : Int32 → TH → Prop) : Prop :=
  D_Bay_areBoatsAfloat r (r l0 2) h (fun x25 h24 => ((¬ x25 = 0 → DJ_Rd_parse_94 r l0 h24 Q) ∧ (x25 = 0 → D_Rd_addFlaw r l0 6 (h24.1 l0 1) h24 (fun h30 => DJ_Rd_parse_94 r l0 h30 Q))))
set_option maxRecDepth 100000 in
set_option maxHeartbeats 4000000 in
theorem WJ_Rd_parse_74 {Y : CG} {X : CX} {r : TR} {l0 : Nat} {h : TH} {Q : Int32 → TH → Prop} (C : Gd Y X cX4_parse 2 RX4 36) (R : Ri Y r X .int Q) (t0 : TO Y l0 4) (hD : DJ_Rd_parse_74 r l0 h  Q) : G Y X 2 74 [(0, .ref l0)] [] r h := by
  unfold DJ_Rd_parse_74 at hD
  refine g_wt (fun hw => ?_)
  refine g_aload_n (pc := 74) rfl 0 rfl C dX4_parse_74 ?_
  have u23 : TO Y (r l0 2) 0 := wt_o hw t0 (by decide) rfl
  refine g_getR (pc := 75) C fl_RX4_22 t0 rfl dX4_parse_75 ?_
  refine g_callVi (pc := 78) (As := []) C mv_RX4_60 (M_Bay_areBoatsAfloat u23 hD) u23 (by decide) rfl rfl (Nat.le_of_ble_eq_true rfl) dX4_parse_78 (fun x25 h24 hD => ?_)
  refine g_if_ne (pc := 81) 94 C dX4_parse_81 (by decide) (fun c26 => ?_) (fun c26 => ?_)
  · have hD := hD.1 c26
    refine g_sub [0] rfl ?_
    exact WJ_Rd_parse_94 C R t0 hD
  · have hD := hD.2 c26
    refine g_aload_n (pc := 84) rfl 0 rfl C dX4_parse_84 ?_
    refine g_bipush (pc := 85) (v := 6) (by decide) C dX4_parse_85 ?_
    refine g_aload_n (pc := 87) rfl 0 rfl C dX4_parse_87 ?_
    refine g_getI (pc := 88) C fl_RX4_15 t0 rfl dX4_parse_88 ?_
    refine g_callVv (pc := 91) (As := [.int 6, .int (h24.1 l0 1)]) C mv_RX4_64 (M_Rd_addFlaw t0 hD) t0 (by decide) rfl rfl (Nat.le_of_ble_eq_true rfl) dX4_parse_91 (fun h30 hD => ?_)
    refine g_sub [0] rfl ?_
    exact WJ_Rd_parse_94 C R t0 hD
def D_Rd_parse (r : TR) (o : Nat) (h : TH) (Q : Int32 → TH → Prop) : Prop :=
  ∀ h1, h1 = pI h o 4 0 → ∀ h2, h2 = pI h1 o 3 (-1) → ∀ h3, h3 = pI h2 o 5 0 → ∀ h4, h4 = pI h3 o 6 (-1) → ∀ h5, h5 = pI h4 o 10 0 → D_Bay_clear r (r o 2) h5 (fun h7 => D_Rd_scan r o h7 (fun h9 => ∃ n, lp (fun (K : Int32 × TH → Prop) (s : Int32 × TH) => DB_Rd_parse_38 r o s.1 s.2 (fun y20 h21 => K (y20, h21)) (fun h22 => DJ_Rd_parse_74 r o h22 Q) Q) n (0, h9)))
set_option maxRecDepth 100000 in
set_option maxHeartbeats 4000000 in
theorem M_Rd_parse {Y : CG} {r : TR} {l : Launch} {o : Nat} {h : TH} {Q : Int32 → TH → Prop} (t0 : TO Y o 4) (hD : D_Rd_parse r o h Q) : Mi Y r l yX4_parse cX4_parse 2 .int 36 [.ref o] h Q := by
  unfold D_Rd_parse at hD
  refine Mi.of RX4 rfl (by decide) (by simp [lg_sl, Value.category]) [(0, .ref o)] rfl (fun X hXl C R => ?_)
  subst hXl
  refine g_wt (fun hw => ?_)
  refine g_aload_n (pc := 0) rfl 0 rfl C dX4_parse_0 ?_
  refine g_iconst (pc := 1) (v := 0) (by decide) C dX4_parse_1 ?_
  refine g_putI (pc := 2) C fl_RX4_29 t0 rfl rfl rfl dX4_parse_2 (fun h1 eh1 => ?_)
  have hD := hD h1 eh1
  refine g_aload_n (pc := 5) rfl 0 rfl C dX4_parse_5 ?_
  refine g_iconst (pc := 6) (v := (-1)) (by decide) C dX4_parse_6 ?_
  refine g_putI (pc := 7) C fl_RX4_26 t0 rfl rfl rfl dX4_parse_7 (fun h2 eh2 => ?_)
  have hD := hD h2 eh2
  refine g_aload_n (pc := 10) rfl 0 rfl C dX4_parse_10 ?_
  refine g_iconst (pc := 11) (v := 0) (by decide) C dX4_parse_11 ?_
  refine g_putI (pc := 12) C fl_RX4_32 t0 rfl rfl rfl dX4_parse_12 (fun h3 eh3 => ?_)
  have hD := hD h3 eh3
  refine g_aload_n (pc := 15) rfl 0 rfl C dX4_parse_15 ?_
  refine g_iconst (pc := 16) (v := (-1)) (by decide) C dX4_parse_16 ?_
  refine g_putI (pc := 17) C fl_RX4_35 t0 rfl rfl rfl dX4_parse_17 (fun h4 eh4 => ?_)
  have hD := hD h4 eh4
  refine g_aload_n (pc := 20) rfl 0 rfl C dX4_parse_20 ?_
  refine g_iconst (pc := 21) (v := 0) (by decide) C dX4_parse_21 ?_
  refine g_putI (pc := 22) C fl_RX4_48 t0 rfl rfl rfl dX4_parse_22 (fun h5 eh5 => ?_)
  have hD := hD h5 eh5
  refine g_aload_n (pc := 25) rfl 0 rfl C dX4_parse_25 ?_
  have u6 : TO Y (r o 2) 0 := wt_o hw t0 (by decide) rfl
  refine g_getR (pc := 26) C fl_RX4_22 t0 rfl dX4_parse_26 ?_
  refine g_callVv (pc := 29) (As := []) C mv_RX4_51 (M_Bay_clear u6 hD) u6 (by decide) rfl rfl (Nat.le_of_ble_eq_true rfl) dX4_parse_29 (fun h7 hD => ?_)
  refine g_aload_n (pc := 32) rfl 0 rfl C dX4_parse_32 ?_
  refine g_callVv (pc := 33) (As := []) C mv_RX4_54 (M_Rd_scan t0 hD) t0 (by decide) rfl rfl (Nat.le_of_ble_eq_true rfl) dX4_parse_33 (fun h9 hD => ?_)
  refine g_iconst (pc := 36) (v := 0) (by decide) C dX4_parse_36 ?_
  refine g_istore_n (pc := 37) (fun _ => [(1, .int 0), (0, .ref o)]) C dX4_parse_37 rfl (by decide) rfl (fun _ _ => ?_)
  obtain ⟨n, hD⟩ := hD
  refine g_sub [1, 0] rfl ?_
  refine lp_run (fun s : Int32 × TH => G Y X 2 38 [(0, .ref o), (1, .int s.1)] [] r s.2) (fun K s hB hK => ?_) n (0, h9) hD
  refine WB_Rd_parse_38 C R t0 (fun y20 h21 hk => hK _ hk) (fun h22 hD => ?_) hB
  · refine g_sub [0] rfl ?_
    exact WJ_Rd_parse_74 C R t0 hD
def D_Sc_areTogether (r : TR) (o : Nat) (a1 : Int32) (a2 : Int32) (h : TH) (Q : Int32 → TH → Prop) : Prop :=
  D_Sc_isSailing r o a1 h (fun x2 h1 => ((x2 = 0 → Q 0 h1) ∧ (¬ x2 = 0 → D_Sc_isSailing r o a2 h1 (fun x5 h4 => ((x5 = 0 → Q 0 h4) ∧ (¬ x5 = 0 → vp_in a1 6 ∧ vp_in a2 6 ∧ ((¬ (h4.1 (r o 4) a1.toNatClampNeg) = (h4.1 (r o 4) a2.toNatClampNeg) → Q 0 h4) ∧ ((h4.1 (r o 4) a1.toNatClampNeg) = (h4.1 (r o 4) a2.toNatClampNeg) → Q 1 h4))))))))
set_option maxRecDepth 100000 in
set_option maxHeartbeats 4000000 in
theorem M_Sc_areTogether {Y : CG} {r : TR} {l : Launch} {o : Nat} {a1 : Int32} {a2 : Int32} {h : TH} {Q : Int32 → TH → Prop} (t0 : TO Y o 5) (hD : D_Sc_areTogether r o a1 a2 h Q) : Mi Y r l yX5_areTogether cX5_areTogether 3 .boolean 2 [.ref o, .int a1, .int a2] h Q := by
  unfold D_Sc_areTogether at hD
  refine Mi.of RX5 rfl (by decide) (by simp [lg_sl, Value.category]) [(0, .ref o), (1, .int a1), (2, .int a2)] rfl (fun X hXl C R => ?_)
  subst hXl
  refine g_wt (fun hw => ?_)
  refine g_aload_n (pc := 0) rfl 0 rfl C dX5_areTogether_0 ?_
  refine g_iload_n (pc := 1) rfl 1 rfl C dX5_areTogether_1 ?_
  refine g_callVi (pc := 2) (As := [.int a1]) C mv_RX5_46 (M_Sc_isSailing t0 hD) t0 (by decide) rfl rfl (Nat.le_of_ble_eq_true rfl) dX5_areTogether_2 (fun x2 h1 hD => ?_)
  refine g_if_eq (pc := 5) 35 C dX5_areTogether_5 (by decide) (fun c3 => ?_) (fun c3 => ?_)
  · have hD := hD.1 c3
    refine g_iconst (pc := 35) (v := 0) (by decide) C dX5_areTogether_35 ?_
    exact g_zret (pc := 36) C R nz_0 dX5_areTogether_36 hD
  · have hD := hD.2 c3
    refine g_aload_n (pc := 8) rfl 0 rfl C dX5_areTogether_8 ?_
    refine g_iload_n (pc := 9) rfl 2 rfl C dX5_areTogether_9 ?_
    refine g_callVi (pc := 10) (As := [.int a2]) C mv_RX5_46 (M_Sc_isSailing t0 hD) t0 (by decide) rfl rfl (Nat.le_of_ble_eq_true rfl) dX5_areTogether_10 (fun x5 h4 hD => ?_)
    refine g_if_eq (pc := 13) 35 C dX5_areTogether_13 (by decide) (fun c6 => ?_) (fun c6 => ?_)
    · have hD := hD.1 c6
      refine g_iconst (pc := 35) (v := 0) (by decide) C dX5_areTogether_35 ?_
      exact g_zret (pc := 36) C R nz_0 dX5_areTogether_36 hD
    · have hD := hD.2 c6
      refine g_aload_n (pc := 16) rfl 0 rfl C dX5_areTogether_16 ?_
      have u7 : TA Y (r o 4) 10 6 := wt_a hw t0 (by decide) (by decide) rfl
      refine g_getR (pc := 17) C fl_RX5_24 t0 rfl dX5_areTogether_17 ?_
      refine g_iload_n (pc := 20) rfl 1 rfl C dX5_areTogether_20 ?_
      obtain ⟨hb, hD⟩ := hD
      refine g_iald (pc := 21) C u7 hb dX5_areTogether_21 ?_
      refine g_aload_n (pc := 22) rfl 0 rfl C dX5_areTogether_22 ?_
      have u8 : TA Y (r o 4) 10 6 := wt_a hw t0 (by decide) (by decide) rfl
      refine g_getR (pc := 23) C fl_RX5_24 t0 rfl dX5_areTogether_23 ?_
      refine g_iload_n (pc := 26) rfl 2 rfl C dX5_areTogether_26 ?_
      obtain ⟨hb, hD⟩ := hD
      refine g_iald (pc := 27) C u8 hb dX5_areTogether_27 ?_
      refine g_icmp_ne (pc := 28) 35 C dX5_areTogether_28 (by decide) (fun c9 => ?_) (fun c9 => ?_)
      · have hD := hD.1 c9
        refine g_iconst (pc := 35) (v := 0) (by decide) C dX5_areTogether_35 ?_
        exact g_zret (pc := 36) C R nz_0 dX5_areTogether_36 hD
      · have hD := hD.2 c9
        refine g_iconst (pc := 31) (v := 1) (by decide) C dX5_areTogether_31 ?_
        refine g_goto (pc := 32) 36 C dX5_areTogether_32 (by decide) ?_
        exact g_zret (pc := 36) C R nz_1 dX5_areTogether_36 hD
def D_Sc_arrivalOf (r : TR) (o : Nat) (a1 : Int32) (h : TH) (Q : Int32 → TH → Prop) : Prop :=
  D_Sc_isHome r o a1 h (fun x2 h1 => ((x2 = 0 → Q (-2) h1) ∧ (¬ x2 = 0 → vp_in a1 6 ∧ Q (h1.1 (r o 5) a1.toNatClampNeg) h1)))
set_option maxRecDepth 100000 in
set_option maxHeartbeats 4000000 in
theorem M_Sc_arrivalOf {Y : CG} {r : TR} {l : Launch} {o : Nat} {a1 : Int32} {h : TH} {Q : Int32 → TH → Prop} (t0 : TO Y o 5) (hD : D_Sc_arrivalOf r o a1 h Q) : Mi Y r l yX5_arrivalOf cX5_arrivalOf 2 .int 2 [.ref o, .int a1] h Q := by
  unfold D_Sc_arrivalOf at hD
  refine Mi.of RX5 rfl (by decide) (by simp [lg_sl, Value.category]) [(0, .ref o), (1, .int a1)] rfl (fun X hXl C R => ?_)
  subst hXl
  refine g_wt (fun hw => ?_)
  refine g_aload_n (pc := 0) rfl 0 rfl C dX5_arrivalOf_0 ?_
  refine g_iload_n (pc := 1) rfl 1 rfl C dX5_arrivalOf_1 ?_
  refine g_callVi (pc := 2) (As := [.int a1]) C mv_RX5_53 (M_Sc_isHome t0 hD) t0 (by decide) rfl rfl (Nat.le_of_ble_eq_true rfl) dX5_arrivalOf_2 (fun x2 h1 hD => ?_)
  refine g_if_eq (pc := 5) 17 C dX5_arrivalOf_5 (by decide) (fun c3 => ?_) (fun c3 => ?_)
  · have hD := hD.1 c3
    refine g_bipush (pc := 17) (v := (-2)) (by decide) C dX5_arrivalOf_17 ?_
    exact g_iret (pc := 19) C R dX5_arrivalOf_19 hD
  · have hD := hD.2 c3
    refine g_aload_n (pc := 8) rfl 0 rfl C dX5_arrivalOf_8 ?_
    have u4 : TA Y (r o 5) 10 6 := wt_a hw t0 (by decide) (by decide) rfl
    refine g_getR (pc := 9) C fl_RX5_28 t0 rfl dX5_arrivalOf_9 ?_
    refine g_iload_n (pc := 12) rfl 1 rfl C dX5_arrivalOf_12 ?_
    obtain ⟨hb, hD⟩ := hD
    refine g_iald (pc := 13) C u4 hb dX5_arrivalOf_13 ?_
    refine g_goto (pc := 14) 19 C dX5_arrivalOf_14 (by decide) ?_
    exact g_iret (pc := 19) C R dX5_arrivalOf_19 hD
def D_Sc_behindness (r : TR) (o : Nat) (a1 : Int32) (h : TH) (Q : Int32 → TH → Prop) : Prop :=
  D_Sc_isHome r o a1 h (fun x2 h1 => ((x2 = 0 → D_Sc_isLost r o a1 h1 (fun x5 h4 => ((x5 = 0 → D_Sc_eastOf r o a1 h4 (fun x8 h7 => Q ((10 * (8 - x8)) + a1) h7)) ∧ (¬ x5 = 0 → Q (1000 + a1) h4)))) ∧ (¬ x2 = 0 → vp_in a1 6 ∧ Q (h1.1 (r o 5) a1.toNatClampNeg) h1)))
set_option maxRecDepth 100000 in
set_option maxHeartbeats 4000000 in
theorem M_Sc_behindness {Y : CG} {r : TR} {l : Launch} {o : Nat} {a1 : Int32} {h : TH} {Q : Int32 → TH → Prop} (t0 : TO Y o 5) (hD : D_Sc_behindness r o a1 h Q) : Mi Y r l yX5_behindness cX5_behindness 2 .int 3 [.ref o, .int a1] h Q := by
  unfold D_Sc_behindness at hD
  refine Mi.of RX5 rfl (by decide) (by simp [lg_sl, Value.category]) [(0, .ref o), (1, .int a1)] rfl (fun X hXl C R => ?_)
  subst hXl
  refine g_wt (fun hw => ?_)
  refine g_aload_n (pc := 0) rfl 0 rfl C dX5_behindness_0 ?_
  refine g_iload_n (pc := 1) rfl 1 rfl C dX5_behindness_1 ?_
  refine g_callVi (pc := 2) (As := [.int a1]) C mv_RX5_53 (M_Sc_isHome t0 hD) t0 (by decide) rfl rfl (Nat.le_of_ble_eq_true rfl) dX5_behindness_2 (fun x2 h1 hD => ?_)
  refine g_if_eq (pc := 5) 15 C dX5_behindness_5 (by decide) (fun c3 => ?_) (fun c3 => ?_)
  · have hD := hD.1 c3
    refine g_aload_n (pc := 15) rfl 0 rfl C dX5_behindness_15 ?_
    refine g_iload_n (pc := 16) rfl 1 rfl C dX5_behindness_16 ?_
    refine g_callVi (pc := 17) (As := [.int a1]) C mv_RX5_50 (M_Sc_isLost t0 hD) t0 (by decide) rfl rfl (Nat.le_of_ble_eq_true rfl) dX5_behindness_17 (fun x5 h4 hD => ?_)
    refine g_if_eq (pc := 20) 29 C dX5_behindness_20 (by decide) (fun c6 => ?_) (fun c6 => ?_)
    · have hD := hD.1 c6
      refine g_bipush (pc := 29) (v := 10) (by decide) C dX5_behindness_29 ?_
      refine g_bipush (pc := 31) (v := 8) (by decide) C dX5_behindness_31 ?_
      refine g_aload_n (pc := 33) rfl 0 rfl C dX5_behindness_33 ?_
      refine g_iload_n (pc := 34) rfl 1 rfl C dX5_behindness_34 ?_
      refine g_callVi (pc := 35) (As := [.int a1]) C mv_RX5_69 (M_Sc_eastOf t0 hD) t0 (by decide) rfl rfl (Nat.le_of_ble_eq_true rfl) dX5_behindness_35 (fun x8 h7 hD => ?_)
      refine g_isub (pc := 38) C dX5_behindness_38 ?_
      refine g_imul (pc := 39) C dX5_behindness_39 ?_
      refine g_iload_n (pc := 40) rfl 1 rfl C dX5_behindness_40 ?_
      refine g_iadd (pc := 41) C dX5_behindness_41 ?_
      exact g_iret (pc := 42) C R dX5_behindness_42 hD
    · have hD := hD.2 c6
      refine g_sipush (pc := 23) (v := 1000) (by decide) C dX5_behindness_23 ?_
      refine g_iload_n (pc := 26) rfl 1 rfl C dX5_behindness_26 ?_
      refine g_iadd (pc := 27) C dX5_behindness_27 ?_
      exact g_iret (pc := 28) C R dX5_behindness_28 hD
  · have hD := hD.2 c3
    refine g_aload_n (pc := 8) rfl 0 rfl C dX5_behindness_8 ?_
    have u9 : TA Y (r o 5) 10 6 := wt_a hw t0 (by decide) (by decide) rfl
    refine g_getR (pc := 9) C fl_RX5_28 t0 rfl dX5_behindness_9 ?_
    refine g_iload_n (pc := 12) rfl 1 rfl C dX5_behindness_12 ?_
    obtain ⟨hb, hD⟩ := hD
    refine g_iald (pc := 13) C u9 hb dX5_behindness_13 ?_
    exact g_iret (pc := 14) C R dX5_behindness_14 hD
def DB_Sc_rankOf_5 (r : TR) (l0 : Nat) (l1 : Int32) (l2 : Int32) (l3 : Int32) (l4 : Int32) (h : TH) (K5 : Int32 → Int32 → TH → Prop) (K34 : Int32 → TH → Prop) (Q : Int32 → TH → Prop) : Prop :=
  ((l2 ≤ l4 → K34 l3 h) ∧ (¬ l2 ≤ l4 → D_Sc_behindness r l0 l4 h (fun x5 h4 => D_Sc_behindness r l0 l1 h4 (fun x7 h6 => ((x7 ≤ x5 → ∀ x9 : Int32, x9 = l4 + 1 → K5 l3 x9 h6) ∧ (¬ x7 ≤ x5 → ∀ x10 : Int32, x10 = l3 + 1 → ∀ x11 : Int32, x11 = l4 + 1 → K5 x10 x11 h6))))))
set_option maxRecDepth 100000 in
set_option maxHeartbeats 4000000 in
theorem WB_Sc_rankOf_5 {Y : CG} {X : CX} {r : TR} {l0 : Nat} {l1 : Int32} {l2 : Int32} {l3 : Int32} {l4 : Int32} {h : TH} {K5 : Int32 → Int32 → TH → Prop} {K34 : Int32 → TH → Prop} {Q : Int32 → TH → Prop} (C : Gd Y X cX5_rankOf 5 RX5 4) (R : Ri Y r X .int Q) (t0 : TO Y l0 5) (hK5 : ∀ (k3 : Int32) (k4 : Int32) (hh : TH), K5 k3 k4 hh → G Y X 5 5 [(0, .ref l0), (1, .int l1), (2, .int l2), (3, .int k3), (4, .int k4)] [] r hh) (hK34 : ∀ (k3 : Int32) (hh : TH), K34 k3 hh → G Y X 5 34 [(3, .int k3)] [] r hh) (hD : DB_Sc_rankOf_5 r l0 l1 l2 l3 l4 h K5 K34 Q) : G Y X 5 5 [(0, .ref l0), (1, .int l1), (2, .int l2), (3, .int l3), (4, .int l4)] [] r h := by
  unfold DB_Sc_rankOf_5 at hD
  refine g_wt (fun hw => ?_)
  refine g_iload (pc := 5) 4 rfl C dX5_rankOf_5 ?_
  refine g_iload_n (pc := 7) rfl 2 rfl C dX5_rankOf_7 ?_
  refine g_icmp_ge (pc := 8) 34 C dX5_rankOf_8 (by decide) (fun c3 => ?_) (fun c3 => ?_)
  · have hD := hD.1 c3
    refine g_sub [3] rfl ?_
    exact hK34 l3 h hD
  · have hD := hD.2 c3
    refine g_aload_n (pc := 11) rfl 0 rfl C dX5_rankOf_11 ?_
    refine g_iload (pc := 12) 4 rfl C dX5_rankOf_12 ?_
    refine g_callVi (pc := 14) (As := [.int l4]) C mv_RX5_62 (M_Sc_behindness t0 hD) t0 (by decide) rfl rfl (Nat.le_of_ble_eq_true rfl) dX5_rankOf_14 (fun x5 h4 hD => ?_)
    refine g_aload_n (pc := 17) rfl 0 rfl C dX5_rankOf_17 ?_
    refine g_iload_n (pc := 18) rfl 1 rfl C dX5_rankOf_18 ?_
    refine g_callVi (pc := 19) (As := [.int l1]) C mv_RX5_62 (M_Sc_behindness t0 hD) t0 (by decide) rfl rfl (Nat.le_of_ble_eq_true rfl) dX5_rankOf_19 (fun x7 h6 hD => ?_)
    refine g_icmp_ge (pc := 22) 28 C dX5_rankOf_22 (by decide) (fun c8 => ?_) (fun c8 => ?_)
    · have hD := hD.1 c8
      refine g_iinc (pc := 28) (q := 4) (c := 1) (fun x9 => [(4, .int x9), (0, .ref l0), (1, .int l1), (2, .int l2), (3, .int l3)]) C dX5_rankOf_28 rfl (by decide) (by decide) rfl (fun x9 ex9 => ?_)
      have hD := hD x9 ex9
      refine g_goto (pc := 31) 5 C dX5_rankOf_31 (by decide) ?_
      refine g_sub [1, 2, 3, 4, 0] rfl ?_
      exact hK5 l3 x9 h6 hD
    · have hD := hD.2 c8
      refine g_iinc (pc := 25) (q := 3) (c := 1) (fun x10 => [(3, .int x10), (0, .ref l0), (1, .int l1), (2, .int l2), (4, .int l4)]) C dX5_rankOf_25 rfl (by decide) (by decide) rfl (fun x10 ex10 => ?_)
      have hD := hD x10 ex10
      refine g_iinc (pc := 28) (q := 4) (c := 1) (fun x11 => [(4, .int x11), (3, .int x10), (0, .ref l0), (1, .int l1), (2, .int l2)]) C dX5_rankOf_28 rfl (by decide) (by decide) rfl (fun x11 ex11 => ?_)
      have hD := hD x11 ex11
      refine g_goto (pc := 31) 5 C dX5_rankOf_31 (by decide) ?_
      refine g_sub [2, 3, 4, 1, 0] rfl ?_
      exact hK5 x10 x11 h6 hD
def D_Sc_rankOf (r : TR) (o : Nat) (a1 : Int32) (a2 : Int32) (h : TH) (Q : Int32 → TH → Prop) : Prop :=
  ∃ n, lp (fun (K : Int32 × Int32 × TH → Prop) (s : Int32 × Int32 × TH) => DB_Sc_rankOf_5 r o a1 a2 s.1 s.2.1 s.2.2 (fun y12 y13 h14 => K (y12, y13, h14)) (fun x15 h16 => Q x15 h16) Q) n (0, 0, h)
set_option maxRecDepth 100000 in
set_option maxHeartbeats 4000000 in
theorem M_Sc_rankOf {Y : CG} {r : TR} {l : Launch} {o : Nat} {a1 : Int32} {a2 : Int32} {h : TH} {Q : Int32 → TH → Prop} (t0 : TO Y o 5) (hD : D_Sc_rankOf r o a1 a2 h Q) : Mi Y r l yX5_rankOf cX5_rankOf 5 .int 4 [.ref o, .int a1, .int a2] h Q := by
  unfold D_Sc_rankOf at hD
  refine Mi.of RX5 rfl (by decide) (by simp [lg_sl, Value.category]) [(0, .ref o), (1, .int a1), (2, .int a2)] rfl (fun X hXl C R => ?_)
  subst hXl
  refine g_wt (fun hw => ?_)
  refine g_iconst (pc := 0) (v := 0) (by decide) C dX5_rankOf_0 ?_
  refine g_istore_n (pc := 1) (fun _ => [(3, .int 0), (0, .ref o), (1, .int a1), (2, .int a2)]) C dX5_rankOf_1 rfl (by decide) rfl (fun _ _ => ?_)
  refine g_iconst (pc := 2) (v := 0) (by decide) C dX5_rankOf_2 ?_
  refine g_istore (pc := 3) (fun _ => [(4, .int 0), (3, .int 0), (0, .ref o), (1, .int a1), (2, .int a2)]) C dX5_rankOf_3 (by decide) rfl (fun _ _ => ?_)
  obtain ⟨n, hD⟩ := hD
  refine g_sub [2, 3, 4, 1, 0] rfl ?_
  refine lp_run (fun s : Int32 × Int32 × TH => G Y X 5 5 [(0, .ref o), (1, .int a1), (2, .int a2), (3, .int s.1), (4, .int s.2.1)] [] r s.2.2) (fun K s hB hK => ?_) n (0, 0, h) hD
  refine WB_Sc_rankOf_5 C R t0 (fun y12 y13 h14 hk => hK _ hk) (fun x15 h16 hD => ?_) hB
  · refine g_iload_n (pc := 34) rfl 0 rfl C dX5_rankOf_34 ?_
    exact g_iret (pc := 35) C R dX5_rankOf_35 hD
def DB_Sc_boatRanked_2 (r : TR) (l0 : Nat) (l1 : Int32) (l2 : Int32) (l3 : Int32) (h : TH) (K2 : Int32 → TH → Prop) (K25 : TH → Prop) (Q : Int32 → TH → Prop) : Prop :=
  ((l2 ≤ l3 → K25 h) ∧ (¬ l2 ≤ l3 → D_Sc_rankOf r l0 l3 l2 h (fun x4 h3 => ((¬ x4 = l1 → ∀ x6 : Int32, x6 = l3 + 1 → K2 x6 h3) ∧ (x4 = l1 → Q l3 h3)))))
set_option maxRecDepth 100000 in
set_option maxHeartbeats 4000000 in
theorem WB_Sc_boatRanked_2 {Y : CG} {X : CX} {r : TR} {l0 : Nat} {l1 : Int32} {l2 : Int32} {l3 : Int32} {h : TH} {K2 : Int32 → TH → Prop} {K25 : TH → Prop} {Q : Int32 → TH → Prop} (C : Gd Y X cX5_boatRanked 4 RX5 5) (R : Ri Y r X .int Q) (t0 : TO Y l0 5) (hK2 : ∀ (k3 : Int32) (hh : TH), K2 k3 hh → G Y X 4 2 [(0, .ref l0), (1, .int l1), (2, .int l2), (3, .int k3)] [] r hh) (hK25 : ∀ (hh : TH), K25 hh → G Y X 4 25 [] [] r hh) (hD : DB_Sc_boatRanked_2 r l0 l1 l2 l3 h K2 K25 Q) : G Y X 4 2 [(0, .ref l0), (1, .int l1), (2, .int l2), (3, .int l3)] [] r h := by
  unfold DB_Sc_boatRanked_2 at hD
  refine g_wt (fun hw => ?_)
  refine g_iload_n (pc := 2) rfl 3 rfl C dX5_boatRanked_2 ?_
  refine g_iload_n (pc := 3) rfl 2 rfl C dX5_boatRanked_3 ?_
  refine g_icmp_ge (pc := 4) 25 C dX5_boatRanked_4 (by decide) (fun c2 => ?_) (fun c2 => ?_)
  · have hD := hD.1 c2
    refine g_sub [] rfl ?_
    exact hK25 h hD
  · have hD := hD.2 c2
    refine g_aload_n (pc := 7) rfl 0 rfl C dX5_boatRanked_7 ?_
    refine g_iload_n (pc := 8) rfl 3 rfl C dX5_boatRanked_8 ?_
    refine g_iload_n (pc := 9) rfl 2 rfl C dX5_boatRanked_9 ?_
    refine g_callVi (pc := 10) (As := [.int l3, .int l2]) C mv_RX5_65 (M_Sc_rankOf t0 hD) t0 (by decide) rfl rfl (Nat.le_of_ble_eq_true rfl) dX5_boatRanked_10 (fun x4 h3 hD => ?_)
    refine g_iload_n (pc := 13) rfl 1 rfl C dX5_boatRanked_13 ?_
    refine g_icmp_ne (pc := 14) 19 C dX5_boatRanked_14 (by decide) (fun c5 => ?_) (fun c5 => ?_)
    · have hD := hD.1 c5
      refine g_iinc (pc := 19) (q := 3) (c := 1) (fun x6 => [(3, .int x6), (0, .ref l0), (1, .int l1), (2, .int l2)]) C dX5_boatRanked_19 rfl (by decide) (by decide) rfl (fun x6 ex6 => ?_)
      have hD := hD x6 ex6
      refine g_goto (pc := 22) 2 C dX5_boatRanked_22 (by decide) ?_
      refine g_sub [1, 2, 3, 0] rfl ?_
      exact hK2 x6 h3 hD
    · have hD := hD.2 c5
      refine g_iload_n (pc := 17) rfl 3 rfl C dX5_boatRanked_17 ?_
      exact g_iret (pc := 18) C R dX5_boatRanked_18 hD
def D_Sc_boatRanked (r : TR) (o : Nat) (a1 : Int32) (a2 : Int32) (h : TH) (Q : Int32 → TH → Prop) : Prop :=
  ∃ n, lp (fun (K : Int32 × TH → Prop) (s : Int32 × TH) => DB_Sc_boatRanked_2 r o a1 a2 s.1 s.2 (fun y7 h8 => K (y7, h8)) (fun h9 => Q (-1) h9) Q) n (0, h)
set_option maxRecDepth 100000 in
set_option maxHeartbeats 4000000 in
theorem M_Sc_boatRanked {Y : CG} {r : TR} {l : Launch} {o : Nat} {a1 : Int32} {a2 : Int32} {h : TH} {Q : Int32 → TH → Prop} (t0 : TO Y o 5) (hD : D_Sc_boatRanked r o a1 a2 h Q) : Mi Y r l yX5_boatRanked cX5_boatRanked 4 .int 5 [.ref o, .int a1, .int a2] h Q := by
  unfold D_Sc_boatRanked at hD
  refine Mi.of RX5 rfl (by decide) (by simp [lg_sl, Value.category]) [(0, .ref o), (1, .int a1), (2, .int a2)] rfl (fun X hXl C R => ?_)
  subst hXl
  refine g_wt (fun hw => ?_)
  refine g_iconst (pc := 0) (v := 0) (by decide) C dX5_boatRanked_0 ?_
  refine g_istore_n (pc := 1) (fun _ => [(3, .int 0), (0, .ref o), (1, .int a1), (2, .int a2)]) C dX5_boatRanked_1 rfl (by decide) rfl (fun _ _ => ?_)
  obtain ⟨n, hD⟩ := hD
  refine g_sub [1, 2, 3, 0] rfl ?_
  refine lp_run (fun s : Int32 × TH => G Y X 4 2 [(0, .ref o), (1, .int a1), (2, .int a2), (3, .int s.1)] [] r s.2) (fun K s hB hK => ?_) n (0, h) hD
  refine WB_Sc_boatRanked_2 C R t0 (fun y7 h8 hk => hK _ hk) (fun h9 hD => ?_) hB
  · refine g_iconst (pc := 25) (v := (-1)) (by decide) C dX5_boatRanked_25 ?_
    exact g_iret (pc := 26) C R dX5_boatRanked_26 hD
def DB_Sc_dishesIn_5 (r : TR) (l0 : Nat) (l1 : Int32) (l2 : Int32) (l3 : Int32) (l4 : Int32) (h : TH) (K5 : Int32 → Int32 → TH → Prop) (K38 : Int32 → TH → Prop) (Q : Int32 → TH → Prop) : Prop :=
  ((l2 ≤ l4 → K38 l3 h) ∧ (¬ l2 ≤ l4 → D_Sc_lies r l0 ((40 * l4) + l1) h (fun x5 h4 => ((x5 = 0 → ∀ x7 : Int32, x7 = l4 + 1 → K5 l3 x7 h4) ∧ (¬ x5 = 0 → ∀ x8 : Int32, x8 = l3 ||| ((1 : Int32) <<< (l4 &&& 31)) → ∀ x9 : Int32, x9 = l4 + 1 → K5 x8 x9 h4)))))
set_option maxRecDepth 100000 in
set_option maxHeartbeats 4000000 in
theorem WB_Sc_dishesIn_5 {Y : CG} {X : CX} {r : TR} {l0 : Nat} {l1 : Int32} {l2 : Int32} {l3 : Int32} {l4 : Int32} {h : TH} {K5 : Int32 → Int32 → TH → Prop} {K38 : Int32 → TH → Prop} {Q : Int32 → TH → Prop} (C : Gd Y X cX5_dishesIn 5 RX5 3) (R : Ri Y r X .int Q) (t0 : TO Y l0 5) (hK5 : ∀ (k3 : Int32) (k4 : Int32) (hh : TH), K5 k3 k4 hh → G Y X 5 5 [(0, .ref l0), (1, .int l1), (2, .int l2), (3, .int k3), (4, .int k4)] [] r hh) (hK38 : ∀ (k3 : Int32) (hh : TH), K38 k3 hh → G Y X 5 38 [(3, .int k3)] [] r hh) (hD : DB_Sc_dishesIn_5 r l0 l1 l2 l3 l4 h K5 K38 Q) : G Y X 5 5 [(0, .ref l0), (1, .int l1), (2, .int l2), (3, .int l3), (4, .int l4)] [] r h := by
  unfold DB_Sc_dishesIn_5 at hD
  refine g_wt (fun hw => ?_)
  refine g_iload (pc := 5) 4 rfl C dX5_dishesIn_5 ?_
  refine g_iload_n (pc := 7) rfl 2 rfl C dX5_dishesIn_7 ?_
  refine g_icmp_ge (pc := 8) 38 C dX5_dishesIn_8 (by decide) (fun c3 => ?_) (fun c3 => ?_)
  · have hD := hD.1 c3
    refine g_sub [3] rfl ?_
    exact hK38 l3 h hD
  · have hD := hD.2 c3
    refine g_aload_n (pc := 11) rfl 0 rfl C dX5_dishesIn_11 ?_
    refine g_bipush (pc := 12) (v := 40) (by decide) C dX5_dishesIn_12 ?_
    refine g_iload (pc := 14) 4 rfl C dX5_dishesIn_14 ?_
    refine g_imul (pc := 16) C dX5_dishesIn_16 ?_
    refine g_iload_n (pc := 17) rfl 1 rfl C dX5_dishesIn_17 ?_
    refine g_iadd (pc := 18) C dX5_dishesIn_18 ?_
    refine g_callVi (pc := 19) (As := [.int ((40 * l4) + l1)]) C mv_RX5_78 (M_Sc_lies t0 hD) t0 (by decide) rfl rfl (Nat.le_of_ble_eq_true rfl) dX5_dishesIn_19 (fun x5 h4 hD => ?_)
    refine g_if_eq (pc := 22) 32 C dX5_dishesIn_22 (by decide) (fun c6 => ?_) (fun c6 => ?_)
    · have hD := hD.1 c6
      refine g_iinc (pc := 32) (q := 4) (c := 1) (fun x7 => [(4, .int x7), (0, .ref l0), (1, .int l1), (2, .int l2), (3, .int l3)]) C dX5_dishesIn_32 rfl (by decide) (by decide) rfl (fun x7 ex7 => ?_)
      have hD := hD x7 ex7
      refine g_goto (pc := 35) 5 C dX5_dishesIn_35 (by decide) ?_
      refine g_sub [1, 2, 3, 4, 0] rfl ?_
      exact hK5 l3 x7 h4 hD
    · have hD := hD.2 c6
      refine g_iload_n (pc := 25) rfl 3 rfl C dX5_dishesIn_25 ?_
      refine g_iconst (pc := 26) (v := 1) (by decide) C dX5_dishesIn_26 ?_
      refine g_iload (pc := 27) 4 rfl C dX5_dishesIn_27 ?_
      refine g_ishl (pc := 29) C dX5_dishesIn_29 ?_
      refine g_ior (pc := 30) C dX5_dishesIn_30 ?_
      refine g_istore_n (pc := 31) (fun x8 => [(3, .int x8), (0, .ref l0), (1, .int l1), (2, .int l2), (4, .int l4)]) C dX5_dishesIn_31 rfl (by decide) rfl (fun x8 ex8 => ?_)
      have hD := hD x8 ex8
      refine g_iinc (pc := 32) (q := 4) (c := 1) (fun x9 => [(4, .int x9), (3, .int x8), (0, .ref l0), (1, .int l1), (2, .int l2)]) C dX5_dishesIn_32 rfl (by decide) (by decide) rfl (fun x9 ex9 => ?_)
      have hD := hD x9 ex9
      refine g_goto (pc := 35) 5 C dX5_dishesIn_35 (by decide) ?_
      refine g_sub [2, 3, 4, 1, 0] rfl ?_
      exact hK5 x8 x9 h4 hD
def D_Sc_dishesIn (r : TR) (o : Nat) (a1 : Int32) (a2 : Int32) (h : TH) (Q : Int32 → TH → Prop) : Prop :=
  ∃ n, lp (fun (K : Int32 × Int32 × TH → Prop) (s : Int32 × Int32 × TH) => DB_Sc_dishesIn_5 r o a1 a2 s.1 s.2.1 s.2.2 (fun y10 y11 h12 => K (y10, y11, h12)) (fun x13 h14 => Q x13 h14) Q) n (0, 0, h)
set_option maxRecDepth 100000 in
set_option maxHeartbeats 4000000 in
theorem M_Sc_dishesIn {Y : CG} {r : TR} {l : Launch} {o : Nat} {a1 : Int32} {a2 : Int32} {h : TH} {Q : Int32 → TH → Prop} (t0 : TO Y o 5) (hD : D_Sc_dishesIn r o a1 a2 h Q) : Mi Y r l yX5_dishesIn cX5_dishesIn 5 .int 3 [.ref o, .int a1, .int a2] h Q := by
  unfold D_Sc_dishesIn at hD
  refine Mi.of RX5 rfl (by decide) (by simp [lg_sl, Value.category]) [(0, .ref o), (1, .int a1), (2, .int a2)] rfl (fun X hXl C R => ?_)
  subst hXl
  refine g_wt (fun hw => ?_)
  refine g_iconst (pc := 0) (v := 0) (by decide) C dX5_dishesIn_0 ?_
  refine g_istore_n (pc := 1) (fun _ => [(3, .int 0), (0, .ref o), (1, .int a1), (2, .int a2)]) C dX5_dishesIn_1 rfl (by decide) rfl (fun _ _ => ?_)
  refine g_iconst (pc := 2) (v := 0) (by decide) C dX5_dishesIn_2 ?_
  refine g_istore (pc := 3) (fun _ => [(4, .int 0), (3, .int 0), (0, .ref o), (1, .int a1), (2, .int a2)]) C dX5_dishesIn_3 (by decide) rfl (fun _ _ => ?_)
  obtain ⟨n, hD⟩ := hD
  refine g_sub [2, 3, 4, 1, 0] rfl ?_
  refine lp_run (fun s : Int32 × Int32 × TH => G Y X 5 5 [(0, .ref o), (1, .int a1), (2, .int a2), (3, .int s.1), (4, .int s.2.1)] [] r s.2.2) (fun K s hB hK => ?_) n (0, 0, h) hD
  refine WB_Sc_dishesIn_5 C R t0 (fun y10 y11 h12 hk => hK _ hk) (fun x13 h14 hD => ?_) hB
  · refine g_iload_n (pc := 38) rfl 0 rfl C dX5_dishesIn_38 ?_
    exact g_iret (pc := 39) C R dX5_dishesIn_39 hD
def D_Told_add (r : TR) (o : Nat) (a1 : Int32) (a2 : Int32) (h : TH) (Q : Int32 → TH → Prop) : Prop :=
  (((h.1 o 0) < 20 → vp_in (h.1 o 0) 20 ∧ ∀ h3, h3 = pI h (r o 1) ((h.1 o 0).toNatClampNeg) a1 → vp_in (h3.1 o 0) 20 ∧ ∀ h5, h5 = pI h3 (r o 2) ((h3.1 o 0).toNatClampNeg) a2 → ∀ h6, h6 = pI h5 o 0 ((h5.1 o 0) + 1) → Q ((h6.1 o 0) - 1) h6) ∧ (¬ (h.1 o 0) < 20 → Q (-1) h))
set_option maxRecDepth 100000 in
set_option maxHeartbeats 4000000 in
theorem M_Told_add {Y : CG} {r : TR} {l : Launch} {o : Nat} {a1 : Int32} {a2 : Int32} {h : TH} {Q : Int32 → TH → Prop} (t0 : TO Y o 6) (hD : D_Told_add r o a1 a2 h Q) : Mi Y r l yX6_add cX6_add 3 .int 1 [.ref o, .int a1, .int a2] h Q := by
  unfold D_Told_add at hD
  refine Mi.of RX6 rfl (by decide) (by simp [lg_sl, Value.category]) [(0, .ref o), (1, .int a1), (2, .int a2)] rfl (fun X hXl C R => ?_)
  subst hXl
  refine g_wt (fun hw => ?_)
  refine g_aload_n (pc := 0) rfl 0 rfl C dX6_add_0 ?_
  refine g_getI (pc := 1) C fl_RX6_9 t0 rfl dX6_add_1 ?_
  refine g_bipush (pc := 4) (v := 20) (by decide) C dX6_add_4 ?_
  refine g_icmp_lt (pc := 6) 11 C dX6_add_6 (by decide) (fun c1 => ?_) (fun c1 => ?_)
  · have hD := hD.1 c1
    refine g_aload_n (pc := 11) rfl 0 rfl C dX6_add_11 ?_
    have u2 : TA Y (r o 1) 10 20 := wt_a hw t0 (by decide) (by decide) rfl
    refine g_getR (pc := 12) C fl_RX6_15 t0 rfl dX6_add_12 ?_
    refine g_aload_n (pc := 15) rfl 0 rfl C dX6_add_15 ?_
    refine g_getI (pc := 16) C fl_RX6_9 t0 rfl dX6_add_16 ?_
    refine g_iload_n (pc := 19) rfl 1 rfl C dX6_add_19 ?_
    obtain ⟨hb, hD⟩ := hD
    refine g_iast (pc := 20) C u2 hb dX6_add_20 (fun h3 eh3 => ?_)
    have hD := hD h3 eh3
    refine g_aload_n (pc := 21) rfl 0 rfl C dX6_add_21 ?_
    have u4 : TA Y (r o 2) 10 20 := wt_a hw t0 (by decide) (by decide) rfl
    refine g_getR (pc := 22) C fl_RX6_19 t0 rfl dX6_add_22 ?_
    refine g_aload_n (pc := 25) rfl 0 rfl C dX6_add_25 ?_
    refine g_getI (pc := 26) C fl_RX6_9 t0 rfl dX6_add_26 ?_
    refine g_iload_n (pc := 29) rfl 2 rfl C dX6_add_29 ?_
    obtain ⟨hb, hD⟩ := hD
    refine g_iast (pc := 30) C u4 hb dX6_add_30 (fun h5 eh5 => ?_)
    have hD := hD h5 eh5
    refine g_aload_n (pc := 31) rfl 0 rfl C dX6_add_31 ?_
    refine g_dup (pc := 32) rfl C dX6_add_32 ?_
    refine g_getI (pc := 33) C fl_RX6_9 t0 rfl dX6_add_33 ?_
    refine g_iconst (pc := 36) (v := 1) (by decide) C dX6_add_36 ?_
    refine g_iadd (pc := 37) C dX6_add_37 ?_
    refine g_putI (pc := 38) C fl_RX6_9 t0 rfl rfl rfl dX6_add_38 (fun h6 eh6 => ?_)
    have hD := hD h6 eh6
    refine g_aload_n (pc := 41) rfl 0 rfl C dX6_add_41 ?_
    refine g_getI (pc := 42) C fl_RX6_9 t0 rfl dX6_add_42 ?_
    refine g_iconst (pc := 45) (v := 1) (by decide) C dX6_add_45 ?_
    refine g_isub (pc := 46) C dX6_add_46 ?_
    exact g_iret (pc := 47) C R dX6_add_47 hD
  · have hD := hD.2 c1
    refine g_iconst (pc := 9) (v := (-1)) (by decide) C dX6_add_9 ?_
    exact g_iret (pc := 10) C R dX6_add_10 hD
def DB_Told_allowFirst_14 (r : TR) (l0 : Nat) (l1 : Int32) (l3 : Int32) (h : TH) (K14 : Int32 → TH → Prop) (K53 : TH → Prop) (Q : TH → Prop) : Prop :=
  ((l1 ≤ l3 → K53 h) ∧ (¬ l1 ≤ l3 → (((h.1 l0 0) ≤ l3 → K53 h) ∧ (¬ (h.1 l0 0) ≤ l3 → vp_in l3 20 ∧ ∀ i9 : Int32, i9 = h.1 (r l0 1) l3.toNatClampNeg → vp_in i9 6 ∧ vp_in l3 20 ∧ vp_in (h.1 (r l0 1) l3.toNatClampNeg) 6 ∧ ∀ h11, h11 = pI h (r l0 3) ((h.1 (r l0 1) l3.toNatClampNeg).toNatClampNeg) ((h.1 (r l0 3) i9.toNatClampNeg) &&& (h.1 (r l0 2) l3.toNatClampNeg)) → ∀ x12 : Int32, x12 = l3 + 1 → K14 x12 h11))))
set_option maxRecDepth 100000 in
set_option maxHeartbeats 4000000 in
theorem WB_Told_allowFirst_14 {Y : CG} {X : CX} {r : TR} {l0 : Nat} {l1 : Int32} {l3 : Int32} {h : TH} {K14 : Int32 → TH → Prop} {K53 : TH → Prop} {Q : TH → Prop} (C : Gd Y X cX6_allowFirst 4 RX6 2) (R : Rv Y r X Q) (t0 : TO Y l0 6) (hK14 : ∀ (k3 : Int32) (hh : TH), K14 k3 hh → G Y X 4 14 [(0, .ref l0), (1, .int l1), (3, .int k3)] [] r hh) (hK53 : ∀ (hh : TH), K53 hh → G Y X 4 53 [] [] r hh) (hD : DB_Told_allowFirst_14 r l0 l1 l3 h K14 K53 Q) : G Y X 4 14 [(0, .ref l0), (1, .int l1), (3, .int l3)] [] r h := by
  unfold DB_Told_allowFirst_14 at hD
  refine g_wt (fun hw => ?_)
  refine g_iload_n (pc := 14) rfl 2 rfl C dX6_allowFirst_14 ?_
  refine g_iload_n (pc := 15) rfl 1 rfl C dX6_allowFirst_15 ?_
  refine g_icmp_ge (pc := 16) 53 C dX6_allowFirst_16 (by decide) (fun c5 => ?_) (fun c5 => ?_)
  · have hD := hD.1 c5
    refine g_sub [] rfl ?_
    exact hK53 h hD
  · have hD := hD.2 c5
    refine g_iload_n (pc := 19) rfl 2 rfl C dX6_allowFirst_19 ?_
    refine g_aload_n (pc := 20) rfl 0 rfl C dX6_allowFirst_20 ?_
    refine g_getI (pc := 21) C fl_RX6_9 t0 rfl dX6_allowFirst_21 ?_
    refine g_icmp_ge (pc := 24) 53 C dX6_allowFirst_24 (by decide) (fun c6 => ?_) (fun c6 => ?_)
    · have hD := hD.1 c6
      refine g_sub [] rfl ?_
      exact hK53 h hD
    · have hD := hD.2 c6
      refine g_aload_n (pc := 27) rfl 0 rfl C dX6_allowFirst_27 ?_
      have u7 : TA Y (r l0 3) 10 6 := wt_a hw t0 (by decide) (by decide) rfl
      refine g_getR (pc := 28) C fl_RX6_22 t0 rfl dX6_allowFirst_28 ?_
      refine g_aload_n (pc := 31) rfl 0 rfl C dX6_allowFirst_31 ?_
      have u8 : TA Y (r l0 1) 10 20 := wt_a hw t0 (by decide) (by decide) rfl
      refine g_getR (pc := 32) C fl_RX6_15 t0 rfl dX6_allowFirst_32 ?_
      refine g_iload_n (pc := 35) rfl 2 rfl C dX6_allowFirst_35 ?_
      obtain ⟨hb, hD⟩ := hD
      refine g_iald (pc := 36) C u8 hb dX6_allowFirst_36 ?_
      refine g_dup2 (pc := 37) rfl rfl C dX6_allowFirst_37 ?_
      refine g_topi (fun i9 ei9 => ?_)
      have hD := hD i9 ei9
      obtain ⟨hb, hD⟩ := hD
      refine g_iald (pc := 38) C u7 hb dX6_allowFirst_38 ?_
      refine g_aload_n (pc := 39) rfl 0 rfl C dX6_allowFirst_39 ?_
      have u10 : TA Y (r l0 2) 10 20 := wt_a hw t0 (by decide) (by decide) rfl
      refine g_getR (pc := 40) C fl_RX6_19 t0 rfl dX6_allowFirst_40 ?_
      refine g_iload_n (pc := 43) rfl 2 rfl C dX6_allowFirst_43 ?_
      obtain ⟨hb, hD⟩ := hD
      refine g_iald (pc := 44) C u10 hb dX6_allowFirst_44 ?_
      refine g_iand (pc := 45) C dX6_allowFirst_45 ?_
      obtain ⟨hb, hD⟩ := hD
      refine g_iast (pc := 46) C u7 hb dX6_allowFirst_46 (fun h11 eh11 => ?_)
      have hD := hD h11 eh11
      refine g_iinc (pc := 47) (q := 2) (c := 1) (fun x12 => [(3, .int x12), (0, .ref l0), (1, .int l1)]) C dX6_allowFirst_47 rfl (by decide) (by decide) rfl (fun x12 ex12 => ?_)
      have hD := hD x12 ex12
      refine g_goto (pc := 50) 14 C dX6_allowFirst_50 (by decide) ?_
      refine g_sub [1, 2, 0] rfl ?_
      exact hK14 x12 h11 hD
def D_Told_allowFirst (r : TR) (o : Nat) (a1 : Int32) (a2 : Int32) (h : TH) (Q : TH → Prop) : Prop :=
  D_JA_fill r (r o 3) 6 (((1 : Int32) <<< (a2 &&& 31)) - 1) h (fun h2 => ∃ n, lp (fun (K : Int32 × TH → Prop) (s : Int32 × TH) => DB_Told_allowFirst_14 r o a1 s.1 s.2 (fun y13 h14 => K (y13, h14)) (fun h15 => Q h15) Q) n (0, h2))
set_option maxRecDepth 100000 in
set_option maxHeartbeats 4000000 in
theorem M_Told_allowFirst {Y : CG} {r : TR} {l : Launch} {o : Nat} {a1 : Int32} {a2 : Int32} {h : TH} {Q : TH → Prop} (t0 : TO Y o 6) (hD : D_Told_allowFirst r o a1 a2 h Q) : Mv Y r l yX6_allowFirst cX6_allowFirst 4 2 [.ref o, .int a1, .int a2] h Q := by
  unfold D_Told_allowFirst at hD
  refine Mv.of RX6 rfl (by decide) (by simp [lg_sl, Value.category]) [(0, .ref o), (1, .int a1), (2, .int a2)] rfl (fun X hXl C R => ?_)
  subst hXl
  refine g_wt (fun hw => ?_)
  refine g_aload_n (pc := 0) rfl 0 rfl C dX6_allowFirst_0 ?_
  have u1 : TA Y (r o 3) 10 6 := wt_a hw t0 (by decide) (by decide) rfl
  refine g_getR (pc := 1) C fl_RX6_22 t0 rfl dX6_allowFirst_1 ?_
  refine g_iconst (pc := 4) (v := 1) (by decide) C dX6_allowFirst_4 ?_
  refine g_iload_n (pc := 5) rfl 2 rfl C dX6_allowFirst_5 ?_
  refine g_ishl (pc := 6) C dX6_allowFirst_6 ?_
  refine g_iconst (pc := 7) (v := 1) (by decide) C dX6_allowFirst_7 ?_
  refine g_isub (pc := 8) C dX6_allowFirst_8 ?_
  refine g_callSv (pc := 9) (As := [.ref (r o 3), .int (((1 : Int32) <<< (a2 &&& 31)) - 1)]) C ms_RX6_28 (M_JA_fill u1 hD) (by decide) rfl rfl (Nat.le_of_ble_eq_true rfl) dX6_allowFirst_9 (fun h2 hD => ?_)
  refine g_iconst (pc := 12) (v := 0) (by decide) C dX6_allowFirst_12 ?_
  refine g_istore_n (pc := 13) (fun _ => [(3, .int 0), (0, .ref o), (1, .int a1), (2, .int a2)]) C dX6_allowFirst_13 rfl (by decide) rfl (fun _ _ => ?_)
  obtain ⟨n, hD⟩ := hD
  refine g_sub [1, 2, 0] rfl ?_
  refine lp_run (fun s : Int32 × TH => G Y X 4 14 [(0, .ref o), (1, .int a1), (3, .int s.1)] [] r s.2) (fun K s hB hK => ?_) n (0, h2) hD
  refine WB_Told_allowFirst_14 C R t0 (fun y13 h14 hk => hK _ hk) (fun h15 hD => ?_) hB
  · exact g_vret (pc := 53) C R dX6_allowFirst_53 hD
def DB_Told_waysLeft_46 (r : TR) (l0 : Nat) (l1 : Int32) (l2 : Int32) (l3 : Int32) (l4 : Int32) (l5 : Int32) (h : TH) (K23 : Int32 → TH → Prop) (K46 : Int32 → TH → Prop) (K89 : TH → Prop) (K95 : TH → Prop) (Q : Int32 → TH → Prop) : Prop :=
  ((l1 ≤ l5 → K89 h) ∧ (¬ l1 ≤ l5 → ((¬ ((l4 >>> (l5 &&& 31)) &&& 1) = 1 → ∀ x16 : Int32, x16 = l5 + 1 → K46 x16 h) ∧ (((l4 >>> (l5 &&& 31)) &&& 1) = 1 → ∀ i18 : Int32, i18 = l3 ||| ((1 : Int32) <<< (l5 &&& 31)) → vp_in i18 64 ∧ vp_in l3 64 ∧ vp_in (l3 ||| ((1 : Int32) <<< (l5 &&& 31))) 64 ∧ ∀ h20, h20 = pI h (r l0 4) ((l3 ||| ((1 : Int32) <<< (l5 &&& 31))).toNatClampNeg) ((h.1 (r l0 4) i18.toNatClampNeg) + (h.1 (r l0 4) l3.toNatClampNeg)) → ∀ x21 : Int32, x21 = l5 + 1 → K46 x21 h20))))
set_option maxRecDepth 100000 in
set_option maxHeartbeats 4000000 in
theorem WB_Told_waysLeft_46 {Y : CG} {X : CX} {r : TR} {l0 : Nat} {l1 : Int32} {l2 : Int32} {l3 : Int32} {l4 : Int32} {l5 : Int32} {h : TH} {K23 : Int32 → TH → Prop} {K46 : Int32 → TH → Prop} {K89 : TH → Prop} {K95 : TH → Prop} {Q : Int32 → TH → Prop} (C : Gd Y X cX6_waysLeft 6 RX6 2) (R : Ri Y r X .int Q) (t0 : TO Y l0 6) (hK23 : ∀ (k3 : Int32) (hh : TH), K23 k3 hh → G Y X 6 23 [(0, .ref l0), (1, .int l1), (2, .int l2), (3, .int k3)] [] r hh) (hK46 : ∀ (k5 : Int32) (hh : TH), K46 k5 hh → G Y X 6 46 [(0, .ref l0), (1, .int l1), (2, .int l2), (3, .int l3), (4, .int l4), (5, .int k5)] [] r hh) (hK89 : ∀ (hh : TH), K89 hh → G Y X 6 89 [(0, .ref l0), (1, .int l1), (2, .int l2), (3, .int l3)] [] r hh) (hK95 : ∀ (hh : TH), K95 hh → G Y X 6 95 [(0, .ref l0), (2, .int l2)] [] r hh) (hD : DB_Told_waysLeft_46 r l0 l1 l2 l3 l4 l5 h K23 K46 K89 K95 Q) : G Y X 6 46 [(0, .ref l0), (1, .int l1), (2, .int l2), (3, .int l3), (4, .int l4), (5, .int l5)] [] r h := by
  unfold DB_Told_waysLeft_46 at hD
  refine g_wt (fun hw => ?_)
  refine g_iload (pc := 46) 5 rfl C dX6_waysLeft_46 ?_
  refine g_iload_n (pc := 48) rfl 1 rfl C dX6_waysLeft_48 ?_
  refine g_icmp_ge (pc := 49) 89 C dX6_waysLeft_49 (by decide) (fun c14 => ?_) (fun c14 => ?_)
  · have hD := hD.1 c14
    refine g_sub [0, 1, 2, 3] rfl ?_
    exact hK89 h hD
  · have hD := hD.2 c14
    refine g_iload (pc := 52) 4 rfl C dX6_waysLeft_52 ?_
    refine g_iload (pc := 54) 5 rfl C dX6_waysLeft_54 ?_
    refine g_ishr (pc := 56) C dX6_waysLeft_56 ?_
    refine g_iconst (pc := 57) (v := 1) (by decide) C dX6_waysLeft_57 ?_
    refine g_iand (pc := 58) C dX6_waysLeft_58 ?_
    refine g_iconst (pc := 59) (v := 1) (by decide) C dX6_waysLeft_59 ?_
    refine g_icmp_ne (pc := 60) 83 C dX6_waysLeft_60 (by decide) (fun c15 => ?_) (fun c15 => ?_)
    · have hD := hD.1 c15
      refine g_iinc (pc := 83) (q := 5) (c := 1) (fun x16 => [(5, .int x16), (0, .ref l0), (1, .int l1), (2, .int l2), (3, .int l3), (4, .int l4)]) C dX6_waysLeft_83 rfl (by decide) (by decide) rfl (fun x16 ex16 => ?_)
      have hD := hD x16 ex16
      refine g_goto (pc := 86) 46 C dX6_waysLeft_86 (by decide) ?_
      refine g_sub [1, 2, 3, 4, 5, 0] rfl ?_
      exact hK46 x16 h hD
    · have hD := hD.2 c15
      refine g_aload_n (pc := 63) rfl 0 rfl C dX6_waysLeft_63 ?_
      have u17 : TA Y (r l0 4) 10 64 := wt_a hw t0 (by decide) (by decide) rfl
      refine g_getR (pc := 64) C fl_RX6_25 t0 rfl dX6_waysLeft_64 ?_
      refine g_iload_n (pc := 67) rfl 3 rfl C dX6_waysLeft_67 ?_
      refine g_iconst (pc := 68) (v := 1) (by decide) C dX6_waysLeft_68 ?_
      refine g_iload (pc := 69) 5 rfl C dX6_waysLeft_69 ?_
      refine g_ishl (pc := 71) C dX6_waysLeft_71 ?_
      refine g_ior (pc := 72) C dX6_waysLeft_72 ?_
      refine g_dup2 (pc := 73) rfl rfl C dX6_waysLeft_73 ?_
      refine g_topi (fun i18 ei18 => ?_)
      have hD := hD i18 ei18
      obtain ⟨hb, hD⟩ := hD
      refine g_iald (pc := 74) C u17 hb dX6_waysLeft_74 ?_
      refine g_aload_n (pc := 75) rfl 0 rfl C dX6_waysLeft_75 ?_
      have u19 : TA Y (r l0 4) 10 64 := wt_a hw t0 (by decide) (by decide) rfl
      refine g_getR (pc := 76) C fl_RX6_25 t0 rfl dX6_waysLeft_76 ?_
      refine g_iload_n (pc := 79) rfl 3 rfl C dX6_waysLeft_79 ?_
      obtain ⟨hb, hD⟩ := hD
      refine g_iald (pc := 80) C u19 hb dX6_waysLeft_80 ?_
      refine g_iadd (pc := 81) C dX6_waysLeft_81 ?_
      obtain ⟨hb, hD⟩ := hD
      refine g_iast (pc := 82) C u17 hb dX6_waysLeft_82 (fun h20 eh20 => ?_)
      have hD := hD h20 eh20
      refine g_iinc (pc := 83) (q := 5) (c := 1) (fun x21 => [(5, .int x21), (0, .ref l0), (1, .int l1), (2, .int l2), (3, .int l3), (4, .int l4)]) C dX6_waysLeft_83 rfl (by decide) (by decide) rfl (fun x21 ex21 => ?_)
      have hD := hD x21 ex21
      refine g_goto (pc := 86) 46 C dX6_waysLeft_86 (by decide) ?_
      refine g_sub [1, 2, 3, 4, 5, 0] rfl ?_
      exact hK46 x21 h20 hD
def DB_Told_waysLeft_23 (r : TR) (l0 : Nat) (l1 : Int32) (l2 : Int32) (l3 : Int32) (h : TH) (K23 : Int32 → TH → Prop) (K95 : TH → Prop) (Q : Int32 → TH → Prop) : Prop :=
  ((l2 ≤ l3 → K95 h) ∧ (¬ l2 ≤ l3 → D_JI_bitCount r l3 h (fun x11 h10 => vp_in x11 6 ∧ ∀ x12 : Int32, x12 = (h10.1 (r l0 3) x11.toNatClampNeg) &&& (l3 ^^^ (-1)) → ∃ n, lp (fun (K : Int32 × TH → Prop) (s : Int32 × TH) => DB_Told_waysLeft_46 r l0 l1 l2 l3 x12 s.1 s.2 K23 (fun y22 h23 => K (y22, h23)) (fun h24 => ∀ x25 : Int32, x25 = l3 + 1 → K23 x25 h24) K95 Q) n (0, h10))))
set_option maxRecDepth 100000 in
set_option maxHeartbeats 4000000 in
theorem WB_Told_waysLeft_23 {Y : CG} {X : CX} {r : TR} {l0 : Nat} {l1 : Int32} {l2 : Int32} {l3 : Int32} {h : TH} {K23 : Int32 → TH → Prop} {K95 : TH → Prop} {Q : Int32 → TH → Prop} (C : Gd Y X cX6_waysLeft 6 RX6 2) (R : Ri Y r X .int Q) (t0 : TO Y l0 6) (hK23 : ∀ (k3 : Int32) (hh : TH), K23 k3 hh → G Y X 6 23 [(0, .ref l0), (1, .int l1), (2, .int l2), (3, .int k3)] [] r hh) (hK95 : ∀ (hh : TH), K95 hh → G Y X 6 95 [(0, .ref l0), (2, .int l2)] [] r hh) (hD : DB_Told_waysLeft_23 r l0 l1 l2 l3 h K23 K95 Q) : G Y X 6 23 [(0, .ref l0), (1, .int l1), (2, .int l2), (3, .int l3)] [] r h := by
  unfold DB_Told_waysLeft_23 at hD
  refine g_wt (fun hw => ?_)
  refine g_iload_n (pc := 23) rfl 3 rfl C dX6_waysLeft_23 ?_
  refine g_iload_n (pc := 24) rfl 2 rfl C dX6_waysLeft_24 ?_
  refine g_icmp_ge (pc := 25) 95 C dX6_waysLeft_25 (by decide) (fun c8 => ?_) (fun c8 => ?_)
  · have hD := hD.1 c8
    refine g_sub [0, 2] rfl ?_
    exact hK95 h hD
  · have hD := hD.2 c8
    refine g_aload_n (pc := 28) rfl 0 rfl C dX6_waysLeft_28 ?_
    have u9 : TA Y (r l0 3) 10 6 := wt_a hw t0 (by decide) (by decide) rfl
    refine g_getR (pc := 29) C fl_RX6_22 t0 rfl dX6_waysLeft_29 ?_
    refine g_iload_n (pc := 32) rfl 3 rfl C dX6_waysLeft_32 ?_
    refine g_callSi (pc := 33) (As := [.int l3]) C ms_RX6_34 (M_JI_bitCount  hD) (by decide) rfl rfl (Nat.le_of_ble_eq_true rfl) dX6_waysLeft_33 (fun x11 h10 hD => ?_)
    obtain ⟨hb, hD⟩ := hD
    refine g_iald (pc := 36) C u9 hb dX6_waysLeft_36 ?_
    refine g_iload_n (pc := 37) rfl 3 rfl C dX6_waysLeft_37 ?_
    refine g_iconst (pc := 38) (v := (-1)) (by decide) C dX6_waysLeft_38 ?_
    refine g_ixor (pc := 39) C dX6_waysLeft_39 ?_
    refine g_iand (pc := 40) C dX6_waysLeft_40 ?_
    refine g_istore (pc := 41) (fun x12 => [(4, .int x12), (0, .ref l0), (1, .int l1), (2, .int l2), (3, .int l3)]) C dX6_waysLeft_41 (by decide) rfl (fun x12 ex12 => ?_)
    have hD := hD x12 ex12
    refine g_iconst (pc := 43) (v := 0) (by decide) C dX6_waysLeft_43 ?_
    refine g_istore (pc := 44) (fun _ => [(5, .int 0), (4, .int x12), (0, .ref l0), (1, .int l1), (2, .int l2), (3, .int l3)]) C dX6_waysLeft_44 (by decide) rfl (fun _ _ => ?_)
    obtain ⟨n, hD⟩ := hD
    refine g_sub [2, 3, 4, 5, 1, 0] rfl ?_
    refine lp_run (fun s : Int32 × TH => G Y X 6 46 [(0, .ref l0), (1, .int l1), (2, .int l2), (3, .int l3), (4, .int x12), (5, .int s.1)] [] r s.2) (fun K s hB hK => ?_) n (0, h10) hD
    refine WB_Told_waysLeft_46 C R t0 hK23 (fun y22 h23 hk => hK _ hk) (fun h24 hD => ?_) hK95 hB
    · refine g_iinc (pc := 89) (q := 3) (c := 1) (fun x25 => [(3, .int x25), (0, .ref l0), (1, .int l1), (2, .int l2)]) C dX6_waysLeft_89 rfl (by decide) (by decide) rfl (fun x25 ex25 => ?_)
      have hD := hD x25 ex25
      refine g_goto (pc := 92) 23 C dX6_waysLeft_92 (by decide) ?_
      refine g_sub [1, 2, 3, 0] rfl ?_
      exact hK23 x25 h24 hD
def D_Told_waysLeft (r : TR) (o : Nat) (a1 : Int32) (h : TH) (Q : Int32 → TH → Prop) : Prop :=
  ∀ x1 : Int32, x1 = ((1 : Int32) <<< (a1 &&& 31)) - 1 → D_JA_fill r (r o 4) 64 0 h (fun h3 => ∀ h6, h6 = pI h3 (r o 4) ((0 : Int32).toNatClampNeg) 1 → ∃ n, lp (fun (K : Int32 × TH → Prop) (s : Int32 × TH) => DB_Told_waysLeft_23 r o a1 x1 s.1 s.2 (fun y26 h27 => K (y26, h27)) (fun h28 => vp_in x1 64 ∧ Q (h28.1 (r o 4) x1.toNatClampNeg) h28) Q) n (0, h6))
set_option maxRecDepth 100000 in
set_option maxHeartbeats 4000000 in
theorem M_Told_waysLeft {Y : CG} {r : TR} {l : Launch} {o : Nat} {a1 : Int32} {h : TH} {Q : Int32 → TH → Prop} (t0 : TO Y o 6) (hD : D_Told_waysLeft r o a1 h Q) : Mi Y r l yX6_waysLeft cX6_waysLeft 6 .int 2 [.ref o, .int a1] h Q := by
  unfold D_Told_waysLeft at hD
  refine Mi.of RX6 rfl (by decide) (by simp [lg_sl, Value.category]) [(0, .ref o), (1, .int a1)] rfl (fun X hXl C R => ?_)
  subst hXl
  refine g_wt (fun hw => ?_)
  refine g_iconst (pc := 0) (v := 1) (by decide) C dX6_waysLeft_0 ?_
  refine g_iload_n (pc := 1) rfl 1 rfl C dX6_waysLeft_1 ?_
  refine g_ishl (pc := 2) C dX6_waysLeft_2 ?_
  refine g_iconst (pc := 3) (v := 1) (by decide) C dX6_waysLeft_3 ?_
  refine g_isub (pc := 4) C dX6_waysLeft_4 ?_
  refine g_istore_n (pc := 5) (fun x1 => [(2, .int x1), (0, .ref o), (1, .int a1)]) C dX6_waysLeft_5 rfl (by decide) rfl (fun x1 ex1 => ?_)
  have hD := hD x1 ex1
  refine g_aload_n (pc := 6) rfl 1 rfl C dX6_waysLeft_6 ?_
  have u2 : TA Y (r o 4) 10 64 := wt_a hw t0 (by decide) (by decide) rfl
  refine g_getR (pc := 7) C fl_RX6_25 t0 rfl dX6_waysLeft_7 ?_
  refine g_iconst (pc := 10) (v := 0) (by decide) C dX6_waysLeft_10 ?_
  refine g_callSv (pc := 11) (As := [.ref (r o 4), .int 0]) C ms_RX6_28 (M_JA_fill u2 hD) (by decide) rfl rfl (Nat.le_of_ble_eq_true rfl) dX6_waysLeft_11 (fun h3 hD => ?_)
  refine g_aload_n (pc := 14) rfl 1 rfl C dX6_waysLeft_14 ?_
  have u5 : TA Y (r o 4) 10 64 := wt_a hw t0 (by decide) (by decide) rfl
  refine g_getR (pc := 15) C fl_RX6_25 t0 rfl dX6_waysLeft_15 ?_
  refine g_iconst (pc := 18) (v := 0) (by decide) C dX6_waysLeft_18 ?_
  refine g_iconst (pc := 19) (v := 1) (by decide) C dX6_waysLeft_19 ?_
  refine g_iast (pc := 20) C u5 (by unfold vp_in; decide) dX6_waysLeft_20 (fun h6 eh6 => ?_)
  have hD := hD h6 eh6
  refine g_iconst (pc := 21) (v := 0) (by decide) C dX6_waysLeft_21 ?_
  refine g_istore_n (pc := 22) (fun _ => [(3, .int 0), (2, .int x1), (0, .ref o), (1, .int a1)]) C dX6_waysLeft_22 rfl (by decide) rfl (fun _ _ => ?_)
  obtain ⟨n, hD⟩ := hD
  refine g_sub [2, 3, 1, 0] rfl ?_
  refine lp_run (fun s : Int32 × TH => G Y X 6 23 [(0, .ref o), (1, .int a1), (2, .int x1), (3, .int s.1)] [] r s.2) (fun K s hB hK => ?_) n (0, h6) hD
  refine WB_Told_waysLeft_23 C R t0 (fun y26 h27 hk => hK _ hk) (fun h28 hD => ?_) hB
  · refine g_aload_n (pc := 95) rfl 0 rfl C dX6_waysLeft_95 ?_
    have u29 : TA Y (r o 4) 10 64 := wt_a hw t0 (by decide) (by decide) rfl
    refine g_getR (pc := 96) C fl_RX6_25 t0 rfl dX6_waysLeft_96 ?_
    refine g_iload_n (pc := 99) rfl 1 rfl C dX6_waysLeft_99 ?_
    obtain ⟨hb, hD⟩ := hD
    refine g_iald (pc := 100) C u29 hb dX6_waysLeft_100 ?_
    exact g_iret (pc := 101) C R dX6_waysLeft_101 hD
def DB_Told_ownerOf_17 (r : TR) (l0 : Nat) (l1 : Int32) (l2 : Int32) (l3 : Int32) (l4 : Int32) (l5 : Int32) (h : TH) (K17 : Int32 → TH → Prop) (K58 : TH → Prop) (Q : Int32 → TH → Prop) : Prop :=
  ((l2 ≤ l5 → K58 h) ∧ (¬ l2 ≤ l5 → ((l3 ≤ 0 → K58 h) ∧ (¬ l3 ≤ 0 → vp_in l1 6 ∧ ∀ h10, h10 = pI h (r l0 3) l1.toNatClampNeg (l4 &&& ((1 : Int32) <<< (l5 &&& 31))) → D_Told_waysLeft r l0 l2 h10 (fun x12 h11 => ((¬ x12 = l3 → ∀ x14 : Int32, x14 = l5 + 1 → K17 x14 h11) ∧ (x12 = l3 → Q l5 h11)))))))
set_option maxRecDepth 100000 in
set_option maxHeartbeats 4000000 in
theorem WB_Told_ownerOf_17 {Y : CG} {X : CX} {r : TR} {l0 : Nat} {l1 : Int32} {l2 : Int32} {l3 : Int32} {l4 : Int32} {l5 : Int32} {h : TH} {K17 : Int32 → TH → Prop} {K58 : TH → Prop} {Q : Int32 → TH → Prop} (C : Gd Y X cX6_ownerOf 6 RX6 3) (R : Ri Y r X .int Q) (t0 : TO Y l0 6) (hK17 : ∀ (k5 : Int32) (hh : TH), K17 k5 hh → G Y X 6 17 [(0, .ref l0), (1, .int l1), (2, .int l2), (3, .int l3), (4, .int l4), (5, .int k5)] [] r hh) (hK58 : ∀ (hh : TH), K58 hh → G Y X 6 58 [] [] r hh) (hD : DB_Told_ownerOf_17 r l0 l1 l2 l3 l4 l5 h K17 K58 Q) : G Y X 6 17 [(0, .ref l0), (1, .int l1), (2, .int l2), (3, .int l3), (4, .int l4), (5, .int l5)] [] r h := by
  unfold DB_Told_ownerOf_17 at hD
  refine g_wt (fun hw => ?_)
  refine g_iload (pc := 17) 5 rfl C dX6_ownerOf_17 ?_
  refine g_iload_n (pc := 19) rfl 2 rfl C dX6_ownerOf_19 ?_
  refine g_icmp_ge (pc := 20) 58 C dX6_ownerOf_20 (by decide) (fun c7 => ?_) (fun c7 => ?_)
  · have hD := hD.1 c7
    refine g_sub [] rfl ?_
    exact hK58 h hD
  · have hD := hD.2 c7
    refine g_iload_n (pc := 23) rfl 3 rfl C dX6_ownerOf_23 ?_
    refine g_if_le (pc := 24) 58 C dX6_ownerOf_24 (by decide) (fun c8 => ?_) (fun c8 => ?_)
    · have hD := hD.1 c8
      refine g_sub [] rfl ?_
      exact hK58 h hD
    · have hD := hD.2 c8
      refine g_aload_n (pc := 27) rfl 0 rfl C dX6_ownerOf_27 ?_
      have u9 : TA Y (r l0 3) 10 6 := wt_a hw t0 (by decide) (by decide) rfl
      refine g_getR (pc := 28) C fl_RX6_22 t0 rfl dX6_ownerOf_28 ?_
      refine g_iload_n (pc := 31) rfl 1 rfl C dX6_ownerOf_31 ?_
      refine g_iload (pc := 32) 4 rfl C dX6_ownerOf_32 ?_
      refine g_iconst (pc := 34) (v := 1) (by decide) C dX6_ownerOf_34 ?_
      refine g_iload (pc := 35) 5 rfl C dX6_ownerOf_35 ?_
      refine g_ishl (pc := 37) C dX6_ownerOf_37 ?_
      refine g_iand (pc := 38) C dX6_ownerOf_38 ?_
      obtain ⟨hb, hD⟩ := hD
      refine g_iast (pc := 39) C u9 hb dX6_ownerOf_39 (fun h10 eh10 => ?_)
      have hD := hD h10 eh10
      refine g_aload_n (pc := 40) rfl 0 rfl C dX6_ownerOf_40 ?_
      refine g_iload_n (pc := 41) rfl 2 rfl C dX6_ownerOf_41 ?_
      refine g_callVi (pc := 42) (As := [.int l2]) C mv_RX6_40 (M_Told_waysLeft t0 hD) t0 (by decide) rfl rfl (Nat.le_of_ble_eq_true rfl) dX6_ownerOf_42 (fun x12 h11 hD => ?_)
      refine g_iload_n (pc := 45) rfl 3 rfl C dX6_ownerOf_45 ?_
      refine g_icmp_ne (pc := 46) 52 C dX6_ownerOf_46 (by decide) (fun c13 => ?_) (fun c13 => ?_)
      · have hD := hD.1 c13
        refine g_iinc (pc := 52) (q := 5) (c := 1) (fun x14 => [(5, .int x14), (0, .ref l0), (1, .int l1), (2, .int l2), (3, .int l3), (4, .int l4)]) C dX6_ownerOf_52 rfl (by decide) (by decide) rfl (fun x14 ex14 => ?_)
        have hD := hD x14 ex14
        refine g_goto (pc := 55) 17 C dX6_ownerOf_55 (by decide) ?_
        refine g_sub [1, 2, 3, 4, 5, 0] rfl ?_
        exact hK17 x14 h11 hD
      · have hD := hD.2 c13
        refine g_iload (pc := 49) 5 rfl C dX6_ownerOf_49 ?_
        exact g_iret (pc := 51) C R dX6_ownerOf_51 hD
def D_Told_ownerOf (r : TR) (o : Nat) (a1 : Int32) (a2 : Int32) (h : TH) (Q : Int32 → TH → Prop) : Prop :=
  D_Told_waysLeft r o a2 h (fun x2 h1 => vp_in a1 6 ∧ ∀ x5 : Int32, x5 = h1.1 (r o 3) a1.toNatClampNeg → ∃ n, lp (fun (K : Int32 × TH → Prop) (s : Int32 × TH) => DB_Told_ownerOf_17 r o a1 a2 x2 x5 s.1 s.2 (fun y15 h16 => K (y15, h16)) (fun h17 => Q (-2) h17) Q) n (0, h1))
set_option maxRecDepth 100000 in
set_option maxHeartbeats 4000000 in
theorem M_Told_ownerOf {Y : CG} {r : TR} {l : Launch} {o : Nat} {a1 : Int32} {a2 : Int32} {h : TH} {Q : Int32 → TH → Prop} (t0 : TO Y o 6) (hD : D_Told_ownerOf r o a1 a2 h Q) : Mi Y r l yX6_ownerOf cX6_ownerOf 6 .int 3 [.ref o, .int a1, .int a2] h Q := by
  unfold D_Told_ownerOf at hD
  refine Mi.of RX6 rfl (by decide) (by simp [lg_sl, Value.category]) [(0, .ref o), (1, .int a1), (2, .int a2)] rfl (fun X hXl C R => ?_)
  subst hXl
  refine g_wt (fun hw => ?_)
  refine g_aload_n (pc := 0) rfl 0 rfl C dX6_ownerOf_0 ?_
  refine g_iload_n (pc := 1) rfl 2 rfl C dX6_ownerOf_1 ?_
  refine g_callVi (pc := 2) (As := [.int a2]) C mv_RX6_40 (M_Told_waysLeft t0 hD) t0 (by decide) rfl rfl (Nat.le_of_ble_eq_true rfl) dX6_ownerOf_2 (fun x2 h1 hD => ?_)
  refine g_istore_n (pc := 5) (fun _ => [(3, .int x2), (0, .ref o), (1, .int a1), (2, .int a2)]) C dX6_ownerOf_5 rfl (by decide) rfl (fun _ _ => ?_)
  refine g_aload_n (pc := 6) rfl 1 rfl C dX6_ownerOf_6 ?_
  have u4 : TA Y (r o 3) 10 6 := wt_a hw t0 (by decide) (by decide) rfl
  refine g_getR (pc := 7) C fl_RX6_22 t0 rfl dX6_ownerOf_7 ?_
  refine g_iload_n (pc := 10) rfl 2 rfl C dX6_ownerOf_10 ?_
  obtain ⟨hb, hD⟩ := hD
  refine g_iald (pc := 11) C u4 hb dX6_ownerOf_11 ?_
  refine g_istore (pc := 12) (fun x5 => [(4, .int x5), (3, .int x2), (0, .ref o), (1, .int a1), (2, .int a2)]) C dX6_ownerOf_12 (by decide) rfl (fun x5 ex5 => ?_)
  have hD := hD x5 ex5
  refine g_iconst (pc := 14) (v := 0) (by decide) C dX6_ownerOf_14 ?_
  refine g_istore (pc := 15) (fun _ => [(5, .int 0), (4, .int x5), (3, .int x2), (0, .ref o), (1, .int a1), (2, .int a2)]) C dX6_ownerOf_15 (by decide) rfl (fun _ _ => ?_)
  obtain ⟨n, hD⟩ := hD
  refine g_sub [3, 4, 5, 2, 1, 0] rfl ?_
  refine lp_run (fun s : Int32 × TH => G Y X 6 17 [(0, .ref o), (1, .int a1), (2, .int a2), (3, .int x2), (4, .int x5), (5, .int s.1)] [] r s.2) (fun K s hB hK => ?_) n (0, h1) hD
  refine WB_Told_ownerOf_17 C R t0 (fun y15 h16 hk => hK _ hk) (fun h17 hD => ?_) hB
  · refine g_bipush (pc := 58) (v := (-2)) (by decide) C dX6_ownerOf_58 ?_
    exact g_iret (pc := 60) C R dX6_ownerOf_60 hD
def D_SR_isBoat (r : TR) (o : Nat) (a1 : Int32) (h : TH) (Q : Int32 → TH → Prop) : Prop :=
  ((a1 < 0 → Q 0 h) ∧ (¬ a1 < 0 → (((h.1 (r o 1) 2) ≤ a1 → Q 0 h) ∧ (¬ (h.1 (r o 1) 2) ≤ a1 → Q 1 h))))
set_option maxRecDepth 100000 in
set_option maxHeartbeats 4000000 in
theorem M_SR_isBoat {Y : CG} {r : TR} {l : Launch} {o : Nat} {a1 : Int32} {h : TH} {Q : Int32 → TH → Prop} (t0 : TO Y o 7) (hD : D_SR_isBoat r o a1 h Q) : Mi Y r l yX7_isBoat cX7_isBoat 2 .boolean 1 [.ref o, .int a1] h Q := by
  unfold D_SR_isBoat at hD
  refine Mi.of RX7 rfl (by decide) (by simp [lg_sl, Value.category]) [(0, .ref o), (1, .int a1)] rfl (fun X hXl C R => ?_)
  subst hXl
  refine g_wt (fun hw => ?_)
  refine g_iload_n (pc := 0) rfl 1 rfl C dX7_isBoat_0 ?_
  refine g_if_lt (pc := 1) 19 C dX7_isBoat_1 (by decide) (fun c1 => ?_) (fun c1 => ?_)
  · have hD := hD.1 c1
    refine g_iconst (pc := 19) (v := 0) (by decide) C dX7_isBoat_19 ?_
    exact g_zret (pc := 20) C R nz_0 dX7_isBoat_20 hD
  · have hD := hD.2 c1
    refine g_iload_n (pc := 4) rfl 1 rfl C dX7_isBoat_4 ?_
    refine g_aload_n (pc := 5) rfl 0 rfl C dX7_isBoat_5 ?_
    have u2 : TO Y (r o 1) 0 := wt_o hw t0 (by decide) rfl
    refine g_getR (pc := 6) C fl_RX7_19 t0 rfl dX7_isBoat_6 ?_
    refine g_getI (pc := 9) C fl_RX7_133 u2 rfl dX7_isBoat_9 ?_
    refine g_icmp_ge (pc := 12) 19 C dX7_isBoat_12 (by decide) (fun c3 => ?_) (fun c3 => ?_)
    · have hD := hD.1 c3
      refine g_iconst (pc := 19) (v := 0) (by decide) C dX7_isBoat_19 ?_
      exact g_zret (pc := 20) C R nz_0 dX7_isBoat_20 hD
    · have hD := hD.2 c3
      refine g_iconst (pc := 15) (v := 1) (by decide) C dX7_isBoat_15 ?_
      refine g_goto (pc := 16) 20 C dX7_isBoat_16 (by decide) ?_
      exact g_zret (pc := 20) C R nz_1 dX7_isBoat_20 hD
def D_SR_arePair (r : TR) (o : Nat) (a1 : Int32) (a2 : Int32) (h : TH) (Q : Int32 → TH → Prop) : Prop :=
  D_SR_isBoat r o a1 h (fun x2 h1 => ((x2 = 0 → Q 0 h1) ∧ (¬ x2 = 0 → D_SR_isBoat r o a2 h1 (fun x5 h4 => ((x5 = 0 → Q 0 h4) ∧ (¬ x5 = 0 → ((a1 = a2 → Q 0 h4) ∧ (¬ a1 = a2 → Q 1 h4))))))))
set_option maxRecDepth 100000 in
set_option maxHeartbeats 4000000 in
theorem M_SR_arePair {Y : CG} {r : TR} {l : Launch} {o : Nat} {a1 : Int32} {a2 : Int32} {h : TH} {Q : Int32 → TH → Prop} (t0 : TO Y o 7) (hD : D_SR_arePair r o a1 a2 h Q) : Mi Y r l yX7_arePair cX7_arePair 3 .boolean 2 [.ref o, .int a1, .int a2] h Q := by
  unfold D_SR_arePair at hD
  refine Mi.of RX7 rfl (by decide) (by simp [lg_sl, Value.category]) [(0, .ref o), (1, .int a1), (2, .int a2)] rfl (fun X hXl C R => ?_)
  subst hXl
  refine g_wt (fun hw => ?_)
  refine g_aload_n (pc := 0) rfl 0 rfl C dX7_arePair_0 ?_
  refine g_iload_n (pc := 1) rfl 1 rfl C dX7_arePair_1 ?_
  refine g_callVi (pc := 2) (As := [.int a1]) C mv_RX7_99 (M_SR_isBoat t0 hD) t0 (by decide) rfl rfl (Nat.le_of_ble_eq_true rfl) dX7_arePair_2 (fun x2 h1 hD => ?_)
  refine g_if_eq (pc := 5) 25 C dX7_arePair_5 (by decide) (fun c3 => ?_) (fun c3 => ?_)
  · have hD := hD.1 c3
    refine g_iconst (pc := 25) (v := 0) (by decide) C dX7_arePair_25 ?_
    exact g_zret (pc := 26) C R nz_0 dX7_arePair_26 hD
  · have hD := hD.2 c3
    refine g_aload_n (pc := 8) rfl 0 rfl C dX7_arePair_8 ?_
    refine g_iload_n (pc := 9) rfl 2 rfl C dX7_arePair_9 ?_
    refine g_callVi (pc := 10) (As := [.int a2]) C mv_RX7_99 (M_SR_isBoat t0 hD) t0 (by decide) rfl rfl (Nat.le_of_ble_eq_true rfl) dX7_arePair_10 (fun x5 h4 hD => ?_)
    refine g_if_eq (pc := 13) 25 C dX7_arePair_13 (by decide) (fun c6 => ?_) (fun c6 => ?_)
    · have hD := hD.1 c6
      refine g_iconst (pc := 25) (v := 0) (by decide) C dX7_arePair_25 ?_
      exact g_zret (pc := 26) C R nz_0 dX7_arePair_26 hD
    · have hD := hD.2 c6
      refine g_iload_n (pc := 16) rfl 1 rfl C dX7_arePair_16 ?_
      refine g_iload_n (pc := 17) rfl 2 rfl C dX7_arePair_17 ?_
      refine g_icmp_eq (pc := 18) 25 C dX7_arePair_18 (by decide) (fun c7 => ?_) (fun c7 => ?_)
      · have hD := hD.1 c7
        refine g_iconst (pc := 25) (v := 0) (by decide) C dX7_arePair_25 ?_
        exact g_zret (pc := 26) C R nz_0 dX7_arePair_26 hD
      · have hD := hD.2 c7
        refine g_iconst (pc := 21) (v := 1) (by decide) C dX7_arePair_21 ?_
        refine g_goto (pc := 22) 26 C dX7_arePair_22 (by decide) ?_
        exact g_zret (pc := 26) C R nz_1 dX7_arePair_26 hD
def D_SR_back (r : TR) (o : Nat) (a1 : Int32) (h : TH) (Q : Int32 → TH → Prop) : Prop :=
  ((a1 < 0 → Q (-1) h) ∧ (¬ a1 < 0 → ((a1 ≤ (h.1 (r o 0) 1) → ∀ h5, h5 = pI h (r o 0) 1 ((h.1 (r o 0) 1) - a1) → Q (h5.1 (r o 0) 1) h5) ∧ (¬ a1 ≤ (h.1 (r o 0) 1) → Q (-1) h))))
set_option maxRecDepth 100000 in
set_option maxHeartbeats 4000000 in
theorem M_SR_back {Y : CG} {r : TR} {l : Launch} {o : Nat} {a1 : Int32} {h : TH} {Q : Int32 → TH → Prop} (t0 : TO Y o 7) (hD : D_SR_back r o a1 h Q) : Mi Y r l yX7_back cX7_back 2 .int 1 [.ref o, .int a1] h Q := by
  unfold D_SR_back at hD
  refine Mi.of RX7 rfl (by decide) (by simp [lg_sl, Value.category]) [(0, .ref o), (1, .int a1)] rfl (fun X hXl C R => ?_)
  subst hXl
  refine g_wt (fun hw => ?_)
  refine g_iload_n (pc := 0) rfl 1 rfl C dX7_back_0 ?_
  refine g_if_lt (pc := 1) 15 C dX7_back_1 (by decide) (fun c1 => ?_) (fun c1 => ?_)
  · have hD := hD.1 c1
    refine g_iconst (pc := 15) (v := (-1)) (by decide) C dX7_back_15 ?_
    exact g_iret (pc := 16) C R dX7_back_16 hD
  · have hD := hD.2 c1
    refine g_iload_n (pc := 4) rfl 1 rfl C dX7_back_4 ?_
    refine g_aload_n (pc := 5) rfl 0 rfl C dX7_back_5 ?_
    have u2 : TO Y (r o 0) 4 := wt_o hw t0 (by decide) rfl
    refine g_getR (pc := 6) C fl_RX7_12 t0 rfl dX7_back_6 ?_
    refine g_getI (pc := 9) C fl_RX7_66 u2 rfl dX7_back_9 ?_
    refine g_icmp_le (pc := 12) 17 C dX7_back_12 (by decide) (fun c3 => ?_) (fun c3 => ?_)
    · have hD := hD.1 c3
      refine g_aload_n (pc := 17) rfl 0 rfl C dX7_back_17 ?_
      have u4 : TO Y (r o 0) 4 := wt_o hw t0 (by decide) rfl
      refine g_getR (pc := 18) C fl_RX7_12 t0 rfl dX7_back_18 ?_
      refine g_dup (pc := 21) rfl C dX7_back_21 ?_
      refine g_getI (pc := 22) C fl_RX7_66 u4 rfl dX7_back_22 ?_
      refine g_iload_n (pc := 25) rfl 1 rfl C dX7_back_25 ?_
      refine g_isub (pc := 26) C dX7_back_26 ?_
      refine g_putI (pc := 27) C fl_RX7_66 u4 rfl rfl rfl dX7_back_27 (fun h5 eh5 => ?_)
      have hD := hD h5 eh5
      refine g_aload_n (pc := 30) rfl 0 rfl C dX7_back_30 ?_
      have u6 : TO Y (r o 0) 4 := wt_o hw t0 (by decide) rfl
      refine g_getR (pc := 31) C fl_RX7_12 t0 rfl dX7_back_31 ?_
      refine g_getI (pc := 34) C fl_RX7_66 u6 rfl dX7_back_34 ?_
      exact g_iret (pc := 37) C R dX7_back_37 hD
    · have hD := hD.2 c3
      refine g_iconst (pc := 15) (v := (-1)) (by decide) C dX7_back_15 ?_
      exact g_iret (pc := 16) C R dX7_back_16 hD
def D_SR_isWithin (r : TR) (a0 : Int32) (a1 : Int32) (a2 : Int32) (h : TH) (Q : Int32 → TH → Prop) : Prop :=
  ((a0 < a1 → Q 0 h) ∧ (¬ a0 < a1 → ((a2 < a0 → Q 0 h) ∧ (¬ a2 < a0 → Q 1 h))))
set_option maxRecDepth 100000 in
set_option maxHeartbeats 4000000 in
theorem M_SR_isWithin {Y : CG} {r : TR} {l : Launch} {a0 : Int32} {a1 : Int32} {a2 : Int32} {h : TH} {Q : Int32 → TH → Prop} (hD : D_SR_isWithin r a0 a1 a2 h Q) : Mi Y r l yX7_isWithin cX7_isWithin 3 .boolean 1 [.int a0, .int a1, .int a2] h Q := by
  unfold D_SR_isWithin at hD
  refine Mi.of RX7 rfl (by decide) (by simp [lg_sl, Value.category]) [(0, .int a0), (1, .int a1), (2, .int a2)] rfl (fun X hXl C R => ?_)
  subst hXl
  refine g_wt (fun hw => ?_)
  refine g_iload_n (pc := 0) rfl 0 rfl C dX7_isWithin_0 ?_
  refine g_iload_n (pc := 1) rfl 1 rfl C dX7_isWithin_1 ?_
  refine g_icmp_lt (pc := 2) 14 C dX7_isWithin_2 (by decide) (fun c1 => ?_) (fun c1 => ?_)
  · have hD := hD.1 c1
    refine g_iconst (pc := 14) (v := 0) (by decide) C dX7_isWithin_14 ?_
    exact g_zret (pc := 15) C R nz_0 dX7_isWithin_15 hD
  · have hD := hD.2 c1
    refine g_iload_n (pc := 5) rfl 0 rfl C dX7_isWithin_5 ?_
    refine g_iload_n (pc := 6) rfl 2 rfl C dX7_isWithin_6 ?_
    refine g_icmp_gt (pc := 7) 14 C dX7_isWithin_7 (by decide) (fun c2 => ?_) (fun c2 => ?_)
    · have hD := hD.1 c2
      refine g_iconst (pc := 14) (v := 0) (by decide) C dX7_isWithin_14 ?_
      exact g_zret (pc := 15) C R nz_0 dX7_isWithin_15 hD
    · have hD := hD.2 c2
      refine g_iconst (pc := 10) (v := 1) (by decide) C dX7_isWithin_10 ?_
      refine g_goto (pc := 11) 15 C dX7_isWithin_11 (by decide) ?_
      exact g_zret (pc := 15) C R nz_1 dX7_isWithin_15 hD
def D_SR_lookAhead (r : TR) (o : Nat) (a1 : Int32) (h : TH) (Q : TH → Prop) : Prop :=
  D_Sc_copyFrom r (r o 3) (r o 2) h (fun h3 => D_Bay_passHours r (r o 1) (r o 3) a1 (h3.1 (r o 1) 4) h3 (fun h8 => Q h8))
set_option maxRecDepth 100000 in
set_option maxHeartbeats 4000000 in
theorem M_SR_lookAhead {Y : CG} {r : TR} {l : Launch} {o : Nat} {a1 : Int32} {h : TH} {Q : TH → Prop} (t0 : TO Y o 7) (hD : D_SR_lookAhead r o a1 h Q) : Mv Y r l yX7_lookAhead cX7_lookAhead 2 7 [.ref o, .int a1] h Q := by
  unfold D_SR_lookAhead at hD
  refine Mv.of RX7 rfl (by decide) (by simp [lg_sl, Value.category]) [(0, .ref o), (1, .int a1)] rfl (fun X hXl C R => ?_)
  subst hXl
  refine g_wt (fun hw => ?_)
  refine g_aload_n (pc := 0) rfl 0 rfl C dX7_lookAhead_0 ?_
  have u1 : TO Y (r o 3) 5 := wt_o hw t0 (by decide) rfl
  refine g_getR (pc := 1) C fl_RX7_30 t0 rfl dX7_lookAhead_1 ?_
  refine g_aload_n (pc := 4) rfl 0 rfl C dX7_lookAhead_4 ?_
  have u2 : TO Y (r o 2) 5 := wt_o hw t0 (by decide) rfl
  refine g_getR (pc := 5) C fl_RX7_26 t0 rfl dX7_lookAhead_5 ?_
  refine g_callVv (pc := 8) (As := [.ref (r o 2)]) C mv_RX7_267 (M_Sc_copyFrom u1 u2 hD) u1 (by decide) rfl rfl (Nat.le_of_ble_eq_true rfl) dX7_lookAhead_8 (fun h3 hD => ?_)
  refine g_aload_n (pc := 11) rfl 0 rfl C dX7_lookAhead_11 ?_
  have u5 : TO Y (r o 1) 0 := wt_o hw t0 (by decide) rfl
  refine g_getR (pc := 12) C fl_RX7_19 t0 rfl dX7_lookAhead_12 ?_
  refine g_aload_n (pc := 15) rfl 0 rfl C dX7_lookAhead_15 ?_
  have u6 : TO Y (r o 3) 5 := wt_o hw t0 (by decide) rfl
  refine g_getR (pc := 16) C fl_RX7_30 t0 rfl dX7_lookAhead_16 ?_
  refine g_iload_n (pc := 19) rfl 1 rfl C dX7_lookAhead_19 ?_
  refine g_aload_n (pc := 20) rfl 0 rfl C dX7_lookAhead_20 ?_
  have u7 : TO Y (r o 1) 0 := wt_o hw t0 (by decide) rfl
  refine g_getR (pc := 21) C fl_RX7_19 t0 rfl dX7_lookAhead_21 ?_
  refine g_getI (pc := 24) C fl_RX7_119 u7 rfl dX7_lookAhead_24 ?_
  refine g_callVv (pc := 27) (As := [.ref (r o 3), .int a1, .int (h3.1 (r o 1) 4)]) C mv_RX7_182 (M_Bay_passHours u5 u6 hD) u5 (by decide) rfl rfl (Nat.le_of_ble_eq_true rfl) dX7_lookAhead_27 (fun h8 hD => ?_)
  exact g_vret (pc := 30) C R dX7_lookAhead_30 hD
def DB_SR_bare_21 (r : TR) (l0 : Nat) (l2 : Int32) (l3 : Int32) (h : TH) (K21 : Int32 → Int32 → TH → Prop) (K66 : Int32 → TH → Prop) (Q : Int32 → TH → Prop) : Prop :=
  ((40 ≤ l3 → K66 l2 h) ∧ (¬ 40 ≤ l3 → vp_in l3 40 ∧ ((¬ (h.1 (r (r l0 1) 5) l3.toNatClampNeg) = 0 → ∀ x12 : Int32, x12 = l3 + 1 → K21 l2 x12 h) ∧ ((h.1 (r (r l0 1) 5) l3.toNatClampNeg) = 0 → D_Sc_dishesIn r (r l0 3) l3 (h.1 (r l0 1) 2) h (fun x16 h15 => ((¬ x16 = 0 → ∀ x18 : Int32, x18 = l3 + 1 → K21 l2 x18 h15) ∧ (x16 = 0 → ∀ x19 : Int32, x19 = l2 + 1 → ∀ x20 : Int32, x20 = l3 + 1 → K21 x19 x20 h15)))))))
set_option maxRecDepth 100000 in
set_option maxHeartbeats 4000000 in
theorem WB_SR_bare_21 {Y : CG} {X : CX} {r : TR} {l0 : Nat} {l2 : Int32} {l3 : Int32} {h : TH} {K21 : Int32 → Int32 → TH → Prop} {K66 : Int32 → TH → Prop} {Q : Int32 → TH → Prop} (C : Gd Y X cX7_bare 4 RX7 8) (R : Ri Y r X .int Q) (t0 : TO Y l0 7) (hK21 : ∀ (k2 : Int32) (k3 : Int32) (hh : TH), K21 k2 k3 hh → G Y X 4 21 [(0, .ref l0), (2, .int k2), (3, .int k3)] [] r hh) (hK66 : ∀ (k2 : Int32) (hh : TH), K66 k2 hh → G Y X 4 66 [(2, .int k2)] [] r hh) (hD : DB_SR_bare_21 r l0 l2 l3 h K21 K66 Q) : G Y X 4 21 [(0, .ref l0), (2, .int l2), (3, .int l3)] [] r h := by
  unfold DB_SR_bare_21 at hD
  refine g_wt (fun hw => ?_)
  refine g_iload_n (pc := 21) rfl 2 rfl C dX7_bare_21 ?_
  refine g_bipush (pc := 22) (v := 40) (by decide) C dX7_bare_22 ?_
  refine g_icmp_ge (pc := 24) 66 C dX7_bare_24 (by decide) (fun c8 => ?_) (fun c8 => ?_)
  · have hD := hD.1 c8
    refine g_sub [1] rfl ?_
    exact hK66 l2 h hD
  · have hD := hD.2 c8
    refine g_aload_n (pc := 27) rfl 0 rfl C dX7_bare_27 ?_
    have u9 : TO Y (r l0 1) 0 := wt_o hw t0 (by decide) rfl
    refine g_getR (pc := 28) C fl_RX7_19 t0 rfl dX7_bare_28 ?_
    have u10 : TA Y (r (r l0 1) 5) 10 40 := wt_a hw u9 (by decide) (by decide) rfl
    refine g_getR (pc := 31) C fl_RX7_144 u9 rfl dX7_bare_31 ?_
    refine g_iload_n (pc := 34) rfl 2 rfl C dX7_bare_34 ?_
    obtain ⟨hb, hD⟩ := hD
    refine g_iald (pc := 35) C u10 hb dX7_bare_35 ?_
    refine g_if_ne (pc := 36) 60 C dX7_bare_36 (by decide) (fun c11 => ?_) (fun c11 => ?_)
    · have hD := hD.1 c11
      refine g_iinc (pc := 60) (q := 2) (c := 1) (fun x12 => [(3, .int x12), (0, .ref l0), (2, .int l2)]) C dX7_bare_60 rfl (by decide) (by decide) rfl (fun x12 ex12 => ?_)
      have hD := hD x12 ex12
      refine g_goto (pc := 63) 21 C dX7_bare_63 (by decide) ?_
      refine g_sub [1, 2, 0] rfl ?_
      exact hK21 l2 x12 h hD
    · have hD := hD.2 c11
      refine g_aload_n (pc := 39) rfl 0 rfl C dX7_bare_39 ?_
      have u13 : TO Y (r l0 3) 5 := wt_o hw t0 (by decide) rfl
      refine g_getR (pc := 40) C fl_RX7_30 t0 rfl dX7_bare_40 ?_
      refine g_iload_n (pc := 43) rfl 2 rfl C dX7_bare_43 ?_
      refine g_aload_n (pc := 44) rfl 0 rfl C dX7_bare_44 ?_
      have u14 : TO Y (r l0 1) 0 := wt_o hw t0 (by decide) rfl
      refine g_getR (pc := 45) C fl_RX7_19 t0 rfl dX7_bare_45 ?_
      refine g_getI (pc := 48) C fl_RX7_133 u14 rfl dX7_bare_48 ?_
      refine g_callVi (pc := 51) (As := [.int l3, .int (h.1 (r l0 1) 2)]) C mv_RX7_148 (M_Sc_dishesIn u13 hD) u13 (by decide) rfl rfl (Nat.le_of_ble_eq_true rfl) dX7_bare_51 (fun x16 h15 hD => ?_)
      refine g_if_ne (pc := 54) 60 C dX7_bare_54 (by decide) (fun c17 => ?_) (fun c17 => ?_)
      · have hD := hD.1 c17
        refine g_iinc (pc := 60) (q := 2) (c := 1) (fun x18 => [(3, .int x18), (0, .ref l0), (2, .int l2)]) C dX7_bare_60 rfl (by decide) (by decide) rfl (fun x18 ex18 => ?_)
        have hD := hD x18 ex18
        refine g_goto (pc := 63) 21 C dX7_bare_63 (by decide) ?_
        refine g_sub [1, 2, 0] rfl ?_
        exact hK21 l2 x18 h15 hD
      · have hD := hD.2 c17
        refine g_iinc (pc := 57) (q := 1) (c := 1) (fun x19 => [(2, .int x19), (0, .ref l0), (3, .int l3)]) C dX7_bare_57 rfl (by decide) (by decide) rfl (fun x19 ex19 => ?_)
        have hD := hD x19 ex19
        refine g_iinc (pc := 60) (q := 2) (c := 1) (fun x20 => [(3, .int x20), (2, .int x19), (0, .ref l0)]) C dX7_bare_60 rfl (by decide) (by decide) rfl (fun x20 ex20 => ?_)
        have hD := hD x20 ex20
        refine g_goto (pc := 63) 21 C dX7_bare_63 (by decide) ?_
        refine g_sub [2, 1, 0] rfl ?_
        exact hK21 x19 x20 h15 hD
def D_SR_bare (r : TR) (o : Nat) (a1 : Int32) (h : TH) (Q : Int32 → TH → Prop) : Prop :=
  D_SR_isWithin r a1 0 100 h (fun x2 h1 => ((¬ x2 = 0 → D_SR_lookAhead r o a1 h1 (fun h4 => ∃ n, lp (fun (K : Int32 × Int32 × TH → Prop) (s : Int32 × Int32 × TH) => DB_SR_bare_21 r o s.1 s.2.1 s.2.2 (fun y21 y22 h23 => K (y21, y22, h23)) (fun x24 h25 => Q x24 h25) Q) n (0, 0, h4))) ∧ (x2 = 0 → Q (-1) h1)))
set_option maxRecDepth 100000 in
set_option maxHeartbeats 4000000 in
theorem M_SR_bare {Y : CG} {r : TR} {l : Launch} {o : Nat} {a1 : Int32} {h : TH} {Q : Int32 → TH → Prop} (t0 : TO Y o 7) (hD : D_SR_bare r o a1 h Q) : Mi Y r l yX7_bare cX7_bare 4 .int 8 [.ref o, .int a1] h Q := by
  unfold D_SR_bare at hD
  refine Mi.of RX7 rfl (by decide) (by simp [lg_sl, Value.category]) [(0, .ref o), (1, .int a1)] rfl (fun X hXl C R => ?_)
  subst hXl
  refine g_wt (fun hw => ?_)
  refine g_iload_n (pc := 0) rfl 1 rfl C dX7_bare_0 ?_
  refine g_iconst (pc := 1) (v := 0) (by decide) C dX7_bare_1 ?_
  refine g_bipush (pc := 2) (v := 100) (by decide) C dX7_bare_2 ?_
  refine g_callSi (pc := 4) (As := [.int a1, .int 0, .int 100]) C ms_RX7_169 (M_SR_isWithin  hD) (by decide) rfl rfl (Nat.le_of_ble_eq_true rfl) dX7_bare_4 (fun x2 h1 hD => ?_)
  refine g_if_ne (pc := 7) 12 C dX7_bare_7 (by decide) (fun c3 => ?_) (fun c3 => ?_)
  · have hD := hD.1 c3
    refine g_aload_n (pc := 12) rfl 0 rfl C dX7_bare_12 ?_
    refine g_iload_n (pc := 13) rfl 1 rfl C dX7_bare_13 ?_
    refine g_callVv (pc := 14) (As := [.int a1]) C mv_RX7_193 (M_SR_lookAhead t0 hD) t0 (by decide) rfl rfl (Nat.le_of_ble_eq_true rfl) dX7_bare_14 (fun h4 hD => ?_)
    refine g_iconst (pc := 17) (v := 0) (by decide) C dX7_bare_17 ?_
    refine g_istore_n (pc := 18) (fun _ => [(2, .int 0), (0, .ref o), (1, .int a1)]) C dX7_bare_18 rfl (by decide) rfl (fun _ _ => ?_)
    refine g_iconst (pc := 19) (v := 0) (by decide) C dX7_bare_19 ?_
    refine g_istore_n (pc := 20) (fun _ => [(3, .int 0), (2, .int 0), (0, .ref o), (1, .int a1)]) C dX7_bare_20 rfl (by decide) rfl (fun _ _ => ?_)
    obtain ⟨n, hD⟩ := hD
    refine g_sub [2, 1, 0] rfl ?_
    refine lp_run (fun s : Int32 × Int32 × TH => G Y X 4 21 [(0, .ref o), (2, .int s.1), (3, .int s.2.1)] [] r s.2.2) (fun K s hB hK => ?_) n (0, 0, h4) hD
    refine WB_SR_bare_21 C R t0 (fun y21 y22 h23 hk => hK _ hk) (fun x24 h25 hD => ?_) hB
    · refine g_iload_n (pc := 66) rfl 0 rfl C dX7_bare_66 ?_
      exact g_iret (pc := 67) C R dX7_bare_67 hD
  · have hD := hD.2 c3
    refine g_iconst (pc := 10) (v := (-1)) (by decide) C dX7_bare_10 ?_
    exact g_iret (pc := 11) C R dX7_bare_11 hD
def D_SR_boat (r : TR) (o : Nat) (a1 : Int32) (a2 : Int32) (h : TH) (Q : Int32 → TH → Prop) : Prop :=
  D_SR_isBoat r o a1 h (fun x2 h1 => ((¬ x2 = 0 → ((a2 = 0 → D_Sc_eastOf r (r o 2) a1 h1 (fun x7 h6 => Q x7 h6)) ∧ (¬ a2 = 0 → ((a2 = 1 → D_Sc_southOf r (r o 2) a1 h1 (fun x11 h10 => Q x11 h10)) ∧ (¬ a2 = 1 → ((a2 = 2 → D_Sc_arrivalOf r (r o 2) a1 h1 (fun x15 h14 => Q x15 h14)) ∧ (¬ a2 = 2 → ((a2 = 3 → Q (((h1.1 (r o 2) 2) >>> (a1 &&& 31)) &&& 1) h1) ∧ (¬ a2 = 3 → ((a2 = 4 → Q (((h1.1 (r o 2) 1) >>> (a1 &&& 31)) &&& 1) h1) ∧ (¬ a2 = 4 → ((a2 = 5 → D_Bay_dishesSmelledBy r (r o 1) (r o 2) a1 (h1.1 (r o 1) 4) h1 (fun x25 h24 => Q x25 h24)) ∧ (¬ a2 = 5 → ((a2 = 6 → D_Bay_hasCold r (r o 1) a1 (h1.1 (r o 2) 0) (h1.1 (r o 1) 4) h1 (fun x31 h30 => ((x31 = 0 → Q 0 h30) ∧ (¬ x31 = 0 → Q 1 h30)))) ∧ (¬ a2 = 6 → ((a2 = 7 → D_Sc_rankOf r (r o 2) a1 (h1.1 (r o 1) 2) h1 (fun x37 h36 => Q x37 h36)) ∧ (¬ a2 = 7 → Q (-1) h1))))))))))))))))) ∧ (x2 = 0 → Q (-1) h1)))
set_option maxRecDepth 100000 in
set_option maxHeartbeats 4000000 in
theorem M_SR_boat {Y : CG} {r : TR} {l : Launch} {o : Nat} {a1 : Int32} {a2 : Int32} {h : TH} {Q : Int32 → TH → Prop} (t0 : TO Y o 7) (hD : D_SR_boat r o a1 a2 h Q) : Mi Y r l yX7_boat cX7_boat 3 .int 5 [.ref o, .int a1, .int a2] h Q := by
  unfold D_SR_boat at hD
  refine Mi.of RX7 rfl (by decide) (by simp [lg_sl, Value.category]) [(0, .ref o), (1, .int a1), (2, .int a2)] rfl (fun X hXl C R => ?_)
  subst hXl
  refine g_wt (fun hw => ?_)
  refine g_aload_n (pc := 0) rfl 0 rfl C dX7_boat_0 ?_
  refine g_iload_n (pc := 1) rfl 1 rfl C dX7_boat_1 ?_
  refine g_callVi (pc := 2) (As := [.int a1]) C mv_RX7_99 (M_SR_isBoat t0 hD) t0 (by decide) rfl rfl (Nat.le_of_ble_eq_true rfl) dX7_boat_2 (fun x2 h1 hD => ?_)
  refine g_if_ne (pc := 5) 10 C dX7_boat_5 (by decide) (fun c3 => ?_) (fun c3 => ?_)
  · have hD := hD.1 c3
    refine g_iload_n (pc := 10) rfl 2 rfl C dX7_boat_10 ?_
    by_cases c4 : a2 = 0
    · have hD := hD.1 c4
      refine g_tswIn (pc := 11) 56 C dX7_boat_11 0 c4 (by decide) (by decide) rfl (by decide) ?_
      refine g_aload_n (pc := 56) rfl 0 rfl C dX7_boat_56 ?_
      have u5 : TO Y (r o 2) 5 := wt_o hw t0 (by decide) rfl
      refine g_getR (pc := 57) C fl_RX7_26 t0 rfl dX7_boat_57 ?_
      refine g_iload_n (pc := 60) rfl 1 rfl C dX7_boat_60 ?_
      refine g_callVi (pc := 61) (As := [.int a1]) C mv_RX7_103 (M_Sc_eastOf u5 hD) u5 (by decide) rfl rfl (Nat.le_of_ble_eq_true rfl) dX7_boat_61 (fun x7 h6 hD => ?_)
      exact g_iret (pc := 64) C R dX7_boat_64 hD
    have hD := hD.2 c4
    by_cases c8 : a2 = 1
    · have hD := hD.1 c8
      refine g_tswIn (pc := 11) 65 C dX7_boat_11 1 c8 (by decide) (by decide) rfl (by decide) ?_
      refine g_aload_n (pc := 65) rfl 0 rfl C dX7_boat_65 ?_
      have u9 : TO Y (r o 2) 5 := wt_o hw t0 (by decide) rfl
      refine g_getR (pc := 66) C fl_RX7_26 t0 rfl dX7_boat_66 ?_
      refine g_iload_n (pc := 69) rfl 1 rfl C dX7_boat_69 ?_
      refine g_callVi (pc := 70) (As := [.int a1]) C mv_RX7_107 (M_Sc_southOf u9 hD) u9 (by decide) rfl rfl (Nat.le_of_ble_eq_true rfl) dX7_boat_70 (fun x11 h10 hD => ?_)
      exact g_iret (pc := 73) C R dX7_boat_73 hD
    have hD := hD.2 c8
    by_cases c12 : a2 = 2
    · have hD := hD.1 c12
      refine g_tswIn (pc := 11) 74 C dX7_boat_11 2 c12 (by decide) (by decide) rfl (by decide) ?_
      refine g_aload_n (pc := 74) rfl 0 rfl C dX7_boat_74 ?_
      have u13 : TO Y (r o 2) 5 := wt_o hw t0 (by decide) rfl
      refine g_getR (pc := 75) C fl_RX7_26 t0 rfl dX7_boat_75 ?_
      refine g_iload_n (pc := 78) rfl 1 rfl C dX7_boat_78 ?_
      refine g_callVi (pc := 79) (As := [.int a1]) C mv_RX7_110 (M_Sc_arrivalOf u13 hD) u13 (by decide) rfl rfl (Nat.le_of_ble_eq_true rfl) dX7_boat_79 (fun x15 h14 hD => ?_)
      exact g_iret (pc := 82) C R dX7_boat_82 hD
    have hD := hD.2 c12
    by_cases c16 : a2 = 3
    · have hD := hD.1 c16
      refine g_tswIn (pc := 11) 83 C dX7_boat_11 3 c16 (by decide) (by decide) rfl (by decide) ?_
      refine g_aload_n (pc := 83) rfl 0 rfl C dX7_boat_83 ?_
      have u17 : TO Y (r o 2) 5 := wt_o hw t0 (by decide) rfl
      refine g_getR (pc := 84) C fl_RX7_26 t0 rfl dX7_boat_84 ?_
      refine g_getI (pc := 87) C fl_RX7_113 u17 rfl dX7_boat_87 ?_
      refine g_iload_n (pc := 90) rfl 1 rfl C dX7_boat_90 ?_
      refine g_ishr (pc := 91) C dX7_boat_91 ?_
      refine g_iconst (pc := 92) (v := 1) (by decide) C dX7_boat_92 ?_
      refine g_iand (pc := 93) C dX7_boat_93 ?_
      exact g_iret (pc := 94) C R dX7_boat_94 hD
    have hD := hD.2 c16
    by_cases c18 : a2 = 4
    · have hD := hD.1 c18
      refine g_tswIn (pc := 11) 95 C dX7_boat_11 4 c18 (by decide) (by decide) rfl (by decide) ?_
      refine g_aload_n (pc := 95) rfl 0 rfl C dX7_boat_95 ?_
      have u19 : TO Y (r o 2) 5 := wt_o hw t0 (by decide) rfl
      refine g_getR (pc := 96) C fl_RX7_26 t0 rfl dX7_boat_96 ?_
      refine g_getI (pc := 99) C fl_RX7_116 u19 rfl dX7_boat_99 ?_
      refine g_iload_n (pc := 102) rfl 1 rfl C dX7_boat_102 ?_
      refine g_ishr (pc := 103) C dX7_boat_103 ?_
      refine g_iconst (pc := 104) (v := 1) (by decide) C dX7_boat_104 ?_
      refine g_iand (pc := 105) C dX7_boat_105 ?_
      exact g_iret (pc := 106) C R dX7_boat_106 hD
    have hD := hD.2 c18
    by_cases c20 : a2 = 5
    · have hD := hD.1 c20
      refine g_tswIn (pc := 11) 107 C dX7_boat_11 5 c20 (by decide) (by decide) rfl (by decide) ?_
      refine g_aload_n (pc := 107) rfl 0 rfl C dX7_boat_107 ?_
      have u21 : TO Y (r o 1) 0 := wt_o hw t0 (by decide) rfl
      refine g_getR (pc := 108) C fl_RX7_19 t0 rfl dX7_boat_108 ?_
      refine g_aload_n (pc := 111) rfl 0 rfl C dX7_boat_111 ?_
      have u22 : TO Y (r o 2) 5 := wt_o hw t0 (by decide) rfl
      refine g_getR (pc := 112) C fl_RX7_26 t0 rfl dX7_boat_112 ?_
      refine g_iload_n (pc := 115) rfl 1 rfl C dX7_boat_115 ?_
      refine g_aload_n (pc := 116) rfl 0 rfl C dX7_boat_116 ?_
      have u23 : TO Y (r o 1) 0 := wt_o hw t0 (by decide) rfl
      refine g_getR (pc := 117) C fl_RX7_19 t0 rfl dX7_boat_117 ?_
      refine g_getI (pc := 120) C fl_RX7_119 u23 rfl dX7_boat_120 ?_
      refine g_callVi (pc := 123) (As := [.ref (r o 2), .int a1, .int (h1.1 (r o 1) 4)]) C mv_RX7_122 (M_Bay_dishesSmelledBy u21 u22 hD) u21 (by decide) rfl rfl (Nat.le_of_ble_eq_true rfl) dX7_boat_123 (fun x25 h24 hD => ?_)
      exact g_iret (pc := 126) C R dX7_boat_126 hD
    have hD := hD.2 c20
    by_cases c26 : a2 = 6
    · have hD := hD.1 c26
      refine g_tswIn (pc := 11) 127 C dX7_boat_11 6 c26 (by decide) (by decide) rfl (by decide) ?_
      refine g_aload_n (pc := 127) rfl 0 rfl C dX7_boat_127 ?_
      have u27 : TO Y (r o 1) 0 := wt_o hw t0 (by decide) rfl
      refine g_getR (pc := 128) C fl_RX7_19 t0 rfl dX7_boat_128 ?_
      refine g_iload_n (pc := 131) rfl 1 rfl C dX7_boat_131 ?_
      refine g_aload_n (pc := 132) rfl 0 rfl C dX7_boat_132 ?_
      have u28 : TO Y (r o 2) 5 := wt_o hw t0 (by decide) rfl
      refine g_getR (pc := 133) C fl_RX7_26 t0 rfl dX7_boat_133 ?_
      refine g_getI (pc := 136) C fl_RX7_126 u28 rfl dX7_boat_136 ?_
      refine g_aload_n (pc := 139) rfl 0 rfl C dX7_boat_139 ?_
      have u29 : TO Y (r o 1) 0 := wt_o hw t0 (by decide) rfl
      refine g_getR (pc := 140) C fl_RX7_19 t0 rfl dX7_boat_140 ?_
      refine g_getI (pc := 143) C fl_RX7_119 u29 rfl dX7_boat_143 ?_
      refine g_callVi (pc := 146) (As := [.int a1, .int (h1.1 (r o 2) 0), .int (h1.1 (r o 1) 4)]) C mv_RX7_129 (M_Bay_hasCold u27 hD) u27 (by decide) rfl rfl (Nat.le_of_ble_eq_true rfl) dX7_boat_146 (fun x31 h30 hD => ?_)
      refine g_if_eq (pc := 149) 156 C dX7_boat_149 (by decide) (fun c32 => ?_) (fun c32 => ?_)
      · have hD := hD.1 c32
        refine g_iconst (pc := 156) (v := 0) (by decide) C dX7_boat_156 ?_
        exact g_iret (pc := 157) C R dX7_boat_157 hD
      · have hD := hD.2 c32
        refine g_iconst (pc := 152) (v := 1) (by decide) C dX7_boat_152 ?_
        refine g_goto (pc := 153) 157 C dX7_boat_153 (by decide) ?_
        exact g_iret (pc := 157) C R dX7_boat_157 hD
    have hD := hD.2 c26
    by_cases c33 : a2 = 7
    · have hD := hD.1 c33
      refine g_tswIn (pc := 11) 158 C dX7_boat_11 7 c33 (by decide) (by decide) rfl (by decide) ?_
      refine g_aload_n (pc := 158) rfl 0 rfl C dX7_boat_158 ?_
      have u34 : TO Y (r o 2) 5 := wt_o hw t0 (by decide) rfl
      refine g_getR (pc := 159) C fl_RX7_26 t0 rfl dX7_boat_159 ?_
      refine g_iload_n (pc := 162) rfl 1 rfl C dX7_boat_162 ?_
      refine g_aload_n (pc := 163) rfl 0 rfl C dX7_boat_163 ?_
      have u35 : TO Y (r o 1) 0 := wt_o hw t0 (by decide) rfl
      refine g_getR (pc := 164) C fl_RX7_19 t0 rfl dX7_boat_164 ?_
      refine g_getI (pc := 167) C fl_RX7_133 u35 rfl dX7_boat_167 ?_
      refine g_callVi (pc := 170) (As := [.int a1, .int (h1.1 (r o 1) 2)]) C mv_RX7_136 (M_Sc_rankOf u34 hD) u34 (by decide) rfl rfl (Nat.le_of_ble_eq_true rfl) dX7_boat_170 (fun x37 h36 hD => ?_)
      exact g_iret (pc := 173) C R dX7_boat_173 hD
    have hD := hD.2 c33
    have nc4 : ¬ (a2).toInt = 0 := tsw_ne c4
    have nc8 : ¬ (a2).toInt = 1 := tsw_ne c8
    have nc12 : ¬ (a2).toInt = 2 := tsw_ne c12
    have nc16 : ¬ (a2).toInt = 3 := tsw_ne c16
    have nc18 : ¬ (a2).toInt = 4 := tsw_ne c18
    have nc20 : ¬ (a2).toInt = 5 := tsw_ne c20
    have nc26 : ¬ (a2).toInt = 6 := tsw_ne c26
    have nc33 : ¬ (a2).toInt = 7 := tsw_ne c33
    refine g_tswOut (pc := 11) 174 C dX7_boat_11 (by omega) (by decide) ?_
    refine g_iconst (pc := 174) (v := (-1)) (by decide) C dX7_boat_174 ?_
    exact g_iret (pc := 175) C R dX7_boat_175 hD
  · have hD := hD.2 c3
    refine g_iconst (pc := 8) (v := (-1)) (by decide) C dX7_boat_8 ?_
    exact g_iret (pc := 9) C R dX7_boat_9 hD
def DB_SR_boatsIn_4 (r : TR) (l0 : Nat) (l1 : Int32) (l2 : Int32) (l3 : Int32) (h : TH) (K4 : Int32 → Int32 → TH → Prop) (K51 : Int32 → TH → Prop) (Q : Int32 → TH → Prop) : Prop :=
  (((h.1 (r l0 1) 2) ≤ l3 → K51 l2 h) ∧ (¬ (h.1 (r l0 1) 2) ≤ l3 → D_Sc_isSailing r (r l0 2) l3 h (fun x7 h6 => ((x7 = 0 → ∀ x9 : Int32, x9 = l3 + 1 → K4 l2 x9 h6) ∧ (¬ x7 = 0 → vp_in l3 6 ∧ ((¬ (h6.1 (r (r l0 2) 4) l3.toNatClampNeg) = l1 → ∀ x13 : Int32, x13 = l3 + 1 → K4 l2 x13 h6) ∧ ((h6.1 (r (r l0 2) 4) l3.toNatClampNeg) = l1 → ∀ x14 : Int32, x14 = l2 ||| ((1 : Int32) <<< (l3 &&& 31)) → ∀ x15 : Int32, x15 = l3 + 1 → K4 x14 x15 h6)))))))
set_option maxRecDepth 100000 in
set_option maxHeartbeats 4000000 in
theorem WB_SR_boatsIn_4 {Y : CG} {X : CX} {r : TR} {l0 : Nat} {l1 : Int32} {l2 : Int32} {l3 : Int32} {h : TH} {K4 : Int32 → Int32 → TH → Prop} {K51 : Int32 → TH → Prop} {Q : Int32 → TH → Prop} (C : Gd Y X cX7_boatsIn 4 RX7 2) (R : Ri Y r X .int Q) (t0 : TO Y l0 7) (hK4 : ∀ (k2 : Int32) (k3 : Int32) (hh : TH), K4 k2 k3 hh → G Y X 4 4 [(0, .ref l0), (1, .int l1), (2, .int k2), (3, .int k3)] [] r hh) (hK51 : ∀ (k2 : Int32) (hh : TH), K51 k2 hh → G Y X 4 51 [(2, .int k2)] [] r hh) (hD : DB_SR_boatsIn_4 r l0 l1 l2 l3 h K4 K51 Q) : G Y X 4 4 [(0, .ref l0), (1, .int l1), (2, .int l2), (3, .int l3)] [] r h := by
  unfold DB_SR_boatsIn_4 at hD
  refine g_wt (fun hw => ?_)
  refine g_iload_n (pc := 4) rfl 3 rfl C dX7_boatsIn_4 ?_
  refine g_aload_n (pc := 5) rfl 0 rfl C dX7_boatsIn_5 ?_
  have u3 : TO Y (r l0 1) 0 := wt_o hw t0 (by decide) rfl
  refine g_getR (pc := 6) C fl_RX7_19 t0 rfl dX7_boatsIn_6 ?_
  refine g_getI (pc := 9) C fl_RX7_133 u3 rfl dX7_boatsIn_9 ?_
  refine g_icmp_ge (pc := 12) 51 C dX7_boatsIn_12 (by decide) (fun c4 => ?_) (fun c4 => ?_)
  · have hD := hD.1 c4
    refine g_sub [2] rfl ?_
    exact hK51 l2 h hD
  · have hD := hD.2 c4
    refine g_aload_n (pc := 15) rfl 0 rfl C dX7_boatsIn_15 ?_
    have u5 : TO Y (r l0 2) 5 := wt_o hw t0 (by decide) rfl
    refine g_getR (pc := 16) C fl_RX7_26 t0 rfl dX7_boatsIn_16 ?_
    refine g_iload_n (pc := 19) rfl 3 rfl C dX7_boatsIn_19 ?_
    refine g_callVi (pc := 20) (As := [.int l3]) C mv_RX7_154 (M_Sc_isSailing u5 hD) u5 (by decide) rfl rfl (Nat.le_of_ble_eq_true rfl) dX7_boatsIn_20 (fun x7 h6 hD => ?_)
    refine g_if_eq (pc := 23) 45 C dX7_boatsIn_23 (by decide) (fun c8 => ?_) (fun c8 => ?_)
    · have hD := hD.1 c8
      refine g_iinc (pc := 45) (q := 3) (c := 1) (fun x9 => [(3, .int x9), (0, .ref l0), (1, .int l1), (2, .int l2)]) C dX7_boatsIn_45 rfl (by decide) (by decide) rfl (fun x9 ex9 => ?_)
      have hD := hD x9 ex9
      refine g_goto (pc := 48) 4 C dX7_boatsIn_48 (by decide) ?_
      refine g_sub [1, 2, 3, 0] rfl ?_
      exact hK4 l2 x9 h6 hD
    · have hD := hD.2 c8
      refine g_aload_n (pc := 26) rfl 0 rfl C dX7_boatsIn_26 ?_
      have u10 : TO Y (r l0 2) 5 := wt_o hw t0 (by decide) rfl
      refine g_getR (pc := 27) C fl_RX7_26 t0 rfl dX7_boatsIn_27 ?_
      have u11 : TA Y (r (r l0 2) 4) 10 6 := wt_a hw u10 (by decide) (by decide) rfl
      refine g_getR (pc := 30) C fl_RX7_157 u10 rfl dX7_boatsIn_30 ?_
      refine g_iload_n (pc := 33) rfl 3 rfl C dX7_boatsIn_33 ?_
      obtain ⟨hb, hD⟩ := hD
      refine g_iald (pc := 34) C u11 hb dX7_boatsIn_34 ?_
      refine g_iload_n (pc := 35) rfl 1 rfl C dX7_boatsIn_35 ?_
      refine g_icmp_ne (pc := 36) 45 C dX7_boatsIn_36 (by decide) (fun c12 => ?_) (fun c12 => ?_)
      · have hD := hD.1 c12
        refine g_iinc (pc := 45) (q := 3) (c := 1) (fun x13 => [(3, .int x13), (0, .ref l0), (1, .int l1), (2, .int l2)]) C dX7_boatsIn_45 rfl (by decide) (by decide) rfl (fun x13 ex13 => ?_)
        have hD := hD x13 ex13
        refine g_goto (pc := 48) 4 C dX7_boatsIn_48 (by decide) ?_
        refine g_sub [1, 2, 3, 0] rfl ?_
        exact hK4 l2 x13 h6 hD
      · have hD := hD.2 c12
        refine g_iload_n (pc := 39) rfl 2 rfl C dX7_boatsIn_39 ?_
        refine g_iconst (pc := 40) (v := 1) (by decide) C dX7_boatsIn_40 ?_
        refine g_iload_n (pc := 41) rfl 3 rfl C dX7_boatsIn_41 ?_
        refine g_ishl (pc := 42) C dX7_boatsIn_42 ?_
        refine g_ior (pc := 43) C dX7_boatsIn_43 ?_
        refine g_istore_n (pc := 44) (fun x14 => [(2, .int x14), (0, .ref l0), (1, .int l1), (3, .int l3)]) C dX7_boatsIn_44 rfl (by decide) rfl (fun x14 ex14 => ?_)
        have hD := hD x14 ex14
        refine g_iinc (pc := 45) (q := 3) (c := 1) (fun x15 => [(3, .int x15), (2, .int x14), (0, .ref l0), (1, .int l1)]) C dX7_boatsIn_45 rfl (by decide) (by decide) rfl (fun x15 ex15 => ?_)
        have hD := hD x15 ex15
        refine g_goto (pc := 48) 4 C dX7_boatsIn_48 (by decide) ?_
        refine g_sub [2, 3, 1, 0] rfl ?_
        exact hK4 x14 x15 h6 hD
def D_SR_boatsIn (r : TR) (o : Nat) (a1 : Int32) (h : TH) (Q : Int32 → TH → Prop) : Prop :=
  ∃ n, lp (fun (K : Int32 × Int32 × TH → Prop) (s : Int32 × Int32 × TH) => DB_SR_boatsIn_4 r o a1 s.1 s.2.1 s.2.2 (fun y16 y17 h18 => K (y16, y17, h18)) (fun x19 h20 => Q x19 h20) Q) n (0, 0, h)
set_option maxRecDepth 100000 in
set_option maxHeartbeats 4000000 in
theorem M_SR_boatsIn {Y : CG} {r : TR} {l : Launch} {o : Nat} {a1 : Int32} {h : TH} {Q : Int32 → TH → Prop} (t0 : TO Y o 7) (hD : D_SR_boatsIn r o a1 h Q) : Mi Y r l yX7_boatsIn cX7_boatsIn 4 .int 2 [.ref o, .int a1] h Q := by
  unfold D_SR_boatsIn at hD
  refine Mi.of RX7 rfl (by decide) (by simp [lg_sl, Value.category]) [(0, .ref o), (1, .int a1)] rfl (fun X hXl C R => ?_)
  subst hXl
  refine g_wt (fun hw => ?_)
  refine g_iconst (pc := 0) (v := 0) (by decide) C dX7_boatsIn_0 ?_
  refine g_istore_n (pc := 1) (fun _ => [(2, .int 0), (0, .ref o), (1, .int a1)]) C dX7_boatsIn_1 rfl (by decide) rfl (fun _ _ => ?_)
  refine g_iconst (pc := 2) (v := 0) (by decide) C dX7_boatsIn_2 ?_
  refine g_istore_n (pc := 3) (fun _ => [(3, .int 0), (2, .int 0), (0, .ref o), (1, .int a1)]) C dX7_boatsIn_3 rfl (by decide) rfl (fun _ _ => ?_)
  obtain ⟨n, hD⟩ := hD
  refine g_sub [2, 3, 1, 0] rfl ?_
  refine lp_run (fun s : Int32 × Int32 × TH => G Y X 4 4 [(0, .ref o), (1, .int a1), (2, .int s.1), (3, .int s.2.1)] [] r s.2.2) (fun K s hB hK => ?_) n (0, 0, h) hD
  refine WB_SR_boatsIn_4 C R t0 (fun y16 y17 h18 hk => hK _ hk) (fun x19 h20 hD => ?_) hB
  · refine g_iload_n (pc := 51) rfl 0 rfl C dX7_boatsIn_51 ?_
    exact g_iret (pc := 52) C R dX7_boatsIn_52 hD
def D_SR_cell (r : TR) (o : Nat) (a1 : Int32) (a2 : Int32) (a3 : Int32) (h : TH) (Q : Int32 → TH → Prop) : Prop :=
  D_Bay_isInside r (r o 1) a1 a2 h (fun x3 h2 => ((¬ x3 = 0 → ∀ x5 : Int32, x5 = (8 * a2) + a1 → ((a3 = 0 → vp_in x5 40 ∧ Q (h2.1 (r (r o 1) 5) x5.toNatClampNeg) h2) ∧ (¬ a3 = 0 → ((a3 = 1 → D_Sc_dishesIn r (r o 2) x5 (h2.1 (r o 1) 2) h2 (fun x13 h12 => Q x13 h12)) ∧ (¬ a3 = 1 → ((a3 = 2 → D_SR_boatsIn r o x5 h2 (fun x16 h15 => Q x16 h15)) ∧ (¬ a3 = 2 → Q (-1) h2))))))) ∧ (x3 = 0 → Q (-1) h2)))
set_option maxRecDepth 100000 in
set_option maxHeartbeats 4000000 in
theorem M_SR_cell {Y : CG} {r : TR} {l : Launch} {o : Nat} {a1 : Int32} {a2 : Int32} {a3 : Int32} {h : TH} {Q : Int32 → TH → Prop} (t0 : TO Y o 7) (hD : D_SR_cell r o a1 a2 a3 h Q) : Mi Y r l yX7_cell cX7_cell 5 .int 4 [.ref o, .int a1, .int a2, .int a3] h Q := by
  unfold D_SR_cell at hD
  refine Mi.of RX7 rfl (by decide) (by simp [lg_sl, Value.category]) [(0, .ref o), (1, .int a1), (2, .int a2), (3, .int a3)] rfl (fun X hXl C R => ?_)
  subst hXl
  refine g_wt (fun hw => ?_)
  refine g_aload_n (pc := 0) rfl 0 rfl C dX7_cell_0 ?_
  have u1 : TO Y (r o 1) 0 := wt_o hw t0 (by decide) rfl
  refine g_getR (pc := 1) C fl_RX7_19 t0 rfl dX7_cell_1 ?_
  refine g_iload_n (pc := 4) rfl 1 rfl C dX7_cell_4 ?_
  refine g_iload_n (pc := 5) rfl 2 rfl C dX7_cell_5 ?_
  refine g_callVi (pc := 6) (As := [.int a1, .int a2]) C mv_RX7_140 (M_Bay_isInside u1 hD) u1 (by decide) rfl rfl (Nat.le_of_ble_eq_true rfl) dX7_cell_6 (fun x3 h2 hD => ?_)
  refine g_if_ne (pc := 9) 14 C dX7_cell_9 (by decide) (fun c4 => ?_) (fun c4 => ?_)
  · have hD := hD.1 c4
    refine g_bipush (pc := 14) (v := 8) (by decide) C dX7_cell_14 ?_
    refine g_iload_n (pc := 16) rfl 2 rfl C dX7_cell_16 ?_
    refine g_imul (pc := 17) C dX7_cell_17 ?_
    refine g_iload_n (pc := 18) rfl 1 rfl C dX7_cell_18 ?_
    refine g_iadd (pc := 19) C dX7_cell_19 ?_
    refine g_istore (pc := 20) (fun x5 => [(4, .int x5), (0, .ref o), (1, .int a1), (2, .int a2), (3, .int a3)]) C dX7_cell_20 (by decide) rfl (fun x5 ex5 => ?_)
    have hD := hD x5 ex5
    refine g_iload_n (pc := 22) rfl 4 rfl C dX7_cell_22 ?_
    by_cases c6 : a3 = 0
    · have hD := hD.1 c6
      refine g_tswIn (pc := 23) 48 C dX7_cell_23 0 c6 (by decide) (by decide) rfl (by decide) ?_
      refine g_aload_n (pc := 48) rfl 1 rfl C dX7_cell_48 ?_
      have u7 : TO Y (r o 1) 0 := wt_o hw t0 (by decide) rfl
      refine g_getR (pc := 49) C fl_RX7_19 t0 rfl dX7_cell_49 ?_
      have u8 : TA Y (r (r o 1) 5) 10 40 := wt_a hw u7 (by decide) (by decide) rfl
      refine g_getR (pc := 52) C fl_RX7_144 u7 rfl dX7_cell_52 ?_
      refine g_iload (pc := 55) 0 rfl C dX7_cell_55 ?_
      obtain ⟨hb, hD⟩ := hD
      refine g_iald (pc := 57) C u8 hb dX7_cell_57 ?_
      exact g_iret (pc := 58) C R dX7_cell_58 hD
    have hD := hD.2 c6
    by_cases c9 : a3 = 1
    · have hD := hD.1 c9
      refine g_tswIn (pc := 23) 59 C dX7_cell_23 1 c9 (by decide) (by decide) rfl (by decide) ?_
      refine g_aload_n (pc := 59) rfl 1 rfl C dX7_cell_59 ?_
      have u10 : TO Y (r o 2) 5 := wt_o hw t0 (by decide) rfl
      refine g_getR (pc := 60) C fl_RX7_26 t0 rfl dX7_cell_60 ?_
      refine g_iload (pc := 63) 0 rfl C dX7_cell_63 ?_
      refine g_aload_n (pc := 65) rfl 1 rfl C dX7_cell_65 ?_
      have u11 : TO Y (r o 1) 0 := wt_o hw t0 (by decide) rfl
      refine g_getR (pc := 66) C fl_RX7_19 t0 rfl dX7_cell_66 ?_
      refine g_getI (pc := 69) C fl_RX7_133 u11 rfl dX7_cell_69 ?_
      refine g_callVi (pc := 72) (As := [.int x5, .int (h2.1 (r o 1) 2)]) C mv_RX7_148 (M_Sc_dishesIn u10 hD) u10 (by decide) rfl rfl (Nat.le_of_ble_eq_true rfl) dX7_cell_72 (fun x13 h12 hD => ?_)
      exact g_iret (pc := 75) C R dX7_cell_75 hD
    have hD := hD.2 c9
    by_cases c14 : a3 = 2
    · have hD := hD.1 c14
      refine g_tswIn (pc := 23) 76 C dX7_cell_23 2 c14 (by decide) (by decide) rfl (by decide) ?_
      refine g_aload_n (pc := 76) rfl 1 rfl C dX7_cell_76 ?_
      refine g_iload (pc := 77) 0 rfl C dX7_cell_77 ?_
      refine g_callVi (pc := 79) (As := [.int x5]) C mv_RX7_151 (M_SR_boatsIn t0 hD) t0 (by decide) rfl rfl (Nat.le_of_ble_eq_true rfl) dX7_cell_79 (fun x16 h15 hD => ?_)
      exact g_iret (pc := 82) C R dX7_cell_82 hD
    have hD := hD.2 c14
    have nc6 : ¬ (a3).toInt = 0 := tsw_ne c6
    have nc9 : ¬ (a3).toInt = 1 := tsw_ne c9
    have nc14 : ¬ (a3).toInt = 2 := tsw_ne c14
    refine g_tswOut (pc := 23) 83 C dX7_cell_23 (by omega) (by decide) ?_
    refine g_iconst (pc := 83) (v := (-1)) (by decide) C dX7_cell_83 ?_
    exact g_iret (pc := 84) C R dX7_cell_84 hD
  · have hD := hD.2 c4
    refine g_iconst (pc := 12) (v := (-1)) (by decide) C dX7_cell_12 ?_
    exact g_iret (pc := 13) C R dX7_cell_13 hD
def D_JL_bitCount (r : TR) (a0 : Int64) (h : TH) (Q : Int32 → TH → Prop) : Prop :=
  ∀ x1 : Int64, x1 = a0 - ((jushrl a0 1) &&& 6148914691236517205) → ∀ x2 : Int64, x2 = (x1 &&& 3689348814741910323) + ((jushrl x1 2) &&& 3689348814741910323) → ∀ x3 : Int64, x3 = (x2 + (jushrl x2 4)) &&& 1085102592571150095 → ∀ x4 : Int64, x4 = x3 + (jushrl x3 8) → ∀ x5 : Int64, x5 = x4 + (jushrl x4 16) → ∀ x6 : Int64, x6 = x5 + (jushrl x5 32) → Q (x6.toInt32 &&& 127) h
set_option maxRecDepth 100000 in
set_option maxHeartbeats 4000000 in
theorem M_JL_bitCount {Y : CG} {r : TR} {l : Launch} {a0 : Int64} {h : TH} {Q : Int32 → TH → Prop} (hD : D_JL_bitCount r a0 h Q) : Mi Y r l yJ13_bitCount_95d88 cJ13_bitCount_95d88 2 .int 1 [.long a0] h Q := by
  unfold D_JL_bitCount at hD
  refine Mi.of RJ13 rfl (by decide) (by simp [lg_sl, Value.category]) [(0, .long a0)] rfl (fun X hXl C R => ?_)
  subst hXl
  refine g_wt (fun hw => ?_)
  refine g_lload_n (pc := 0) rfl 0 rfl C dJ13_bitCount_95d88_0 ?_
  refine g_lload_n (pc := 1) rfl 0 rfl C dJ13_bitCount_95d88_1 ?_
  refine g_iconst (pc := 2) (v := 1) (by decide) C dJ13_bitCount_95d88_2 ?_
  refine g_lushr (pc := 3) C dJ13_bitCount_95d88_3 ?_
  refine g_ldc2 (pc := 4) cn_RJ13_314 C dJ13_bitCount_95d88_4 ?_
  refine g_land (pc := 7) C dJ13_bitCount_95d88_7 ?_
  refine g_lsub (pc := 8) C dJ13_bitCount_95d88_8 ?_
  refine g_lstore_n (pc := 9) (fun x1 => [(0, .long x1)]) C dJ13_bitCount_95d88_9 rfl (by decide) rfl (fun x1 ex1 => ?_)
  have hD := hD x1 ex1
  refine g_lload_n (pc := 10) rfl 0 rfl C dJ13_bitCount_95d88_10 ?_
  refine g_ldc2 (pc := 11) cn_RJ13_316 C dJ13_bitCount_95d88_11 ?_
  refine g_land (pc := 14) C dJ13_bitCount_95d88_14 ?_
  refine g_lload_n (pc := 15) rfl 0 rfl C dJ13_bitCount_95d88_15 ?_
  refine g_iconst (pc := 16) (v := 2) (by decide) C dJ13_bitCount_95d88_16 ?_
  refine g_lushr (pc := 17) C dJ13_bitCount_95d88_17 ?_
  refine g_ldc2 (pc := 18) cn_RJ13_316 C dJ13_bitCount_95d88_18 ?_
  refine g_land (pc := 21) C dJ13_bitCount_95d88_21 ?_
  refine g_ladd (pc := 22) C dJ13_bitCount_95d88_22 ?_
  refine g_lstore_n (pc := 23) (fun x2 => [(0, .long x2)]) C dJ13_bitCount_95d88_23 rfl (by decide) rfl (fun x2 ex2 => ?_)
  have hD := hD x2 ex2
  refine g_lload_n (pc := 24) rfl 0 rfl C dJ13_bitCount_95d88_24 ?_
  refine g_lload_n (pc := 25) rfl 0 rfl C dJ13_bitCount_95d88_25 ?_
  refine g_iconst (pc := 26) (v := 4) (by decide) C dJ13_bitCount_95d88_26 ?_
  refine g_lushr (pc := 27) C dJ13_bitCount_95d88_27 ?_
  refine g_ladd (pc := 28) C dJ13_bitCount_95d88_28 ?_
  refine g_ldc2 (pc := 29) cn_RJ13_318 C dJ13_bitCount_95d88_29 ?_
  refine g_land (pc := 32) C dJ13_bitCount_95d88_32 ?_
  refine g_lstore_n (pc := 33) (fun x3 => [(0, .long x3)]) C dJ13_bitCount_95d88_33 rfl (by decide) rfl (fun x3 ex3 => ?_)
  have hD := hD x3 ex3
  refine g_lload_n (pc := 34) rfl 0 rfl C dJ13_bitCount_95d88_34 ?_
  refine g_lload_n (pc := 35) rfl 0 rfl C dJ13_bitCount_95d88_35 ?_
  refine g_bipush (pc := 36) (v := 8) (by decide) C dJ13_bitCount_95d88_36 ?_
  refine g_lushr (pc := 38) C dJ13_bitCount_95d88_38 ?_
  refine g_ladd (pc := 39) C dJ13_bitCount_95d88_39 ?_
  refine g_lstore_n (pc := 40) (fun x4 => [(0, .long x4)]) C dJ13_bitCount_95d88_40 rfl (by decide) rfl (fun x4 ex4 => ?_)
  have hD := hD x4 ex4
  refine g_lload_n (pc := 41) rfl 0 rfl C dJ13_bitCount_95d88_41 ?_
  refine g_lload_n (pc := 42) rfl 0 rfl C dJ13_bitCount_95d88_42 ?_
  refine g_bipush (pc := 43) (v := 16) (by decide) C dJ13_bitCount_95d88_43 ?_
  refine g_lushr (pc := 45) C dJ13_bitCount_95d88_45 ?_
  refine g_ladd (pc := 46) C dJ13_bitCount_95d88_46 ?_
  refine g_lstore_n (pc := 47) (fun x5 => [(0, .long x5)]) C dJ13_bitCount_95d88_47 rfl (by decide) rfl (fun x5 ex5 => ?_)
  have hD := hD x5 ex5
  refine g_lload_n (pc := 48) rfl 0 rfl C dJ13_bitCount_95d88_48 ?_
  refine g_lload_n (pc := 49) rfl 0 rfl C dJ13_bitCount_95d88_49 ?_
  refine g_bipush (pc := 50) (v := 32) (by decide) C dJ13_bitCount_95d88_50 ?_
  refine g_lushr (pc := 52) C dJ13_bitCount_95d88_52 ?_
  refine g_ladd (pc := 53) C dJ13_bitCount_95d88_53 ?_
  refine g_lstore_n (pc := 54) (fun x6 => [(0, .long x6)]) C dJ13_bitCount_95d88_54 rfl (by decide) rfl (fun x6 ex6 => ?_)
  have hD := hD x6 ex6
  refine g_lload_n (pc := 55) rfl 0 rfl C dJ13_bitCount_95d88_55 ?_
  refine g_l2i (pc := 56) C dJ13_bitCount_95d88_56 ?_
  refine g_bipush (pc := 57) (v := 127) (by decide) C dJ13_bitCount_95d88_57 ?_
  refine g_iand (pc := 59) C dJ13_bitCount_95d88_59 ?_
  exact g_iret (pc := 60) C R dJ13_bitCount_95d88_60 hD
def D_SR_count (r : TR) (o : Nat) (a1 : Int32) (h : TH) (Q : Int32 → TH → Prop) : Prop :=
  ((a1 = 0 → Q (h.1 (r o 1) 0) h) ∧ (¬ a1 = 0 → ((a1 = 1 → Q (h.1 (r o 1) 1) h) ∧ (¬ a1 = 1 → ((a1 = 2 → Q (h.1 (r o 1) 2) h) ∧ (¬ a1 = 2 → ((a1 = 3 → Q (h.1 (r o 2) 0) h) ∧ (¬ a1 = 3 → ((a1 = 4 → Q (h.1 (r o 2) 3) h) ∧ (¬ a1 = 4 → ((a1 = 5 → Q (h.1 (r o 2) 2) h) ∧ (¬ a1 = 5 → ((a1 = 6 → Q (h.1 (r o 2) 1) h) ∧ (¬ a1 = 6 → ((a1 = 7 → D_Bay_windAt r (r o 1) (h.1 (r o 2) 0) h (fun x19 h18 => Q x19 h18)) ∧ (¬ a1 = 7 → ((a1 = 8 → Q (h.1 (r o 0) 1) h) ∧ (¬ a1 = 8 → ((a1 = 9 → Q (h.1 (r o 4) 0) h) ∧ (¬ a1 = 9 → ((a1 = 10 → Q (h.1 (r o 7) 0) h) ∧ (¬ a1 = 10 → ((a1 = 11 → D_JI_bitCount r (h.1 o 6) h (fun x28 h27 => Q x28 h27)) ∧ (¬ a1 = 11 → ((a1 = 12 → D_Bay_cellsOf r (r o 1) 0 h (fun x32 h31 => D_JL_bitCount r x32 h31 (fun x34 h33 => Q x34 h33))) ∧ (¬ a1 = 12 → ((a1 = 13 → D_Bay_sailing r (r o 1) (r o 2) h (fun x39 h38 => Q x39 h38)) ∧ (¬ a1 = 13 → Q (-1) h))))))))))))))))))))))))))))
set_option maxRecDepth 100000 in
set_option maxHeartbeats 4000000 in
theorem M_SR_count {Y : CG} {r : TR} {l : Launch} {o : Nat} {a1 : Int32} {h : TH} {Q : Int32 → TH → Prop} (t0 : TO Y o 7) (hD : D_SR_count r o a1 h Q) : Mi Y r l yX7_count cX7_count 2 .int 4 [.ref o, .int a1] h Q := by
  unfold D_SR_count at hD
  refine Mi.of RX7 rfl (by decide) (by simp [lg_sl, Value.category]) [(0, .ref o), (1, .int a1)] rfl (fun X hXl C R => ?_)
  subst hXl
  refine g_wt (fun hw => ?_)
  refine g_iload_n (pc := 0) rfl 1 rfl C dX7_count_0 ?_
  by_cases c1 : a1 = 0
  · have hD := hD.1 c1
    refine g_tswIn (pc := 1) 72 C dX7_count_1 0 c1 (by decide) (by decide) rfl (by decide) ?_
    refine g_aload_n (pc := 72) rfl 0 rfl C dX7_count_72 ?_
    have u2 : TO Y (r o 1) 0 := wt_o hw t0 (by decide) rfl
    refine g_getR (pc := 73) C fl_RX7_19 t0 rfl dX7_count_73 ?_
    refine g_getI (pc := 76) C fl_RX7_298 u2 rfl dX7_count_76 ?_
    exact g_iret (pc := 79) C R dX7_count_79 hD
  have hD := hD.2 c1
  by_cases c3 : a1 = 1
  · have hD := hD.1 c3
    refine g_tswIn (pc := 1) 80 C dX7_count_1 1 c3 (by decide) (by decide) rfl (by decide) ?_
    refine g_aload_n (pc := 80) rfl 0 rfl C dX7_count_80 ?_
    have u4 : TO Y (r o 1) 0 := wt_o hw t0 (by decide) rfl
    refine g_getR (pc := 81) C fl_RX7_19 t0 rfl dX7_count_81 ?_
    refine g_getI (pc := 84) C fl_RX7_301 u4 rfl dX7_count_84 ?_
    exact g_iret (pc := 87) C R dX7_count_87 hD
  have hD := hD.2 c3
  by_cases c5 : a1 = 2
  · have hD := hD.1 c5
    refine g_tswIn (pc := 1) 88 C dX7_count_1 2 c5 (by decide) (by decide) rfl (by decide) ?_
    refine g_aload_n (pc := 88) rfl 0 rfl C dX7_count_88 ?_
    have u6 : TO Y (r o 1) 0 := wt_o hw t0 (by decide) rfl
    refine g_getR (pc := 89) C fl_RX7_19 t0 rfl dX7_count_89 ?_
    refine g_getI (pc := 92) C fl_RX7_133 u6 rfl dX7_count_92 ?_
    exact g_iret (pc := 95) C R dX7_count_95 hD
  have hD := hD.2 c5
  by_cases c7 : a1 = 3
  · have hD := hD.1 c7
    refine g_tswIn (pc := 1) 96 C dX7_count_1 3 c7 (by decide) (by decide) rfl (by decide) ?_
    refine g_aload_n (pc := 96) rfl 0 rfl C dX7_count_96 ?_
    have u8 : TO Y (r o 2) 5 := wt_o hw t0 (by decide) rfl
    refine g_getR (pc := 97) C fl_RX7_26 t0 rfl dX7_count_97 ?_
    refine g_getI (pc := 100) C fl_RX7_126 u8 rfl dX7_count_100 ?_
    exact g_iret (pc := 103) C R dX7_count_103 hD
  have hD := hD.2 c7
  by_cases c9 : a1 = 4
  · have hD := hD.1 c9
    refine g_tswIn (pc := 1) 104 C dX7_count_1 4 c9 (by decide) (by decide) rfl (by decide) ?_
    refine g_aload_n (pc := 104) rfl 0 rfl C dX7_count_104 ?_
    have u10 : TO Y (r o 2) 5 := wt_o hw t0 (by decide) rfl
    refine g_getR (pc := 105) C fl_RX7_26 t0 rfl dX7_count_105 ?_
    refine g_getI (pc := 108) C fl_RX7_196 u10 rfl dX7_count_108 ?_
    exact g_iret (pc := 111) C R dX7_count_111 hD
  have hD := hD.2 c9
  by_cases c11 : a1 = 5
  · have hD := hD.1 c11
    refine g_tswIn (pc := 1) 112 C dX7_count_1 5 c11 (by decide) (by decide) rfl (by decide) ?_
    refine g_aload_n (pc := 112) rfl 0 rfl C dX7_count_112 ?_
    have u12 : TO Y (r o 2) 5 := wt_o hw t0 (by decide) rfl
    refine g_getR (pc := 113) C fl_RX7_26 t0 rfl dX7_count_113 ?_
    refine g_getI (pc := 116) C fl_RX7_113 u12 rfl dX7_count_116 ?_
    exact g_iret (pc := 119) C R dX7_count_119 hD
  have hD := hD.2 c11
  by_cases c13 : a1 = 6
  · have hD := hD.1 c13
    refine g_tswIn (pc := 1) 120 C dX7_count_1 6 c13 (by decide) (by decide) rfl (by decide) ?_
    refine g_aload_n (pc := 120) rfl 0 rfl C dX7_count_120 ?_
    have u14 : TO Y (r o 2) 5 := wt_o hw t0 (by decide) rfl
    refine g_getR (pc := 121) C fl_RX7_26 t0 rfl dX7_count_121 ?_
    refine g_getI (pc := 124) C fl_RX7_116 u14 rfl dX7_count_124 ?_
    exact g_iret (pc := 127) C R dX7_count_127 hD
  have hD := hD.2 c13
  by_cases c15 : a1 = 7
  · have hD := hD.1 c15
    refine g_tswIn (pc := 1) 128 C dX7_count_1 7 c15 (by decide) (by decide) rfl (by decide) ?_
    refine g_aload_n (pc := 128) rfl 0 rfl C dX7_count_128 ?_
    have u16 : TO Y (r o 1) 0 := wt_o hw t0 (by decide) rfl
    refine g_getR (pc := 129) C fl_RX7_19 t0 rfl dX7_count_129 ?_
    refine g_aload_n (pc := 132) rfl 0 rfl C dX7_count_132 ?_
    have u17 : TO Y (r o 2) 5 := wt_o hw t0 (by decide) rfl
    refine g_getR (pc := 133) C fl_RX7_26 t0 rfl dX7_count_133 ?_
    refine g_getI (pc := 136) C fl_RX7_126 u17 rfl dX7_count_136 ?_
    refine g_callVi (pc := 139) (As := [.int (h.1 (r o 2) 0)]) C mv_RX7_172 (M_Bay_windAt u16 hD) u16 (by decide) rfl rfl (Nat.le_of_ble_eq_true rfl) dX7_count_139 (fun x19 h18 hD => ?_)
    exact g_iret (pc := 142) C R dX7_count_142 hD
  have hD := hD.2 c15
  by_cases c20 : a1 = 8
  · have hD := hD.1 c20
    refine g_tswIn (pc := 1) 143 C dX7_count_1 8 c20 (by decide) (by decide) rfl (by decide) ?_
    refine g_aload_n (pc := 143) rfl 0 rfl C dX7_count_143 ?_
    have u21 : TO Y (r o 0) 4 := wt_o hw t0 (by decide) rfl
    refine g_getR (pc := 144) C fl_RX7_12 t0 rfl dX7_count_144 ?_
    refine g_getI (pc := 147) C fl_RX7_66 u21 rfl dX7_count_147 ?_
    exact g_iret (pc := 150) C R dX7_count_150 hD
  have hD := hD.2 c20
  by_cases c22 : a1 = 9
  · have hD := hD.1 c22
    refine g_tswIn (pc := 1) 151 C dX7_count_1 9 c22 (by decide) (by decide) rfl (by decide) ?_
    refine g_aload_n (pc := 151) rfl 0 rfl C dX7_count_151 ?_
    have u23 : TO Y (r o 4) 3 := wt_o hw t0 (by decide) rfl
    refine g_getR (pc := 152) C fl_RX7_36 t0 rfl dX7_count_152 ?_
    refine g_getI (pc := 155) C fl_RX7_304 u23 rfl dX7_count_155 ?_
    exact g_iret (pc := 158) C R dX7_count_158 hD
  have hD := hD.2 c22
  by_cases c24 : a1 = 10
  · have hD := hD.1 c24
    refine g_tswIn (pc := 1) 159 C dX7_count_1 10 c24 (by decide) (by decide) rfl (by decide) ?_
    refine g_aload_n (pc := 159) rfl 0 rfl C dX7_count_159 ?_
    have u25 : TO Y (r o 7) 6 := wt_o hw t0 (by decide) rfl
    refine g_getR (pc := 160) C fl_RX7_51 t0 rfl dX7_count_160 ?_
    refine g_getI (pc := 163) C fl_RX7_93 u25 rfl dX7_count_163 ?_
    exact g_iret (pc := 166) C R dX7_count_166 hD
  have hD := hD.2 c24
  by_cases c26 : a1 = 11
  · have hD := hD.1 c26
    refine g_tswIn (pc := 1) 167 C dX7_count_1 11 c26 (by decide) (by decide) rfl (by decide) ?_
    refine g_aload_n (pc := 167) rfl 0 rfl C dX7_count_167 ?_
    refine g_getI (pc := 168) C fl_RX7_44 t0 rfl dX7_count_168 ?_
    refine g_callSi (pc := 171) (As := [.int (h.1 o 6)]) C ms_RX7_199 (M_JI_bitCount  hD) (by decide) rfl rfl (Nat.le_of_ble_eq_true rfl) dX7_count_171 (fun x28 h27 hD => ?_)
    exact g_iret (pc := 174) C R dX7_count_174 hD
  have hD := hD.2 c26
  by_cases c29 : a1 = 12
  · have hD := hD.1 c29
    refine g_tswIn (pc := 1) 175 C dX7_count_1 12 c29 (by decide) (by decide) rfl (by decide) ?_
    refine g_aload_n (pc := 175) rfl 0 rfl C dX7_count_175 ?_
    have u30 : TO Y (r o 1) 0 := wt_o hw t0 (by decide) rfl
    refine g_getR (pc := 176) C fl_RX7_19 t0 rfl dX7_count_176 ?_
    refine g_iconst (pc := 179) (v := 0) (by decide) C dX7_count_179 ?_
    refine g_callVl (pc := 180) (As := [.int 0]) C mv_RX7_222 (M_Bay_cellsOf u30 hD) u30 (by decide) rfl rfl (Nat.le_of_ble_eq_true rfl) dX7_count_180 (fun x32 h31 hD => ?_)
    refine g_callSi (pc := 183) (As := [.long x32]) C ms_RX7_258 (M_JL_bitCount  hD) (by decide) rfl rfl (Nat.le_of_ble_eq_true rfl) dX7_count_183 (fun x34 h33 hD => ?_)
    exact g_iret (pc := 186) C R dX7_count_186 hD
  have hD := hD.2 c29
  by_cases c35 : a1 = 13
  · have hD := hD.1 c35
    refine g_tswIn (pc := 1) 187 C dX7_count_1 13 c35 (by decide) (by decide) rfl (by decide) ?_
    refine g_aload_n (pc := 187) rfl 0 rfl C dX7_count_187 ?_
    have u36 : TO Y (r o 1) 0 := wt_o hw t0 (by decide) rfl
    refine g_getR (pc := 188) C fl_RX7_19 t0 rfl dX7_count_188 ?_
    refine g_aload_n (pc := 191) rfl 0 rfl C dX7_count_191 ?_
    have u37 : TO Y (r o 2) 5 := wt_o hw t0 (by decide) rfl
    refine g_getR (pc := 192) C fl_RX7_26 t0 rfl dX7_count_192 ?_
    refine g_callVi (pc := 195) (As := [.ref (r o 2)]) C mv_RX7_247 (M_Bay_sailing u36 u37 hD) u36 (by decide) rfl rfl (Nat.le_of_ble_eq_true rfl) dX7_count_195 (fun x39 h38 hD => ?_)
    exact g_iret (pc := 198) C R dX7_count_198 hD
  have hD := hD.2 c35
  have nc1 : ¬ (a1).toInt = 0 := tsw_ne c1
  have nc3 : ¬ (a1).toInt = 1 := tsw_ne c3
  have nc5 : ¬ (a1).toInt = 2 := tsw_ne c5
  have nc7 : ¬ (a1).toInt = 3 := tsw_ne c7
  have nc9 : ¬ (a1).toInt = 4 := tsw_ne c9
  have nc11 : ¬ (a1).toInt = 5 := tsw_ne c11
  have nc13 : ¬ (a1).toInt = 6 := tsw_ne c13
  have nc15 : ¬ (a1).toInt = 7 := tsw_ne c15
  have nc20 : ¬ (a1).toInt = 8 := tsw_ne c20
  have nc22 : ¬ (a1).toInt = 9 := tsw_ne c22
  have nc24 : ¬ (a1).toInt = 10 := tsw_ne c24
  have nc26 : ¬ (a1).toInt = 11 := tsw_ne c26
  have nc29 : ¬ (a1).toInt = 12 := tsw_ne c29
  have nc35 : ¬ (a1).toInt = 13 := tsw_ne c35
  refine g_tswOut (pc := 1) 199 C dX7_count_1 (by omega) (by decide) ?_
  refine g_iconst (pc := 199) (v := (-1)) (by decide) C dX7_count_199 ?_
  exact g_iret (pc := 200) C R dX7_count_200 hD
def DB_SR_coveredBy_5 (r : TR) (l0 : Nat) (l1 : Int32) (l2 : Int64) (l4 : Int32) (h : TH) (K5 : Int64 → Int32 → TH → Prop) (K43 : Int64 → TH → Prop) (Q : Int64 → TH → Prop) : Prop :=
  (((h.1 (r l0 1) 2) ≤ l4 → K43 l2 h) ∧ (¬ (h.1 (r l0 1) 2) ≤ l4 → ((¬ ((l1 >>> (l4 &&& 31)) &&& 1) = 1 → ∀ x6 : Int32, x6 = l4 + 1 → K5 l2 x6 h) ∧ (((l1 >>> (l4 &&& 31)) &&& 1) = 1 → vp_in l4 6 ∧ ∀ x8 : Int64, x8 = l2 ||| (h.2 (r l0 9) l4.toNatClampNeg) → ∀ x9 : Int32, x9 = l4 + 1 → K5 x8 x9 h))))
set_option maxRecDepth 100000 in
set_option maxHeartbeats 4000000 in
theorem WB_SR_coveredBy_5 {Y : CG} {X : CX} {r : TR} {l0 : Nat} {l1 : Int32} {l2 : Int64} {l4 : Int32} {h : TH} {K5 : Int64 → Int32 → TH → Prop} {K43 : Int64 → TH → Prop} {Q : Int64 → TH → Prop} (C : Gd Y X cX7_coveredBy 5 RX7 1) (R : Rl Y r X Q) (t0 : TO Y l0 7) (hK5 : ∀ (k2 : Int64) (k4 : Int32) (hh : TH), K5 k2 k4 hh → G Y X 5 5 [(0, .ref l0), (1, .int l1), (2, .long k2), (4, .int k4)] [] r hh) (hK43 : ∀ (k2 : Int64) (hh : TH), K43 k2 hh → G Y X 5 43 [(2, .long k2)] [] r hh) (hD : DB_SR_coveredBy_5 r l0 l1 l2 l4 h K5 K43 Q) : G Y X 5 5 [(0, .ref l0), (1, .int l1), (2, .long l2), (4, .int l4)] [] r h := by
  unfold DB_SR_coveredBy_5 at hD
  refine g_wt (fun hw => ?_)
  refine g_iload (pc := 5) 3 rfl C dX7_coveredBy_5 ?_
  refine g_aload_n (pc := 7) rfl 0 rfl C dX7_coveredBy_7 ?_
  have u3 : TO Y (r l0 1) 0 := wt_o hw t0 (by decide) rfl
  refine g_getR (pc := 8) C fl_RX7_19 t0 rfl dX7_coveredBy_8 ?_
  refine g_getI (pc := 11) C fl_RX7_133 u3 rfl dX7_coveredBy_11 ?_
  refine g_icmp_ge (pc := 14) 43 C dX7_coveredBy_14 (by decide) (fun c4 => ?_) (fun c4 => ?_)
  · have hD := hD.1 c4
    refine g_sub [2] rfl ?_
    exact hK43 l2 h hD
  · have hD := hD.2 c4
    refine g_iload_n (pc := 17) rfl 1 rfl C dX7_coveredBy_17 ?_
    refine g_iload (pc := 18) 3 rfl C dX7_coveredBy_18 ?_
    refine g_ishr (pc := 20) C dX7_coveredBy_20 ?_
    refine g_iconst (pc := 21) (v := 1) (by decide) C dX7_coveredBy_21 ?_
    refine g_iand (pc := 22) C dX7_coveredBy_22 ?_
    refine g_iconst (pc := 23) (v := 1) (by decide) C dX7_coveredBy_23 ?_
    refine g_icmp_ne (pc := 24) 37 C dX7_coveredBy_24 (by decide) (fun c5 => ?_) (fun c5 => ?_)
    · have hD := hD.1 c5
      refine g_iinc (pc := 37) (q := 3) (c := 1) (fun x6 => [(4, .int x6), (0, .ref l0), (1, .int l1), (2, .long l2)]) C dX7_coveredBy_37 rfl (by decide) (by decide) rfl (fun x6 ex6 => ?_)
      have hD := hD x6 ex6
      refine g_goto (pc := 40) 5 C dX7_coveredBy_40 (by decide) ?_
      refine g_sub [1, 2, 3, 0] rfl ?_
      exact hK5 l2 x6 h hD
    · have hD := hD.2 c5
      refine g_lload_n (pc := 27) rfl 2 rfl C dX7_coveredBy_27 ?_
      refine g_aload_n (pc := 28) rfl 0 rfl C dX7_coveredBy_28 ?_
      have u7 : TA Y (r l0 9) 11 6 := wt_a hw t0 (by decide) (by decide) rfl
      refine g_getR (pc := 29) C fl_RX7_62 t0 rfl dX7_coveredBy_29 ?_
      refine g_iload (pc := 32) 3 rfl C dX7_coveredBy_32 ?_
      obtain ⟨hb, hD⟩ := hD
      refine g_lald (pc := 34) C u7 hb dX7_coveredBy_34 ?_
      refine g_lor (pc := 35) C dX7_coveredBy_35 ?_
      refine g_lstore_n (pc := 36) (fun x8 => [(2, .long x8), (0, .ref l0), (1, .int l1), (4, .int l4)]) C dX7_coveredBy_36 rfl (by decide) rfl (fun x8 ex8 => ?_)
      have hD := hD x8 ex8
      refine g_iinc (pc := 37) (q := 3) (c := 1) (fun x9 => [(4, .int x9), (2, .long x8), (0, .ref l0), (1, .int l1)]) C dX7_coveredBy_37 rfl (by decide) (by decide) rfl (fun x9 ex9 => ?_)
      have hD := hD x9 ex9
      refine g_goto (pc := 40) 5 C dX7_coveredBy_40 (by decide) ?_
      refine g_sub [2, 3, 1, 0] rfl ?_
      exact hK5 x8 x9 h hD
def D_SR_coveredBy (r : TR) (o : Nat) (a1 : Int32) (h : TH) (Q : Int64 → TH → Prop) : Prop :=
  ∃ n, lp (fun (K : Int64 × Int32 × TH → Prop) (s : Int64 × Int32 × TH) => DB_SR_coveredBy_5 r o a1 s.1 s.2.1 s.2.2 (fun y10 y11 h12 => K (y10, y11, h12)) (fun x13 h14 => Q x13 h14) Q) n (0, 0, h)
set_option maxRecDepth 100000 in
set_option maxHeartbeats 4000000 in
theorem M_SR_coveredBy {Y : CG} {r : TR} {l : Launch} {o : Nat} {a1 : Int32} {h : TH} {Q : Int64 → TH → Prop} (t0 : TO Y o 7) (hD : D_SR_coveredBy r o a1 h Q) : Ml Y r l yX7_coveredBy cX7_coveredBy 5 1 [.ref o, .int a1] h Q := by
  unfold D_SR_coveredBy at hD
  refine Ml.of RX7 rfl (by decide) (by simp [lg_sl, Value.category]) [(0, .ref o), (1, .int a1)] rfl (fun X hXl C R => ?_)
  subst hXl
  refine g_wt (fun hw => ?_)
  refine g_lconst (pc := 0) (v := 0) (by decide) C dX7_coveredBy_0 ?_
  refine g_lstore_n (pc := 1) (fun _ => [(2, .long 0), (0, .ref o), (1, .int a1)]) C dX7_coveredBy_1 rfl (by decide) rfl (fun _ _ => ?_)
  refine g_iconst (pc := 2) (v := 0) (by decide) C dX7_coveredBy_2 ?_
  refine g_istore (pc := 3) (fun _ => [(4, .int 0), (2, .long 0), (0, .ref o), (1, .int a1)]) C dX7_coveredBy_3 (by decide) rfl (fun _ _ => ?_)
  obtain ⟨n, hD⟩ := hD
  refine g_sub [2, 3, 1, 0] rfl ?_
  refine lp_run (fun s : Int64 × Int32 × TH => G Y X 5 5 [(0, .ref o), (1, .int a1), (2, .long s.1), (4, .int s.2.1)] [] r s.2.2) (fun K s hB hK => ?_) n (0, 0, h) hD
  refine WB_SR_coveredBy_5 C R t0 (fun y10 y11 h12 hk => hK _ hk) (fun x13 h14 hD => ?_) hB
  · refine g_lload_n (pc := 43) rfl 0 rfl C dX7_coveredBy_43 ?_
    exact g_lret (pc := 44) C R dX7_coveredBy_44 hD
def DB_SR_cover_33 (r : TR) (l0 : Nat) (l1 : Int32) (l2 : Int32) (l3 : Int32) (h : TH) (K33 : Int32 → TH → Prop) (K68 : TH → Prop) (Q : Int32 → TH → Prop) : Prop :=
  (((h.1 (r l0 1) 2) ≤ l3 → K68 h) ∧ (¬ (h.1 (r l0 1) 2) ≤ l3 → D_Bay_waterSmelling r (r l0 1) (r l0 2) l3 h (fun x17 h16 => vp_in l3 6 ∧ ∀ h18, h18 = pL h16 (r l0 9) l3.toNatClampNeg x17 → ∀ x19 : Int32, x19 = l3 + 1 → K33 x19 h18)))
set_option maxRecDepth 100000 in
set_option maxHeartbeats 4000000 in
theorem WB_SR_cover_33 {Y : CG} {X : CX} {r : TR} {l0 : Nat} {l1 : Int32} {l2 : Int32} {l3 : Int32} {h : TH} {K33 : Int32 → TH → Prop} {K68 : TH → Prop} {Q : Int32 → TH → Prop} (C : Gd Y X cX7_cover 8 RX7 4) (R : Ri Y r X .int Q) (t0 : TO Y l0 7) (hK33 : ∀ (k3 : Int32) (hh : TH), K33 k3 hh → G Y X 8 33 [(0, .ref l0), (1, .int l1), (2, .int l2), (3, .int k3)] [] r hh) (hK68 : ∀ (hh : TH), K68 hh → G Y X 8 68 [(0, .ref l0), (1, .int l1), (2, .int l2)] [] r hh) (hD : DB_SR_cover_33 r l0 l1 l2 l3 h K33 K68 Q) : G Y X 8 33 [(0, .ref l0), (1, .int l1), (2, .int l2), (3, .int l3)] [] r h := by
  unfold DB_SR_cover_33 at hD
  refine g_wt (fun hw => ?_)
  refine g_iload_n (pc := 33) rfl 3 rfl C dX7_cover_33 ?_
  refine g_aload_n (pc := 34) rfl 0 rfl C dX7_cover_34 ?_
  have u11 : TO Y (r l0 1) 0 := wt_o hw t0 (by decide) rfl
  refine g_getR (pc := 35) C fl_RX7_19 t0 rfl dX7_cover_35 ?_
  refine g_getI (pc := 38) C fl_RX7_133 u11 rfl dX7_cover_38 ?_
  refine g_icmp_ge (pc := 41) 68 C dX7_cover_41 (by decide) (fun c12 => ?_) (fun c12 => ?_)
  · have hD := hD.1 c12
    refine g_sub [0, 1, 2] rfl ?_
    exact hK68 h hD
  · have hD := hD.2 c12
    refine g_aload_n (pc := 44) rfl 0 rfl C dX7_cover_44 ?_
    have u13 : TA Y (r l0 9) 11 6 := wt_a hw t0 (by decide) (by decide) rfl
    refine g_getR (pc := 45) C fl_RX7_62 t0 rfl dX7_cover_45 ?_
    refine g_iload_n (pc := 48) rfl 3 rfl C dX7_cover_48 ?_
    refine g_aload_n (pc := 49) rfl 0 rfl C dX7_cover_49 ?_
    have u14 : TO Y (r l0 1) 0 := wt_o hw t0 (by decide) rfl
    refine g_getR (pc := 50) C fl_RX7_19 t0 rfl dX7_cover_50 ?_
    refine g_aload_n (pc := 53) rfl 0 rfl C dX7_cover_53 ?_
    have u15 : TO Y (r l0 2) 5 := wt_o hw t0 (by decide) rfl
    refine g_getR (pc := 54) C fl_RX7_26 t0 rfl dX7_cover_54 ?_
    refine g_iload_n (pc := 57) rfl 3 rfl C dX7_cover_57 ?_
    refine g_callVl (pc := 58) (As := [.ref (r l0 2), .int l3]) C mv_RX7_251 (M_Bay_waterSmelling u14 u15 hD) u14 (by decide) rfl rfl (Nat.le_of_ble_eq_true rfl) dX7_cover_58 (fun x17 h16 hD => ?_)
    obtain ⟨hb, hD⟩ := hD
    refine g_last (pc := 61) C u13 hb dX7_cover_61 (fun h18 eh18 => ?_)
    have hD := hD h18 eh18
    refine g_iinc (pc := 62) (q := 3) (c := 1) (fun x19 => [(3, .int x19), (0, .ref l0), (1, .int l1), (2, .int l2)]) C dX7_cover_62 rfl (by decide) (by decide) rfl (fun x19 ex19 => ?_)
    have hD := hD x19 ex19
    refine g_goto (pc := 65) 33 C dX7_cover_65 (by decide) ?_
    refine g_sub [1, 2, 3, 0] rfl ?_
    exact hK33 x19 h18 hD
def DJ_SR_cover_114 (r : TR) (l0 : Nat) (l1 : Int32) (l2 : Int32) (l3 : Int64) (l5 : Int32) (l6 : Int32) (s0 : Int32) (h : TH) (K90 : Int32 → Int32 → TH → Prop) (K151 : Int32 → TH → Prop) (Q : Int32 → TH → Prop) : Prop :=
  ((¬ (l6 &&& (l2 ^^^ (-1))) = 0 → ∀ x37 : Int32, x37 = l6 + 1 → K90 l5 x37 h) ∧ ((l6 &&& (l2 ^^^ (-1))) = 0 → ((s0 = 0 → ∀ x39 : Int32, x39 = l6 + 1 → K90 l5 x39 h) ∧ (¬ s0 = 0 → D_SR_coveredBy r l0 l6 h (fun x41 h40 => ((¬ (lg_cmp x41 l3) = 0 → ∀ x43 : Int32, x43 = l6 + 1 → K90 l5 x43 h40) ∧ ((lg_cmp x41 l3) = 0 → ∀ x45 : Int32, x45 = l6 + 1 → K90 l6 x45 h40)))))))
set_option maxRecDepth 100000 in
set_option maxHeartbeats 4000000 in
theorem WJ_SR_cover_114 {Y : CG} {X : CX} {r : TR} {l0 : Nat} {l1 : Int32} {l2 : Int32} {l3 : Int64} {l5 : Int32} {l6 : Int32} {s0 : Int32} {h : TH} {K90 : Int32 → Int32 → TH → Prop} {K151 : Int32 → TH → Prop} {Q : Int32 → TH → Prop} (C : Gd Y X cX7_cover 8 RX7 4) (R : Ri Y r X .int Q) (t0 : TO Y l0 7) (hK90 : ∀ (k5 : Int32) (k6 : Int32) (hh : TH), K90 k5 k6 hh → G Y X 8 90 [(0, .ref l0), (1, .int l1), (2, .int l2), (3, .long l3), (5, .int k5), (6, .int k6)] [] r hh) (hK151 : ∀ (k5 : Int32) (hh : TH), K151 k5 hh → G Y X 8 151 [(1, .int l1), (5, .int k5)] [] r hh) (hD : DJ_SR_cover_114 r l0 l1 l2 l3 l5 l6 s0 h K90 K151 Q) : G Y X 8 114 [(0, .ref l0), (1, .int l1), (2, .int l2), (3, .long l3), (5, .int l5), (6, .int l6)] [.int s0] r h := by
  unfold DJ_SR_cover_114 at hD
  refine g_wt (fun hw => ?_)
  refine g_istore (pc := 114) (fun _ => [(7, .int s0), (0, .ref l0), (1, .int l1), (2, .int l2), (3, .long l3), (5, .int l5), (6, .int l6)]) C dX7_cover_114 (by decide) rfl (fun _ _ => ?_)
  refine g_iload (pc := 116) 6 rfl C dX7_cover_116 ?_
  refine g_iload_n (pc := 118) rfl 3 rfl C dX7_cover_118 ?_
  refine g_iconst (pc := 119) (v := (-1)) (by decide) C dX7_cover_119 ?_
  refine g_ixor (pc := 120) C dX7_cover_120 ?_
  refine g_iand (pc := 121) C dX7_cover_121 ?_
  refine g_if_ne (pc := 122) 145 C dX7_cover_122 (by decide) (fun c36 => ?_) (fun c36 => ?_)
  · have hD := hD.1 c36
    refine g_iinc (pc := 145) (q := 6) (c := 1) (fun x37 => [(6, .int x37), (7, .int s0), (0, .ref l0), (1, .int l1), (2, .int l2), (3, .long l3), (5, .int l5)]) C dX7_cover_145 rfl (by decide) (by decide) rfl (fun x37 ex37 => ?_)
    have hD := hD x37 ex37
    refine g_goto (pc := 148) 90 C dX7_cover_148 (by decide) ?_
    refine g_sub [2, 3, 4, 5, 6, 0] rfl ?_
    exact hK90 l5 x37 h hD
  · have hD := hD.2 c36
    refine g_iload (pc := 125) 0 rfl C dX7_cover_125 ?_
    refine g_if_eq (pc := 127) 145 C dX7_cover_127 (by decide) (fun c38 => ?_) (fun c38 => ?_)
    · have hD := hD.1 c38
      refine g_iinc (pc := 145) (q := 6) (c := 1) (fun x39 => [(6, .int x39), (7, .int s0), (0, .ref l0), (1, .int l1), (2, .int l2), (3, .long l3), (5, .int l5)]) C dX7_cover_145 rfl (by decide) (by decide) rfl (fun x39 ex39 => ?_)
      have hD := hD x39 ex39
      refine g_goto (pc := 148) 90 C dX7_cover_148 (by decide) ?_
      refine g_sub [2, 3, 4, 5, 6, 0] rfl ?_
      exact hK90 l5 x39 h hD
    · have hD := hD.2 c38
      refine g_aload_n (pc := 130) rfl 1 rfl C dX7_cover_130 ?_
      refine g_iload (pc := 131) 6 rfl C dX7_cover_131 ?_
      refine g_callVl (pc := 133) (As := [.int l6]) C mv_RX7_255 (M_SR_coveredBy t0 hD) t0 (by decide) rfl rfl (Nat.le_of_ble_eq_true rfl) dX7_cover_133 (fun x41 h40 hD => ?_)
      refine g_lload_n (pc := 136) rfl 4 rfl C dX7_cover_136 ?_
      refine g_lcmp (pc := 137) C dX7_cover_137 ?_
      refine g_if_ne (pc := 138) 145 C dX7_cover_138 (by decide) (fun c42 => ?_) (fun c42 => ?_)
      · have hD := hD.1 c42
        refine g_iinc (pc := 145) (q := 6) (c := 1) (fun x43 => [(6, .int x43), (7, .int s0), (0, .ref l0), (1, .int l1), (2, .int l2), (3, .long l3), (5, .int l5)]) C dX7_cover_145 rfl (by decide) (by decide) rfl (fun x43 ex43 => ?_)
        have hD := hD x43 ex43
        refine g_goto (pc := 148) 90 C dX7_cover_148 (by decide) ?_
        refine g_sub [2, 3, 4, 5, 6, 0] rfl ?_
        exact hK90 l5 x43 h40 hD
      · have hD := hD.2 c42
        refine g_iload (pc := 141) 6 rfl C dX7_cover_141 ?_
        refine g_istore (pc := 143) (fun _ => [(5, .int l6), (7, .int s0), (0, .ref l0), (1, .int l1), (2, .int l2), (3, .long l3), (6, .int l6)]) C dX7_cover_143 (by decide) rfl (fun _ _ => ?_)
        refine g_iinc (pc := 145) (q := 6) (c := 1) (fun x45 => [(6, .int x45), (5, .int l6), (7, .int s0), (0, .ref l0), (1, .int l1), (2, .int l2), (3, .long l3)]) C dX7_cover_145 rfl (by decide) (by decide) rfl (fun x45 ex45 => ?_)
        have hD := hD x45 ex45
        refine g_goto (pc := 148) 90 C dX7_cover_148 (by decide) ?_
        refine g_sub [3, 4, 5, 6, 1, 0] rfl ?_
        exact hK90 l6 x45 h40 hD
def DB_SR_cover_90 (r : TR) (l0 : Nat) (l1 : Int32) (l2 : Int32) (l3 : Int64) (l5 : Int32) (l6 : Int32) (h : TH) (K90 : Int32 → Int32 → TH → Prop) (K151 : Int32 → TH → Prop) (Q : Int32 → TH → Prop) : Prop :=
  ((l2 ≤ l6 → K151 l5 h) ∧ (¬ l2 ≤ l6 → D_JI_bitCount r l6 h (fun x31 h30 => D_JI_bitCount r l5 h30 (fun x33 h32 => ((x33 ≤ x31 → DJ_SR_cover_114 r l0 l1 l2 l3 l5 l6 0 h32 (K90) (K151) Q) ∧ (¬ x33 ≤ x31 → DJ_SR_cover_114 r l0 l1 l2 l3 l5 l6 1 h32 (K90) (K151) Q))))))
set_option maxRecDepth 100000 in
set_option maxHeartbeats 4000000 in
theorem WB_SR_cover_90 {Y : CG} {X : CX} {r : TR} {l0 : Nat} {l1 : Int32} {l2 : Int32} {l3 : Int64} {l5 : Int32} {l6 : Int32} {h : TH} {K90 : Int32 → Int32 → TH → Prop} {K151 : Int32 → TH → Prop} {Q : Int32 → TH → Prop} (C : Gd Y X cX7_cover 8 RX7 4) (R : Ri Y r X .int Q) (t0 : TO Y l0 7) (hK90 : ∀ (k5 : Int32) (k6 : Int32) (hh : TH), K90 k5 k6 hh → G Y X 8 90 [(0, .ref l0), (1, .int l1), (2, .int l2), (3, .long l3), (5, .int k5), (6, .int k6)] [] r hh) (hK151 : ∀ (k5 : Int32) (hh : TH), K151 k5 hh → G Y X 8 151 [(1, .int l1), (5, .int k5)] [] r hh) (hD : DB_SR_cover_90 r l0 l1 l2 l3 l5 l6 h K90 K151 Q) : G Y X 8 90 [(0, .ref l0), (1, .int l1), (2, .int l2), (3, .long l3), (5, .int l5), (6, .int l6)] [] r h := by
  unfold DB_SR_cover_90 at hD
  refine g_wt (fun hw => ?_)
  refine g_iload (pc := 90) 5 rfl C dX7_cover_90 ?_
  refine g_iload_n (pc := 92) rfl 2 rfl C dX7_cover_92 ?_
  refine g_icmp_ge (pc := 93) 151 C dX7_cover_93 (by decide) (fun c29 => ?_) (fun c29 => ?_)
  · have hD := hD.1 c29
    refine g_sub [1, 4] rfl ?_
    exact hK151 l5 h hD
  · have hD := hD.2 c29
    refine g_iload (pc := 96) 5 rfl C dX7_cover_96 ?_
    refine g_callSi (pc := 98) (As := [.int l6]) C ms_RX7_199 (M_JI_bitCount  hD) (by decide) rfl rfl (Nat.le_of_ble_eq_true rfl) dX7_cover_98 (fun x31 h30 hD => ?_)
    refine g_iload (pc := 101) 4 rfl C dX7_cover_101 ?_
    refine g_callSi (pc := 103) (As := [.int l5]) C ms_RX7_199 (M_JI_bitCount  hD) (by decide) rfl rfl (Nat.le_of_ble_eq_true rfl) dX7_cover_103 (fun x33 h32 hD => ?_)
    refine g_icmp_ge (pc := 106) 113 C dX7_cover_106 (by decide) (fun c34 => ?_) (fun c34 => ?_)
    · have hD := hD.1 c34
      refine g_iconst (pc := 113) (v := 0) (by decide) C dX7_cover_113 ?_
      refine g_sub [0, 1, 2, 3, 4, 5] rfl ?_
      exact WJ_SR_cover_114 C R t0 (hK90) (hK151) hD
    · have hD := hD.2 c34
      refine g_iconst (pc := 109) (v := 1) (by decide) C dX7_cover_109 ?_
      refine g_goto (pc := 110) 114 C dX7_cover_110 (by decide) ?_
      refine g_sub [0, 1, 2, 3, 4, 5] rfl ?_
      exact WJ_SR_cover_114 C R t0 (hK90) (hK151) hD
def D_SR_cover (r : TR) (o : Nat) (a1 : Int32) (h : TH) (Q : Int32 → TH → Prop) : Prop :=
  D_SR_isWithin r a1 0 2 h (fun x2 h1 => ((¬ x2 = 0 → D_Bay_sailing r (r o 1) (r o 2) h1 (fun x7 h6 => ∀ x9 : Int32, x9 = x7 &&& (h6.1 (r o 2) 1) → ∃ n, lp (fun (K : Int32 × TH → Prop) (s : Int32 × TH) => DB_SR_cover_33 r o a1 x9 s.1 s.2 (fun y20 h21 => K (y20, h21)) (fun h22 => D_SR_coveredBy r o x9 h22 (fun x24 h23 => ((¬ a1 = 2 → ∃ n, lp (fun (K : Int32 × Int32 × TH → Prop) (s : Int32 × Int32 × TH) => DB_SR_cover_90 r o a1 x9 x24 s.1 s.2.1 s.2.2 (fun y46 y47 h48 => K (y46, y47, h48)) (fun x49 h50 => ((¬ a1 = 0 → Q x49 h50) ∧ (a1 = 0 → D_JI_bitCount r x49 h50 (fun x53 h52 => Q x53 h52)))) Q) n (x9, 0, h23)) ∧ (a1 = 2 → D_JL_bitCount r x24 h23 (fun x55 h54 => Q x55 h54))))) Q) n (0, h6))) ∧ (x2 = 0 → Q (-1) h1)))
set_option maxRecDepth 100000 in
set_option maxHeartbeats 4000000 in
theorem M_SR_cover {Y : CG} {r : TR} {l : Launch} {o : Nat} {a1 : Int32} {h : TH} {Q : Int32 → TH → Prop} (t0 : TO Y o 7) (hD : D_SR_cover r o a1 h Q) : Mi Y r l yX7_cover cX7_cover 8 .int 4 [.ref o, .int a1] h Q := by
  unfold D_SR_cover at hD
  refine Mi.of RX7 rfl (by decide) (by simp [lg_sl, Value.category]) [(0, .ref o), (1, .int a1)] rfl (fun X hXl C R => ?_)
  subst hXl
  refine g_wt (fun hw => ?_)
  refine g_iload_n (pc := 0) rfl 1 rfl C dX7_cover_0 ?_
  refine g_iconst (pc := 1) (v := 0) (by decide) C dX7_cover_1 ?_
  refine g_iconst (pc := 2) (v := 2) (by decide) C dX7_cover_2 ?_
  refine g_callSi (pc := 3) (As := [.int a1, .int 0, .int 2]) C ms_RX7_169 (M_SR_isWithin  hD) (by decide) rfl rfl (Nat.le_of_ble_eq_true rfl) dX7_cover_3 (fun x2 h1 hD => ?_)
  refine g_if_ne (pc := 6) 11 C dX7_cover_6 (by decide) (fun c3 => ?_) (fun c3 => ?_)
  · have hD := hD.1 c3
    refine g_aload_n (pc := 11) rfl 0 rfl C dX7_cover_11 ?_
    have u4 : TO Y (r o 1) 0 := wt_o hw t0 (by decide) rfl
    refine g_getR (pc := 12) C fl_RX7_19 t0 rfl dX7_cover_12 ?_
    refine g_aload_n (pc := 15) rfl 0 rfl C dX7_cover_15 ?_
    have u5 : TO Y (r o 2) 5 := wt_o hw t0 (by decide) rfl
    refine g_getR (pc := 16) C fl_RX7_26 t0 rfl dX7_cover_16 ?_
    refine g_callVi (pc := 19) (As := [.ref (r o 2)]) C mv_RX7_247 (M_Bay_sailing u4 u5 hD) u4 (by decide) rfl rfl (Nat.le_of_ble_eq_true rfl) dX7_cover_19 (fun x7 h6 hD => ?_)
    refine g_aload_n (pc := 22) rfl 0 rfl C dX7_cover_22 ?_
    have u8 : TO Y (r o 2) 5 := wt_o hw t0 (by decide) rfl
    refine g_getR (pc := 23) C fl_RX7_26 t0 rfl dX7_cover_23 ?_
    refine g_getI (pc := 26) C fl_RX7_116 u8 rfl dX7_cover_26 ?_
    refine g_iand (pc := 29) C dX7_cover_29 ?_
    refine g_istore_n (pc := 30) (fun x9 => [(2, .int x9), (0, .ref o), (1, .int a1)]) C dX7_cover_30 rfl (by decide) rfl (fun x9 ex9 => ?_)
    have hD := hD x9 ex9
    refine g_iconst (pc := 31) (v := 0) (by decide) C dX7_cover_31 ?_
    refine g_istore_n (pc := 32) (fun _ => [(3, .int 0), (2, .int x9), (0, .ref o), (1, .int a1)]) C dX7_cover_32 rfl (by decide) rfl (fun _ _ => ?_)
    obtain ⟨n, hD⟩ := hD
    refine g_sub [2, 3, 1, 0] rfl ?_
    refine lp_run (fun s : Int32 × TH => G Y X 8 33 [(0, .ref o), (1, .int a1), (2, .int x9), (3, .int s.1)] [] r s.2) (fun K s hB hK => ?_) n (0, h6) hD
    refine WB_SR_cover_33 C R t0 (fun y20 h21 hk => hK _ hk) (fun h22 hD => ?_) hB
    · refine g_aload_n (pc := 68) rfl 0 rfl C dX7_cover_68 ?_
      refine g_iload_n (pc := 69) rfl 2 rfl C dX7_cover_69 ?_
      refine g_callVl (pc := 70) (As := [.int x9]) C mv_RX7_255 (M_SR_coveredBy t0 hD) t0 (by decide) rfl rfl (Nat.le_of_ble_eq_true rfl) dX7_cover_70 (fun x24 h23 hD => ?_)
      refine g_lstore_n (pc := 73) (fun _ => [(3, .long x24), (0, .ref o), (1, .int a1), (2, .int x9)]) C dX7_cover_73 rfl (by decide) rfl (fun _ _ => ?_)
      refine g_iload_n (pc := 74) rfl 2 rfl C dX7_cover_74 ?_
      refine g_iconst (pc := 75) (v := 2) (by decide) C dX7_cover_75 ?_
      refine g_icmp_ne (pc := 76) 84 C dX7_cover_76 (by decide) (fun c26 => ?_) (fun c26 => ?_)
      · have hD := hD.1 c26
        refine g_iload_n (pc := 84) rfl 3 rfl C dX7_cover_84 ?_
        refine g_istore (pc := 85) (fun _ => [(5, .int x9), (3, .long x24), (0, .ref o), (1, .int a1), (2, .int x9)]) C dX7_cover_85 (by decide) rfl (fun _ _ => ?_)
        refine g_iconst (pc := 87) (v := 0) (by decide) C dX7_cover_87 ?_
        refine g_istore (pc := 88) (fun _ => [(6, .int 0), (5, .int x9), (3, .long x24), (0, .ref o), (1, .int a1), (2, .int x9)]) C dX7_cover_88 (by decide) rfl (fun _ _ => ?_)
        obtain ⟨n, hD⟩ := hD
        refine g_sub [3, 4, 5, 2, 1, 0] rfl ?_
        refine lp_run (fun s : Int32 × Int32 × TH => G Y X 8 90 [(0, .ref o), (1, .int a1), (2, .int x9), (3, .long x24), (5, .int s.1), (6, .int s.2.1)] [] r s.2.2) (fun K s hB hK => ?_) n (x9, 0, h23) hD
        refine WB_SR_cover_90 C R t0 (fun y46 y47 h48 hk => hK _ hk) (fun x49 h50 hD => ?_) hB
        · refine g_iload_n (pc := 151) rfl 0 rfl C dX7_cover_151 ?_
          refine g_if_ne (pc := 152) 163 C dX7_cover_152 (by decide) (fun c51 => ?_) (fun c51 => ?_)
          · have hD := hD.1 c51
            refine g_iload (pc := 163) 1 rfl C dX7_cover_163 ?_
            exact g_iret (pc := 165) C R dX7_cover_165 hD
          · have hD := hD.2 c51
            refine g_iload (pc := 155) 1 rfl C dX7_cover_155 ?_
            refine g_callSi (pc := 157) (As := [.int x49]) C ms_RX7_199 (M_JI_bitCount  hD) (by decide) rfl rfl (Nat.le_of_ble_eq_true rfl) dX7_cover_157 (fun x53 h52 hD => ?_)
            refine g_goto (pc := 160) 165 C dX7_cover_160 (by decide) ?_
            exact g_iret (pc := 165) C R dX7_cover_165 hD
      · have hD := hD.2 c26
        refine g_lload_n (pc := 79) rfl 0 rfl C dX7_cover_79 ?_
        refine g_callSi (pc := 80) (As := [.long x24]) C ms_RX7_258 (M_JL_bitCount  hD) (by decide) rfl rfl (Nat.le_of_ble_eq_true rfl) dX7_cover_80 (fun x55 h54 hD => ?_)
        exact g_iret (pc := 83) C R dX7_cover_83 hD
  · have hD := hD.2 c3
    refine g_iconst (pc := 9) (v := (-1)) (by decide) C dX7_cover_9 ?_
    exact g_iret (pc := 10) C R dX7_cover_10 hD
def D_SR_feed (r : TR) (o : Nat) (a1 : Int32) (a2 : Int32) (a3 : Int32) (a4 : Int32) (a5 : Int32) (h : TH) (Q : Int32 → TH → Prop) : Prop :=
  ((((h.1 (r o 0) 1) + 20) ≤ 2000 → D_Rd_addBytes r (r o 0) a1 h (fun h4 => D_Rd_addBytes r (r o 0) a2 h4 (fun h7 => D_Rd_addBytes r (r o 0) a3 h7 (fun h10 => D_Rd_addBytes r (r o 0) a4 h10 (fun h13 => D_Rd_addBytes r (r o 0) a5 h13 (fun h16 => Q (h16.1 (r o 0) 1) h16)))))) ∧ (¬ ((h.1 (r o 0) 1) + 20) ≤ 2000 → Q (-1) h))
set_option maxRecDepth 100000 in
set_option maxHeartbeats 4000000 in
theorem M_SR_feed {Y : CG} {r : TR} {l : Launch} {o : Nat} {a1 : Int32} {a2 : Int32} {a3 : Int32} {a4 : Int32} {a5 : Int32} {h : TH} {Q : Int32 → TH → Prop} (t0 : TO Y o 7) (hD : D_SR_feed r o a1 a2 a3 a4 a5 h Q) : Mi Y r l yX7_feed cX7_feed 6 .int 2 [.ref o, .int a1, .int a2, .int a3, .int a4, .int a5] h Q := by
  unfold D_SR_feed at hD
  refine Mi.of RX7 rfl (by decide) (by simp [lg_sl, Value.category]) [(0, .ref o), (1, .int a1), (2, .int a2), (3, .int a3), (4, .int a4), (5, .int a5)] rfl (fun X hXl C R => ?_)
  subst hXl
  refine g_wt (fun hw => ?_)
  refine g_aload_n (pc := 0) rfl 0 rfl C dX7_feed_0 ?_
  have u1 : TO Y (r o 0) 4 := wt_o hw t0 (by decide) rfl
  refine g_getR (pc := 1) C fl_RX7_12 t0 rfl dX7_feed_1 ?_
  refine g_getI (pc := 4) C fl_RX7_66 u1 rfl dX7_feed_4 ?_
  refine g_bipush (pc := 7) (v := 20) (by decide) C dX7_feed_7 ?_
  refine g_iadd (pc := 9) C dX7_feed_9 ?_
  refine g_sipush (pc := 10) (v := 2000) (by decide) C dX7_feed_10 ?_
  refine g_icmp_le (pc := 13) 18 C dX7_feed_13 (by decide) (fun c2 => ?_) (fun c2 => ?_)
  · have hD := hD.1 c2
    refine g_aload_n (pc := 18) rfl 0 rfl C dX7_feed_18 ?_
    have u3 : TO Y (r o 0) 4 := wt_o hw t0 (by decide) rfl
    refine g_getR (pc := 19) C fl_RX7_12 t0 rfl dX7_feed_19 ?_
    refine g_iload_n (pc := 22) rfl 1 rfl C dX7_feed_22 ?_
    refine g_callVv (pc := 23) (As := [.int a1]) C mv_RX7_69 (M_Rd_addBytes u3 hD) u3 (by decide) rfl rfl (Nat.le_of_ble_eq_true rfl) dX7_feed_23 (fun h4 hD => ?_)
    refine g_aload_n (pc := 26) rfl 0 rfl C dX7_feed_26 ?_
    have u6 : TO Y (r o 0) 4 := wt_o hw t0 (by decide) rfl
    refine g_getR (pc := 27) C fl_RX7_12 t0 rfl dX7_feed_27 ?_
    refine g_iload_n (pc := 30) rfl 2 rfl C dX7_feed_30 ?_
    refine g_callVv (pc := 31) (As := [.int a2]) C mv_RX7_69 (M_Rd_addBytes u6 hD) u6 (by decide) rfl rfl (Nat.le_of_ble_eq_true rfl) dX7_feed_31 (fun h7 hD => ?_)
    refine g_aload_n (pc := 34) rfl 0 rfl C dX7_feed_34 ?_
    have u9 : TO Y (r o 0) 4 := wt_o hw t0 (by decide) rfl
    refine g_getR (pc := 35) C fl_RX7_12 t0 rfl dX7_feed_35 ?_
    refine g_iload_n (pc := 38) rfl 3 rfl C dX7_feed_38 ?_
    refine g_callVv (pc := 39) (As := [.int a3]) C mv_RX7_69 (M_Rd_addBytes u9 hD) u9 (by decide) rfl rfl (Nat.le_of_ble_eq_true rfl) dX7_feed_39 (fun h10 hD => ?_)
    refine g_aload_n (pc := 42) rfl 0 rfl C dX7_feed_42 ?_
    have u12 : TO Y (r o 0) 4 := wt_o hw t0 (by decide) rfl
    refine g_getR (pc := 43) C fl_RX7_12 t0 rfl dX7_feed_43 ?_
    refine g_iload (pc := 46) 4 rfl C dX7_feed_46 ?_
    refine g_callVv (pc := 48) (As := [.int a4]) C mv_RX7_69 (M_Rd_addBytes u12 hD) u12 (by decide) rfl rfl (Nat.le_of_ble_eq_true rfl) dX7_feed_48 (fun h13 hD => ?_)
    refine g_aload_n (pc := 51) rfl 0 rfl C dX7_feed_51 ?_
    have u15 : TO Y (r o 0) 4 := wt_o hw t0 (by decide) rfl
    refine g_getR (pc := 52) C fl_RX7_12 t0 rfl dX7_feed_52 ?_
    refine g_iload (pc := 55) 5 rfl C dX7_feed_55 ?_
    refine g_callVv (pc := 57) (As := [.int a5]) C mv_RX7_69 (M_Rd_addBytes u15 hD) u15 (by decide) rfl rfl (Nat.le_of_ble_eq_true rfl) dX7_feed_57 (fun h16 hD => ?_)
    refine g_aload_n (pc := 60) rfl 0 rfl C dX7_feed_60 ?_
    have u18 : TO Y (r o 0) 4 := wt_o hw t0 (by decide) rfl
    refine g_getR (pc := 61) C fl_RX7_12 t0 rfl dX7_feed_61 ?_
    refine g_getI (pc := 64) C fl_RX7_66 u18 rfl dX7_feed_64 ?_
    exact g_iret (pc := 67) C R dX7_feed_67 hD
  · have hD := hD.2 c2
    refine g_iconst (pc := 16) (v := (-1)) (by decide) C dX7_feed_16 ?_
    exact g_iret (pc := 17) C R dX7_feed_17 hD
def D_SR_forget (r : TR) (o : Nat) (h : TH) (Q : Int32 → TH → Prop) : Prop :=
  ∀ x2 : Int32, x2 = h.1 (r o 7) 0 → ∀ h4, h4 = pI h (r o 7) 0 0 → Q x2 h4
set_option maxRecDepth 100000 in
set_option maxHeartbeats 4000000 in
theorem M_SR_forget {Y : CG} {r : TR} {l : Launch} {o : Nat} {h : TH} {Q : Int32 → TH → Prop} (t0 : TO Y o 7) (hD : D_SR_forget r o h Q) : Mi Y r l yX7_forget cX7_forget 2 .int 1 [.ref o] h Q := by
  unfold D_SR_forget at hD
  refine Mi.of RX7 rfl (by decide) (by simp [lg_sl, Value.category]) [(0, .ref o)] rfl (fun X hXl C R => ?_)
  subst hXl
  refine g_wt (fun hw => ?_)
  refine g_aload_n (pc := 0) rfl 0 rfl C dX7_forget_0 ?_
  have u1 : TO Y (r o 7) 6 := wt_o hw t0 (by decide) rfl
  refine g_getR (pc := 1) C fl_RX7_51 t0 rfl dX7_forget_1 ?_
  refine g_getI (pc := 4) C fl_RX7_93 u1 rfl dX7_forget_4 ?_
  refine g_istore_n (pc := 7) (fun x2 => [(1, .int x2), (0, .ref o)]) C dX7_forget_7 rfl (by decide) rfl (fun x2 ex2 => ?_)
  have hD := hD x2 ex2
  refine g_aload_n (pc := 8) rfl 1 rfl C dX7_forget_8 ?_
  have u3 : TO Y (r o 7) 6 := wt_o hw t0 (by decide) rfl
  refine g_getR (pc := 9) C fl_RX7_51 t0 rfl dX7_forget_9 ?_
  refine g_iconst (pc := 12) (v := 0) (by decide) C dX7_forget_12 ?_
  refine g_putI (pc := 13) C fl_RX7_93 u3 rfl rfl rfl dX7_forget_13 (fun h4 eh4 => ?_)
  have hD := hD h4 eh4
  refine g_iload_n (pc := 16) rfl 0 rfl C dX7_forget_16 ?_
  exact g_iret (pc := 17) C R dX7_forget_17 hD
def D_SR_fried (r : TR) (o : Nat) (a1 : Int32) (h : TH) (Q : Int32 → TH → Prop) : Prop :=
  D_SR_isWithin r a1 0 (h.1 (r o 7) 0) h (fun x3 h2 => ((¬ x3 = 0 → D_Told_allowFirst r (r o 7) a1 (h2.1 (r o 1) 2) h2 (fun h7 => D_Told_waysLeft r (r o 7) (h7.1 (r o 1) 2) h7 (fun x12 h11 => Q x12 h11))) ∧ (x3 = 0 → Q (-1) h2)))
set_option maxRecDepth 100000 in
set_option maxHeartbeats 4000000 in
theorem M_SR_fried {Y : CG} {r : TR} {l : Launch} {o : Nat} {a1 : Int32} {h : TH} {Q : Int32 → TH → Prop} (t0 : TO Y o 7) (hD : D_SR_fried r o a1 h Q) : Mi Y r l yX7_fried cX7_fried 2 .int 3 [.ref o, .int a1] h Q := by
  unfold D_SR_fried at hD
  refine Mi.of RX7 rfl (by decide) (by simp [lg_sl, Value.category]) [(0, .ref o), (1, .int a1)] rfl (fun X hXl C R => ?_)
  subst hXl
  refine g_wt (fun hw => ?_)
  refine g_iload_n (pc := 0) rfl 1 rfl C dX7_fried_0 ?_
  refine g_iconst (pc := 1) (v := 0) (by decide) C dX7_fried_1 ?_
  refine g_aload_n (pc := 2) rfl 0 rfl C dX7_fried_2 ?_
  have u1 : TO Y (r o 7) 6 := wt_o hw t0 (by decide) rfl
  refine g_getR (pc := 3) C fl_RX7_51 t0 rfl dX7_fried_3 ?_
  refine g_getI (pc := 6) C fl_RX7_93 u1 rfl dX7_fried_6 ?_
  refine g_callSi (pc := 9) (As := [.int a1, .int 0, .int (h.1 (r o 7) 0)]) C ms_RX7_169 (M_SR_isWithin  hD) (by decide) rfl rfl (Nat.le_of_ble_eq_true rfl) dX7_fried_9 (fun x3 h2 hD => ?_)
  refine g_if_ne (pc := 12) 17 C dX7_fried_12 (by decide) (fun c4 => ?_) (fun c4 => ?_)
  · have hD := hD.1 c4
    refine g_aload_n (pc := 17) rfl 0 rfl C dX7_fried_17 ?_
    have u5 : TO Y (r o 7) 6 := wt_o hw t0 (by decide) rfl
    refine g_getR (pc := 18) C fl_RX7_51 t0 rfl dX7_fried_18 ?_
    refine g_iload_n (pc := 21) rfl 1 rfl C dX7_fried_21 ?_
    refine g_aload_n (pc := 22) rfl 0 rfl C dX7_fried_22 ?_
    have u6 : TO Y (r o 1) 0 := wt_o hw t0 (by decide) rfl
    refine g_getR (pc := 23) C fl_RX7_19 t0 rfl dX7_fried_23 ?_
    refine g_getI (pc := 26) C fl_RX7_133 u6 rfl dX7_fried_26 ?_
    refine g_callVv (pc := 29) (As := [.int a1, .int (h2.1 (r o 1) 2)]) C mv_RX7_276 (M_Told_allowFirst u5 hD) u5 (by decide) rfl rfl (Nat.le_of_ble_eq_true rfl) dX7_fried_29 (fun h7 hD => ?_)
    refine g_aload_n (pc := 32) rfl 0 rfl C dX7_fried_32 ?_
    have u9 : TO Y (r o 7) 6 := wt_o hw t0 (by decide) rfl
    refine g_getR (pc := 33) C fl_RX7_51 t0 rfl dX7_fried_33 ?_
    refine g_aload_n (pc := 36) rfl 0 rfl C dX7_fried_36 ?_
    have u10 : TO Y (r o 1) 0 := wt_o hw t0 (by decide) rfl
    refine g_getR (pc := 37) C fl_RX7_19 t0 rfl dX7_fried_37 ?_
    refine g_getI (pc := 40) C fl_RX7_133 u10 rfl dX7_fried_40 ?_
    refine g_callVi (pc := 43) (As := [.int (h7.1 (r o 1) 2)]) C mv_RX7_280 (M_Told_waysLeft u9 hD) u9 (by decide) rfl rfl (Nat.le_of_ble_eq_true rfl) dX7_fried_43 (fun x12 h11 hD => ?_)
    exact g_iret (pc := 46) C R dX7_fried_46 hD
  · have hD := hD.2 c4
    refine g_iconst (pc := 15) (v := (-1)) (by decide) C dX7_fried_15 ?_
    exact g_iret (pc := 16) C R dX7_fried_16 hD
def D_SR_go (r : TR) (o : Nat) (a1 : Int32) (a2 : Int32) (h : TH) (Q : Int32 → TH → Prop) : Prop :=
  D_SR_isBoat r o a1 h (fun x2 h1 => ((x2 = 0 → Q (-1) h1) ∧ (¬ x2 = 0 → D_SR_isWithin r a2 1 4 h1 (fun x5 h4 => ((¬ x5 = 0 → D_Sc_isSailing r (r o 2) a1 h4 (fun x9 h8 => ((¬ x9 = 0 → D_Past_keep r (r o 4) (r o 2) h8 (fun h13 => D_Bay_move r (r o 1) (r o 2) a1 a2 h13 (fun x18 h17 => Q x18 h17))) ∧ (x9 = 0 → Q (-2) h8)))) ∧ (x5 = 0 → Q (-1) h4))))))
set_option maxRecDepth 100000 in
set_option maxHeartbeats 4000000 in
theorem M_SR_go {Y : CG} {r : TR} {l : Launch} {o : Nat} {a1 : Int32} {a2 : Int32} {h : TH} {Q : Int32 → TH → Prop} (t0 : TO Y o 7) (hD : D_SR_go r o a1 a2 h Q) : Mi Y r l yX7_go cX7_go 3 .int 4 [.ref o, .int a1, .int a2] h Q := by
  unfold D_SR_go at hD
  refine Mi.of RX7 rfl (by decide) (by simp [lg_sl, Value.category]) [(0, .ref o), (1, .int a1), (2, .int a2)] rfl (fun X hXl C R => ?_)
  subst hXl
  refine g_wt (fun hw => ?_)
  refine g_aload_n (pc := 0) rfl 0 rfl C dX7_go_0 ?_
  refine g_iload_n (pc := 1) rfl 1 rfl C dX7_go_1 ?_
  refine g_callVi (pc := 2) (As := [.int a1]) C mv_RX7_99 (M_SR_isBoat t0 hD) t0 (by decide) rfl rfl (Nat.le_of_ble_eq_true rfl) dX7_go_2 (fun x2 h1 hD => ?_)
  refine g_if_eq (pc := 5) 17 C dX7_go_5 (by decide) (fun c3 => ?_) (fun c3 => ?_)
  · have hD := hD.1 c3
    refine g_iconst (pc := 17) (v := (-1)) (by decide) C dX7_go_17 ?_
    exact g_iret (pc := 18) C R dX7_go_18 hD
  · have hD := hD.2 c3
    refine g_iload_n (pc := 8) rfl 2 rfl C dX7_go_8 ?_
    refine g_iconst (pc := 9) (v := 1) (by decide) C dX7_go_9 ?_
    refine g_iconst (pc := 10) (v := 4) (by decide) C dX7_go_10 ?_
    refine g_callSi (pc := 11) (As := [.int a2, .int 1, .int 4]) C ms_RX7_169 (M_SR_isWithin  hD) (by decide) rfl rfl (Nat.le_of_ble_eq_true rfl) dX7_go_11 (fun x5 h4 hD => ?_)
    refine g_if_ne (pc := 14) 19 C dX7_go_14 (by decide) (fun c6 => ?_) (fun c6 => ?_)
    · have hD := hD.1 c6
      refine g_aload_n (pc := 19) rfl 0 rfl C dX7_go_19 ?_
      have u7 : TO Y (r o 2) 5 := wt_o hw t0 (by decide) rfl
      refine g_getR (pc := 20) C fl_RX7_26 t0 rfl dX7_go_20 ?_
      refine g_iload_n (pc := 23) rfl 1 rfl C dX7_go_23 ?_
      refine g_callVi (pc := 24) (As := [.int a1]) C mv_RX7_154 (M_Sc_isSailing u7 hD) u7 (by decide) rfl rfl (Nat.le_of_ble_eq_true rfl) dX7_go_24 (fun x9 h8 hD => ?_)
      refine g_if_ne (pc := 27) 33 C dX7_go_27 (by decide) (fun c10 => ?_) (fun c10 => ?_)
      · have hD := hD.1 c10
        refine g_aload_n (pc := 33) rfl 0 rfl C dX7_go_33 ?_
        have u11 : TO Y (r o 4) 3 := wt_o hw t0 (by decide) rfl
        refine g_getR (pc := 34) C fl_RX7_36 t0 rfl dX7_go_34 ?_
        refine g_aload_n (pc := 37) rfl 0 rfl C dX7_go_37 ?_
        have u12 : TO Y (r o 2) 5 := wt_o hw t0 (by decide) rfl
        refine g_getR (pc := 38) C fl_RX7_26 t0 rfl dX7_go_38 ?_
        refine g_callVv (pc := 41) (As := [.ref (r o 2)]) C mv_RX7_179 (M_Past_keep u11 u12 hD) u11 (by decide) rfl rfl (Nat.le_of_ble_eq_true rfl) dX7_go_41 (fun h13 hD => ?_)
        refine g_aload_n (pc := 44) rfl 0 rfl C dX7_go_44 ?_
        have u15 : TO Y (r o 1) 0 := wt_o hw t0 (by decide) rfl
        refine g_getR (pc := 45) C fl_RX7_19 t0 rfl dX7_go_45 ?_
        refine g_aload_n (pc := 48) rfl 0 rfl C dX7_go_48 ?_
        have u16 : TO Y (r o 2) 5 := wt_o hw t0 (by decide) rfl
        refine g_getR (pc := 49) C fl_RX7_26 t0 rfl dX7_go_49 ?_
        refine g_iload_n (pc := 52) rfl 1 rfl C dX7_go_52 ?_
        refine g_iload_n (pc := 53) rfl 2 rfl C dX7_go_53 ?_
        refine g_callVi (pc := 54) (As := [.ref (r o 2), .int a1, .int a2]) C mv_RX7_186 (M_Bay_move u15 u16 hD) u15 (by decide) rfl rfl (Nat.le_of_ble_eq_true rfl) dX7_go_54 (fun x18 h17 hD => ?_)
        exact g_iret (pc := 57) C R dX7_go_57 hD
      · have hD := hD.2 c10
        refine g_bipush (pc := 30) (v := (-2)) (by decide) C dX7_go_30 ?_
        exact g_iret (pc := 32) C R dX7_go_32 hD
    · have hD := hD.2 c6
      refine g_iconst (pc := 17) (v := (-1)) (by decide) C dX7_go_17 ?_
      exact g_iret (pc := 18) C R dX7_go_18 hD
def D_SR_lookWithout (r : TR) (o : Nat) (a1 : Int32) (h : TH) (Q : TH → Prop) : Prop :=
  D_Sc_copyFrom r (r o 3) (r o 2) h (fun h3 => ∀ h6, h6 = pI h3 (r o 3) 2 ((h3.1 (r o 3) 2) ||| ((1 : Int32) <<< (a1 &&& 31))) → Q h6)
set_option maxRecDepth 100000 in
set_option maxHeartbeats 4000000 in
theorem M_SR_lookWithout {Y : CG} {r : TR} {l : Launch} {o : Nat} {a1 : Int32} {h : TH} {Q : TH → Prop} (t0 : TO Y o 7) (hD : D_SR_lookWithout r o a1 h Q) : Mv Y r l yX7_lookWithout cX7_lookWithout 2 2 [.ref o, .int a1] h Q := by
  unfold D_SR_lookWithout at hD
  refine Mv.of RX7 rfl (by decide) (by simp [lg_sl, Value.category]) [(0, .ref o), (1, .int a1)] rfl (fun X hXl C R => ?_)
  subst hXl
  refine g_wt (fun hw => ?_)
  refine g_aload_n (pc := 0) rfl 0 rfl C dX7_lookWithout_0 ?_
  have u1 : TO Y (r o 3) 5 := wt_o hw t0 (by decide) rfl
  refine g_getR (pc := 1) C fl_RX7_30 t0 rfl dX7_lookWithout_1 ?_
  refine g_aload_n (pc := 4) rfl 0 rfl C dX7_lookWithout_4 ?_
  have u2 : TO Y (r o 2) 5 := wt_o hw t0 (by decide) rfl
  refine g_getR (pc := 5) C fl_RX7_26 t0 rfl dX7_lookWithout_5 ?_
  refine g_callVv (pc := 8) (As := [.ref (r o 2)]) C mv_RX7_267 (M_Sc_copyFrom u1 u2 hD) u1 (by decide) rfl rfl (Nat.le_of_ble_eq_true rfl) dX7_lookWithout_8 (fun h3 hD => ?_)
  refine g_aload_n (pc := 11) rfl 0 rfl C dX7_lookWithout_11 ?_
  have u5 : TO Y (r o 3) 5 := wt_o hw t0 (by decide) rfl
  refine g_getR (pc := 12) C fl_RX7_30 t0 rfl dX7_lookWithout_12 ?_
  refine g_dup (pc := 15) rfl C dX7_lookWithout_15 ?_
  refine g_getI (pc := 16) C fl_RX7_113 u5 rfl dX7_lookWithout_16 ?_
  refine g_iconst (pc := 19) (v := 1) (by decide) C dX7_lookWithout_19 ?_
  refine g_iload_n (pc := 20) rfl 1 rfl C dX7_lookWithout_20 ?_
  refine g_ishl (pc := 21) C dX7_lookWithout_21 ?_
  refine g_ior (pc := 22) C dX7_lookWithout_22 ?_
  refine g_putI (pc := 23) C fl_RX7_113 u5 rfl rfl rfl dX7_lookWithout_23 (fun h6 eh6 => ?_)
  have hD := hD h6 eh6
  exact g_vret (pc := 26) C R dX7_lookWithout_26 hD
def D_SR_stepsToMark (r : TR) (o : Nat) (a1 : Int32) (h : TH) (Q : Int32 → TH → Prop) : Prop :=
  D_Sc_isSailing r (r o 2) a1 h (fun x3 h2 => ((¬ x3 = 0 → vp_in a1 6 ∧ ∀ i9 : Int32, i9 = h2.1 (r (r o 2) 4) a1.toNatClampNeg → vp_in i9 40 ∧ ∀ x10 : Int32, x10 = h2.1 (r (r o 1) 6) i9.toNatClampNeg → ((¬ x10 = (-1) → Q x10 h2) ∧ (x10 = (-1) → Q (-2) h2))) ∧ (x3 = 0 → ((¬ (((h2.1 (r o 2) 3) >>> (a1 &&& 31)) &&& 1) = 1 → Q (-2) h2) ∧ ((((h2.1 (r o 2) 3) >>> (a1 &&& 31)) &&& 1) = 1 → Q 0 h2)))))
set_option maxRecDepth 100000 in
set_option maxHeartbeats 4000000 in
theorem M_SR_stepsToMark {Y : CG} {r : TR} {l : Launch} {o : Nat} {a1 : Int32} {h : TH} {Q : Int32 → TH → Prop} (t0 : TO Y o 7) (hD : D_SR_stepsToMark r o a1 h Q) : Mi Y r l yX7_stepsToMark cX7_stepsToMark 3 .int 2 [.ref o, .int a1] h Q := by
  unfold D_SR_stepsToMark at hD
  refine Mi.of RX7 rfl (by decide) (by simp [lg_sl, Value.category]) [(0, .ref o), (1, .int a1)] rfl (fun X hXl C R => ?_)
  subst hXl
  refine g_wt (fun hw => ?_)
  refine g_aload_n (pc := 0) rfl 0 rfl C dX7_stepsToMark_0 ?_
  have u1 : TO Y (r o 2) 5 := wt_o hw t0 (by decide) rfl
  refine g_getR (pc := 1) C fl_RX7_26 t0 rfl dX7_stepsToMark_1 ?_
  refine g_iload_n (pc := 4) rfl 1 rfl C dX7_stepsToMark_4 ?_
  refine g_callVi (pc := 5) (As := [.int a1]) C mv_RX7_154 (M_Sc_isSailing u1 hD) u1 (by decide) rfl rfl (Nat.le_of_ble_eq_true rfl) dX7_stepsToMark_5 (fun x3 h2 hD => ?_)
  refine g_if_ne (pc := 8) 33 C dX7_stepsToMark_8 (by decide) (fun c4 => ?_) (fun c4 => ?_)
  · have hD := hD.1 c4
    refine g_aload_n (pc := 33) rfl 0 rfl C dX7_stepsToMark_33 ?_
    have u5 : TO Y (r o 1) 0 := wt_o hw t0 (by decide) rfl
    refine g_getR (pc := 34) C fl_RX7_19 t0 rfl dX7_stepsToMark_34 ?_
    have u6 : TA Y (r (r o 1) 6) 10 40 := wt_a hw u5 (by decide) (by decide) rfl
    refine g_getR (pc := 37) C fl_RX7_216 u5 rfl dX7_stepsToMark_37 ?_
    refine g_aload_n (pc := 40) rfl 0 rfl C dX7_stepsToMark_40 ?_
    have u7 : TO Y (r o 2) 5 := wt_o hw t0 (by decide) rfl
    refine g_getR (pc := 41) C fl_RX7_26 t0 rfl dX7_stepsToMark_41 ?_
    have u8 : TA Y (r (r o 2) 4) 10 6 := wt_a hw u7 (by decide) (by decide) rfl
    refine g_getR (pc := 44) C fl_RX7_157 u7 rfl dX7_stepsToMark_44 ?_
    refine g_iload_n (pc := 47) rfl 1 rfl C dX7_stepsToMark_47 ?_
    obtain ⟨hb, hD⟩ := hD
    refine g_iald (pc := 48) C u8 hb dX7_stepsToMark_48 ?_
    refine g_topi (fun i9 ei9 => ?_)
    have hD := hD i9 ei9
    obtain ⟨hb, hD⟩ := hD
    refine g_iald (pc := 49) C u6 hb dX7_stepsToMark_49 ?_
    refine g_istore_n (pc := 50) (fun x10 => [(2, .int x10), (0, .ref o), (1, .int a1)]) C dX7_stepsToMark_50 rfl (by decide) rfl (fun x10 ex10 => ?_)
    have hD := hD x10 ex10
    refine g_iload_n (pc := 51) rfl 0 rfl C dX7_stepsToMark_51 ?_
    refine g_iconst (pc := 52) (v := (-1)) (by decide) C dX7_stepsToMark_52 ?_
    refine g_icmp_ne (pc := 53) 61 C dX7_stepsToMark_53 (by decide) (fun c11 => ?_) (fun c11 => ?_)
    · have hD := hD.1 c11
      refine g_iload_n (pc := 61) rfl 0 rfl C dX7_stepsToMark_61 ?_
      exact g_iret (pc := 62) C R dX7_stepsToMark_62 hD
    · have hD := hD.2 c11
      refine g_bipush (pc := 56) (v := (-2)) (by decide) C dX7_stepsToMark_56 ?_
      refine g_goto (pc := 58) 62 C dX7_stepsToMark_58 (by decide) ?_
      exact g_iret (pc := 62) C R dX7_stepsToMark_62 hD
  · have hD := hD.2 c4
    refine g_aload_n (pc := 11) rfl 0 rfl C dX7_stepsToMark_11 ?_
    have u12 : TO Y (r o 2) 5 := wt_o hw t0 (by decide) rfl
    refine g_getR (pc := 12) C fl_RX7_26 t0 rfl dX7_stepsToMark_12 ?_
    refine g_getI (pc := 15) C fl_RX7_196 u12 rfl dX7_stepsToMark_15 ?_
    refine g_iload_n (pc := 18) rfl 1 rfl C dX7_stepsToMark_18 ?_
    refine g_ishr (pc := 19) C dX7_stepsToMark_19 ?_
    refine g_iconst (pc := 20) (v := 1) (by decide) C dX7_stepsToMark_20 ?_
    refine g_iand (pc := 21) C dX7_stepsToMark_21 ?_
    refine g_iconst (pc := 22) (v := 1) (by decide) C dX7_stepsToMark_22 ?_
    refine g_icmp_ne (pc := 23) 30 C dX7_stepsToMark_23 (by decide) (fun c13 => ?_) (fun c13 => ?_)
    · have hD := hD.1 c13
      refine g_bipush (pc := 30) (v := (-2)) (by decide) C dX7_stepsToMark_30 ?_
      exact g_iret (pc := 32) C R dX7_stepsToMark_32 hD
    · have hD := hD.2 c13
      refine g_iconst (pc := 26) (v := 0) (by decide) C dX7_stepsToMark_26 ?_
      refine g_goto (pc := 27) 32 C dX7_stepsToMark_27 (by decide) ?_
      exact g_iret (pc := 32) C R dX7_stepsToMark_32 hD
def DB_SR_hidden_52 (r : TR) (l0 : Nat) (l1 : Int32) (l3 : Int64) (l5 : Int64) (l7 : Int32) (h : TH) (K52 : Int64 → Int32 → TH → Prop) (K126 : TH → Prop) (Q : Int32 → TH → Prop) : Prop :=
  ((40 < l7 → K126 h) ∧ (¬ 40 < l7 → D_Bay_passHour r (r l0 1) (r l0 3) (h.1 (r l0 1) 4) h (fun h22 => D_Bay_spread r (r l0 1) l3 h22 (fun x26 h25 => (((lg_cmp (x26 &&& l5) 0) = 0 → vp_in l1 6 ∧ D_Bay_unsmelt r (r l0 1) (r l0 3) x26 (h25.1 (r (r l0 1) 10) l1.toNatClampNeg) h25 (fun x34 h33 => ∀ x36 : Int32, x36 = l7 + 1 → K52 x34 x36 h33)) ∧ (¬ (lg_cmp (x26 &&& l5) 0) = 0 → Q l7 h25))))))
set_option maxRecDepth 100000 in
set_option maxHeartbeats 4000000 in
theorem WB_SR_hidden_52 {Y : CG} {X : CX} {r : TR} {l0 : Nat} {l1 : Int32} {l3 : Int64} {l5 : Int64} {l7 : Int32} {h : TH} {K52 : Int64 → Int32 → TH → Prop} {K126 : TH → Prop} {Q : Int32 → TH → Prop} (C : Gd Y X cX7_hidden 8 RX7 6) (R : Ri Y r X .int Q) (t0 : TO Y l0 7) (hK52 : ∀ (k3 : Int64) (k7 : Int32) (hh : TH), K52 k3 k7 hh → G Y X 8 52 [(0, .ref l0), (1, .int l1), (3, .long k3), (5, .long l5), (7, .int k7)] [] r hh) (hK126 : ∀ (hh : TH), K126 hh → G Y X 8 126 [] [] r hh) (hD : DB_SR_hidden_52 r l0 l1 l3 l5 l7 h K52 K126 Q) : G Y X 8 52 [(0, .ref l0), (1, .int l1), (3, .long l3), (5, .long l5), (7, .int l7)] [] r h := by
  unfold DB_SR_hidden_52 at hD
  refine g_wt (fun hw => ?_)
  refine g_iload (pc := 52) 4 rfl C dX7_hidden_52 ?_
  refine g_bipush (pc := 54) (v := 40) (by decide) C dX7_hidden_54 ?_
  refine g_icmp_gt (pc := 56) 126 C dX7_hidden_56 (by decide) (fun c18 => ?_) (fun c18 => ?_)
  · have hD := hD.1 c18
    refine g_sub [] rfl ?_
    exact hK126 h hD
  · have hD := hD.2 c18
    refine g_aload_n (pc := 59) rfl 0 rfl C dX7_hidden_59 ?_
    have u19 : TO Y (r l0 1) 0 := wt_o hw t0 (by decide) rfl
    refine g_getR (pc := 60) C fl_RX7_19 t0 rfl dX7_hidden_60 ?_
    refine g_aload_n (pc := 63) rfl 0 rfl C dX7_hidden_63 ?_
    have u20 : TO Y (r l0 3) 5 := wt_o hw t0 (by decide) rfl
    refine g_getR (pc := 64) C fl_RX7_30 t0 rfl dX7_hidden_64 ?_
    refine g_aload_n (pc := 67) rfl 0 rfl C dX7_hidden_67 ?_
    have u21 : TO Y (r l0 1) 0 := wt_o hw t0 (by decide) rfl
    refine g_getR (pc := 68) C fl_RX7_19 t0 rfl dX7_hidden_68 ?_
    refine g_getI (pc := 71) C fl_RX7_119 u21 rfl dX7_hidden_71 ?_
    refine g_callVv (pc := 74) (As := [.ref (r l0 3), .int (h.1 (r l0 1) 4)]) C mv_RX7_226 (M_Bay_passHour u19 u20 hD) u19 (by decide) rfl rfl (Nat.le_of_ble_eq_true rfl) dX7_hidden_74 (fun h22 hD => ?_)
    refine g_aload_n (pc := 77) rfl 0 rfl C dX7_hidden_77 ?_
    have u24 : TO Y (r l0 1) 0 := wt_o hw t0 (by decide) rfl
    refine g_getR (pc := 78) C fl_RX7_19 t0 rfl dX7_hidden_78 ?_
    refine g_lload_n (pc := 81) rfl 2 rfl C dX7_hidden_81 ?_
    refine g_callVl (pc := 82) (As := [.long l3]) C mv_RX7_230 (M_Bay_spread u24 hD) u24 (by decide) rfl rfl (Nat.le_of_ble_eq_true rfl) dX7_hidden_82 (fun x26 h25 hD => ?_)
    refine g_lstore_n (pc := 85) (fun _ => [(3, .long x26), (0, .ref l0), (1, .int l1), (5, .long l5), (7, .int l7)]) C dX7_hidden_85 rfl (by decide) rfl (fun _ _ => ?_)
    refine g_lload_n (pc := 86) rfl 0 rfl C dX7_hidden_86 ?_
    refine g_lload (pc := 87) 3 rfl C dX7_hidden_87 ?_
    refine g_land (pc := 89) C dX7_hidden_89 ?_
    refine g_lconst (pc := 90) (v := 0) (by decide) C dX7_hidden_90 ?_
    refine g_lcmp (pc := 91) C dX7_hidden_91 ?_
    refine g_if_eq (pc := 92) 98 C dX7_hidden_92 (by decide) (fun c28 => ?_) (fun c28 => ?_)
    · have hD := hD.1 c28
      refine g_aload_n (pc := 98) rfl 1 rfl C dX7_hidden_98 ?_
      have u29 : TO Y (r l0 1) 0 := wt_o hw t0 (by decide) rfl
      refine g_getR (pc := 99) C fl_RX7_19 t0 rfl dX7_hidden_99 ?_
      refine g_aload_n (pc := 102) rfl 1 rfl C dX7_hidden_102 ?_
      have u30 : TO Y (r l0 3) 5 := wt_o hw t0 (by decide) rfl
      refine g_getR (pc := 103) C fl_RX7_30 t0 rfl dX7_hidden_103 ?_
      refine g_lload_n (pc := 106) rfl 0 rfl C dX7_hidden_106 ?_
      refine g_aload_n (pc := 107) rfl 1 rfl C dX7_hidden_107 ?_
      have u31 : TO Y (r l0 1) 0 := wt_o hw t0 (by decide) rfl
      refine g_getR (pc := 108) C fl_RX7_19 t0 rfl dX7_hidden_108 ?_
      have u32 : TA Y (r (r l0 1) 10) 10 6 := wt_a hw u31 (by decide) (by decide) rfl
      refine g_getR (pc := 111) C fl_RX7_234 u31 rfl dX7_hidden_111 ?_
      refine g_iload_n (pc := 114) rfl 2 rfl C dX7_hidden_114 ?_
      obtain ⟨hb, hD⟩ := hD
      refine g_iald (pc := 115) C u32 hb dX7_hidden_115 ?_
      refine g_callVl (pc := 116) (As := [.ref (r l0 3), .long x26, .int (h25.1 (r (r l0 1) 10) l1.toNatClampNeg)]) C mv_RX7_237 (M_Bay_unsmelt u29 u30 hD) u29 (by decide) rfl rfl (Nat.le_of_ble_eq_true rfl) dX7_hidden_116 (fun x34 h33 hD => ?_)
      refine g_lstore_n (pc := 119) (fun _ => [(3, .long x34), (0, .ref l0), (1, .int l1), (5, .long l5), (7, .int l7)]) C dX7_hidden_119 rfl (by decide) rfl (fun _ _ => ?_)
      refine g_iinc (pc := 120) (q := 4) (c := 1) (fun x36 => [(7, .int x36), (3, .long x34), (0, .ref l0), (1, .int l1), (5, .long l5)]) C dX7_hidden_120 rfl (by decide) (by decide) rfl (fun x36 ex36 => ?_)
      have hD := hD x36 ex36
      refine g_goto (pc := 123) 52 C dX7_hidden_123 (by decide) ?_
      refine g_sub [2, 3, 1, 4, 0] rfl ?_
      exact hK52 x34 x36 h33 hD
    · have hD := hD.2 c28
      refine g_iload (pc := 95) 4 rfl C dX7_hidden_95 ?_
      exact g_iret (pc := 97) C R dX7_hidden_97 hD
def D_SR_hidden (r : TR) (o : Nat) (a1 : Int32) (h : TH) (Q : Int32 → TH → Prop) : Prop :=
  D_SR_isBoat r o a1 h (fun x2 h1 => ((¬ x2 = 0 → D_SR_stepsToMark r o a1 h1 (fun x5 h4 => ((0 < x5 → D_SR_lookWithout r o a1 h4 (fun h8 => vp_in a1 6 ∧ ∀ x12 : Int64, x12 = jshl 1 (h8.1 (r (r o 2) 4) a1.toNatClampNeg) → D_Bay_cellsOf r (r o 1) 2 h8 (fun x15 h14 => ∃ n, lp (fun (K : Int64 × Int32 × TH → Prop) (s : Int64 × Int32 × TH) => DB_SR_hidden_52 r o a1 s.1 x15 s.2.1 s.2.2 (fun y37 y38 h39 => K (y37, y38, h39)) (fun h40 => Q (-2) h40) Q) n (x12, 1, h14)))) ∧ (¬ 0 < x5 → Q x5 h4)))) ∧ (x2 = 0 → Q (-1) h1)))
set_option maxRecDepth 100000 in
set_option maxHeartbeats 4000000 in
theorem M_SR_hidden {Y : CG} {r : TR} {l : Launch} {o : Nat} {a1 : Int32} {h : TH} {Q : Int32 → TH → Prop} (t0 : TO Y o 7) (hD : D_SR_hidden r o a1 h Q) : Mi Y r l yX7_hidden cX7_hidden 8 .int 6 [.ref o, .int a1] h Q := by
  unfold D_SR_hidden at hD
  refine Mi.of RX7 rfl (by decide) (by simp [lg_sl, Value.category]) [(0, .ref o), (1, .int a1)] rfl (fun X hXl C R => ?_)
  subst hXl
  refine g_wt (fun hw => ?_)
  refine g_aload_n (pc := 0) rfl 0 rfl C dX7_hidden_0 ?_
  refine g_iload_n (pc := 1) rfl 1 rfl C dX7_hidden_1 ?_
  refine g_callVi (pc := 2) (As := [.int a1]) C mv_RX7_99 (M_SR_isBoat t0 hD) t0 (by decide) rfl rfl (Nat.le_of_ble_eq_true rfl) dX7_hidden_2 (fun x2 h1 hD => ?_)
  refine g_if_ne (pc := 5) 10 C dX7_hidden_5 (by decide) (fun c3 => ?_) (fun c3 => ?_)
  · have hD := hD.1 c3
    refine g_aload_n (pc := 10) rfl 0 rfl C dX7_hidden_10 ?_
    refine g_iload_n (pc := 11) rfl 1 rfl C dX7_hidden_11 ?_
    refine g_callVi (pc := 12) (As := [.int a1]) C mv_RX7_207 (M_SR_stepsToMark t0 hD) t0 (by decide) rfl rfl (Nat.le_of_ble_eq_true rfl) dX7_hidden_12 (fun x5 h4 hD => ?_)
    refine g_istore_n (pc := 15) (fun _ => [(2, .int x5), (0, .ref o), (1, .int a1)]) C dX7_hidden_15 rfl (by decide) rfl (fun _ _ => ?_)
    refine g_iload_n (pc := 16) rfl 0 rfl C dX7_hidden_16 ?_
    refine g_if_gt (pc := 17) 22 C dX7_hidden_17 (by decide) (fun c7 => ?_) (fun c7 => ?_)
    · have hD := hD.1 c7
      refine g_aload_n (pc := 22) rfl 1 rfl C dX7_hidden_22 ?_
      refine g_iload_n (pc := 23) rfl 2 rfl C dX7_hidden_23 ?_
      refine g_callVv (pc := 24) (As := [.int a1]) C mv_RX7_219 (M_SR_lookWithout t0 hD) t0 (by decide) rfl rfl (Nat.le_of_ble_eq_true rfl) dX7_hidden_24 (fun h8 hD => ?_)
      refine g_lconst (pc := 27) (v := 1) (by decide) C dX7_hidden_27 ?_
      refine g_aload_n (pc := 28) rfl 1 rfl C dX7_hidden_28 ?_
      have u10 : TO Y (r o 2) 5 := wt_o hw t0 (by decide) rfl
      refine g_getR (pc := 29) C fl_RX7_26 t0 rfl dX7_hidden_29 ?_
      have u11 : TA Y (r (r o 2) 4) 10 6 := wt_a hw u10 (by decide) (by decide) rfl
      refine g_getR (pc := 32) C fl_RX7_157 u10 rfl dX7_hidden_32 ?_
      refine g_iload_n (pc := 35) rfl 2 rfl C dX7_hidden_35 ?_
      obtain ⟨hb, hD⟩ := hD
      refine g_iald (pc := 36) C u11 hb dX7_hidden_36 ?_
      refine g_lshl (pc := 37) C dX7_hidden_37 ?_
      refine g_lstore_n (pc := 38) (fun x12 => [(3, .long x12), (2, .int x5), (0, .ref o), (1, .int a1)]) C dX7_hidden_38 rfl (by decide) rfl (fun x12 ex12 => ?_)
      have hD := hD x12 ex12
      refine g_aload_n (pc := 39) rfl 2 rfl C dX7_hidden_39 ?_
      have u13 : TO Y (r o 1) 0 := wt_o hw t0 (by decide) rfl
      refine g_getR (pc := 40) C fl_RX7_19 t0 rfl dX7_hidden_40 ?_
      refine g_iconst (pc := 43) (v := 2) (by decide) C dX7_hidden_43 ?_
      refine g_callVl (pc := 44) (As := [.int 2]) C mv_RX7_222 (M_Bay_cellsOf u13 hD) u13 (by decide) rfl rfl (Nat.le_of_ble_eq_true rfl) dX7_hidden_44 (fun x15 h14 hD => ?_)
      refine g_lstore (pc := 47) (fun _ => [(5, .long x15), (3, .long x12), (2, .int x5), (0, .ref o), (1, .int a1)]) C dX7_hidden_47 (by decide) rfl (fun _ _ => ?_)
      refine g_iconst (pc := 49) (v := 1) (by decide) C dX7_hidden_49 ?_
      refine g_istore (pc := 50) (fun _ => [(7, .int 1), (5, .long x15), (3, .long x12), (2, .int x5), (0, .ref o), (1, .int a1)]) C dX7_hidden_50 (by decide) rfl (fun _ _ => ?_)
      obtain ⟨n, hD⟩ := hD
      refine g_sub [4, 5, 2, 1, 0] rfl ?_
      refine lp_run (fun s : Int64 × Int32 × TH => G Y X 8 52 [(0, .ref o), (1, .int a1), (3, .long s.1), (5, .long x15), (7, .int s.2.1)] [] r s.2.2) (fun K s hB hK => ?_) n (x12, 1, h14) hD
      refine WB_SR_hidden_52 C R t0 (fun y37 y38 h39 hk => hK _ hk) (fun h40 hD => ?_) hB
      · refine g_bipush (pc := 126) (v := (-2)) (by decide) C dX7_hidden_126 ?_
        exact g_iret (pc := 128) C R dX7_hidden_128 hD
    · have hD := hD.2 c7
      refine g_iload_n (pc := 20) rfl 0 rfl C dX7_hidden_20 ?_
      exact g_iret (pc := 21) C R dX7_hidden_21 hD
  · have hD := hD.2 c3
    refine g_iconst (pc := 8) (v := (-1)) (by decide) C dX7_hidden_8 ?_
    exact g_iret (pc := 9) C R dX7_hidden_9 hD
def D_SR_hold (r : TR) (o : Nat) (a1 : Int32) (h : TH) (Q : Int32 → TH → Prop) : Prop :=
  D_SR_isWithin r a1 0 2 h (fun x2 h1 => ((¬ x2 = 0 → vp_in a1 3 ∧ D_Sc_copyFrom r (r (r o 5) a1.toNatClampNeg) (r o 2) h1 (fun h7 => ∀ h9, h9 = pI h7 o 6 ((h7.1 o 6) ||| ((1 : Int32) <<< (a1 &&& 31))) → Q 1 h9)) ∧ (x2 = 0 → Q 0 h1)))
set_option maxRecDepth 100000 in
set_option maxHeartbeats 4000000 in
theorem M_SR_hold {Y : CG} {r : TR} {l : Launch} {o : Nat} {a1 : Int32} {h : TH} {Q : Int32 → TH → Prop} (t0 : TO Y o 7) (hD : D_SR_hold r o a1 h Q) : Mi Y r l yX7_hold cX7_hold 2 .boolean 2 [.ref o, .int a1] h Q := by
  unfold D_SR_hold at hD
  refine Mi.of RX7 rfl (by decide) (by simp [lg_sl, Value.category]) [(0, .ref o), (1, .int a1)] rfl (fun X hXl C R => ?_)
  subst hXl
  refine g_wt (fun hw => ?_)
  refine g_iload_n (pc := 0) rfl 1 rfl C dX7_hold_0 ?_
  refine g_iconst (pc := 1) (v := 0) (by decide) C dX7_hold_1 ?_
  refine g_iconst (pc := 2) (v := 2) (by decide) C dX7_hold_2 ?_
  refine g_callSi (pc := 3) (As := [.int a1, .int 0, .int 2]) C ms_RX7_169 (M_SR_isWithin  hD) (by decide) rfl rfl (Nat.le_of_ble_eq_true rfl) dX7_hold_3 (fun x2 h1 hD => ?_)
  refine g_if_ne (pc := 6) 11 C dX7_hold_6 (by decide) (fun c3 => ?_) (fun c3 => ?_)
  · have hD := hD.1 c3
    refine g_aload_n (pc := 11) rfl 0 rfl C dX7_hold_11 ?_
    have u4 : TA Y (r o 5) 13 3 := wt_a hw t0 (by decide) (by decide) rfl
    refine g_getR (pc := 12) C fl_RX7_40 t0 rfl dX7_hold_12 ?_
    refine g_iload_n (pc := 15) rfl 1 rfl C dX7_hold_15 ?_
    obtain ⟨hb, hD⟩ := hD
    refine g_aald (pc := 16) C u4 hb dX7_hold_16 ?_
    have u5 : TO Y (r (r o 5) a1.toNatClampNeg) 5 := wt_s hw u4 (vp_in_clamp hb)
    refine g_aload_n (pc := 17) rfl 0 rfl C dX7_hold_17 ?_
    have u6 : TO Y (r o 2) 5 := wt_o hw t0 (by decide) rfl
    refine g_getR (pc := 18) C fl_RX7_26 t0 rfl dX7_hold_18 ?_
    refine g_callVv (pc := 21) (As := [.ref (r o 2)]) C mv_RX7_267 (M_Sc_copyFrom u5 u6 hD) u5 (by decide) rfl rfl (Nat.le_of_ble_eq_true rfl) dX7_hold_21 (fun h7 hD => ?_)
    refine g_aload_n (pc := 24) rfl 0 rfl C dX7_hold_24 ?_
    refine g_dup (pc := 25) rfl C dX7_hold_25 ?_
    refine g_getI (pc := 26) C fl_RX7_44 t0 rfl dX7_hold_26 ?_
    refine g_iconst (pc := 29) (v := 1) (by decide) C dX7_hold_29 ?_
    refine g_iload_n (pc := 30) rfl 1 rfl C dX7_hold_30 ?_
    refine g_ishl (pc := 31) C dX7_hold_31 ?_
    refine g_ior (pc := 32) C dX7_hold_32 ?_
    refine g_putI (pc := 33) C fl_RX7_44 t0 rfl rfl rfl dX7_hold_33 (fun h9 eh9 => ?_)
    have hD := hD h9 eh9
    refine g_iconst (pc := 36) (v := 1) (by decide) C dX7_hold_36 ?_
    exact g_zret (pc := 37) C R nz_1 dX7_hold_37 hD
  · have hD := hD.2 c3
    refine g_iconst (pc := 9) (v := 0) (by decide) C dX7_hold_9 ?_
    exact g_zret (pc := 10) C R nz_0 dX7_hold_10 hD
def D_SR_hours (r : TR) (o : Nat) (a1 : Int32) (h : TH) (Q : Int32 → TH → Prop) : Prop :=
  D_SR_isWithin r a1 0 100 h (fun x2 h1 => ((¬ x2 = 0 → ((a1 ≤ 0 → Q (h1.1 (r o 2) 0) h1) ∧ (¬ a1 ≤ 0 → D_Past_keep r (r o 4) (r o 2) h1 (fun h8 => D_Bay_passHours r (r o 1) (r o 2) a1 (h8.1 (r o 1) 4) h8 (fun h13 => Q (h13.1 (r o 2) 0) h13))))) ∧ (x2 = 0 → Q (-1) h1)))
set_option maxRecDepth 100000 in
set_option maxHeartbeats 4000000 in
theorem M_SR_hours {Y : CG} {r : TR} {l : Launch} {o : Nat} {a1 : Int32} {h : TH} {Q : Int32 → TH → Prop} (t0 : TO Y o 7) (hD : D_SR_hours r o a1 h Q) : Mi Y r l yX7_hours cX7_hours 2 .int 7 [.ref o, .int a1] h Q := by
  unfold D_SR_hours at hD
  refine Mi.of RX7 rfl (by decide) (by simp [lg_sl, Value.category]) [(0, .ref o), (1, .int a1)] rfl (fun X hXl C R => ?_)
  subst hXl
  refine g_wt (fun hw => ?_)
  refine g_iload_n (pc := 0) rfl 1 rfl C dX7_hours_0 ?_
  refine g_iconst (pc := 1) (v := 0) (by decide) C dX7_hours_1 ?_
  refine g_bipush (pc := 2) (v := 100) (by decide) C dX7_hours_2 ?_
  refine g_callSi (pc := 4) (As := [.int a1, .int 0, .int 100]) C ms_RX7_169 (M_SR_isWithin  hD) (by decide) rfl rfl (Nat.le_of_ble_eq_true rfl) dX7_hours_4 (fun x2 h1 hD => ?_)
  refine g_if_ne (pc := 7) 12 C dX7_hours_7 (by decide) (fun c3 => ?_) (fun c3 => ?_)
  · have hD := hD.1 c3
    refine g_iload_n (pc := 12) rfl 1 rfl C dX7_hours_12 ?_
    refine g_if_le (pc := 13) 46 C dX7_hours_13 (by decide) (fun c4 => ?_) (fun c4 => ?_)
    · have hD := hD.1 c4
      refine g_aload_n (pc := 46) rfl 0 rfl C dX7_hours_46 ?_
      have u5 : TO Y (r o 2) 5 := wt_o hw t0 (by decide) rfl
      refine g_getR (pc := 47) C fl_RX7_26 t0 rfl dX7_hours_47 ?_
      refine g_getI (pc := 50) C fl_RX7_126 u5 rfl dX7_hours_50 ?_
      exact g_iret (pc := 53) C R dX7_hours_53 hD
    · have hD := hD.2 c4
      refine g_aload_n (pc := 16) rfl 0 rfl C dX7_hours_16 ?_
      have u6 : TO Y (r o 4) 3 := wt_o hw t0 (by decide) rfl
      refine g_getR (pc := 17) C fl_RX7_36 t0 rfl dX7_hours_17 ?_
      refine g_aload_n (pc := 20) rfl 0 rfl C dX7_hours_20 ?_
      have u7 : TO Y (r o 2) 5 := wt_o hw t0 (by decide) rfl
      refine g_getR (pc := 21) C fl_RX7_26 t0 rfl dX7_hours_21 ?_
      refine g_callVv (pc := 24) (As := [.ref (r o 2)]) C mv_RX7_179 (M_Past_keep u6 u7 hD) u6 (by decide) rfl rfl (Nat.le_of_ble_eq_true rfl) dX7_hours_24 (fun h8 hD => ?_)
      refine g_aload_n (pc := 27) rfl 0 rfl C dX7_hours_27 ?_
      have u10 : TO Y (r o 1) 0 := wt_o hw t0 (by decide) rfl
      refine g_getR (pc := 28) C fl_RX7_19 t0 rfl dX7_hours_28 ?_
      refine g_aload_n (pc := 31) rfl 0 rfl C dX7_hours_31 ?_
      have u11 : TO Y (r o 2) 5 := wt_o hw t0 (by decide) rfl
      refine g_getR (pc := 32) C fl_RX7_26 t0 rfl dX7_hours_32 ?_
      refine g_iload_n (pc := 35) rfl 1 rfl C dX7_hours_35 ?_
      refine g_aload_n (pc := 36) rfl 0 rfl C dX7_hours_36 ?_
      have u12 : TO Y (r o 1) 0 := wt_o hw t0 (by decide) rfl
      refine g_getR (pc := 37) C fl_RX7_19 t0 rfl dX7_hours_37 ?_
      refine g_getI (pc := 40) C fl_RX7_119 u12 rfl dX7_hours_40 ?_
      refine g_callVv (pc := 43) (As := [.ref (r o 2), .int a1, .int (h8.1 (r o 1) 4)]) C mv_RX7_182 (M_Bay_passHours u10 u11 hD) u10 (by decide) rfl rfl (Nat.le_of_ble_eq_true rfl) dX7_hours_43 (fun h13 hD => ?_)
      refine g_aload_n (pc := 46) rfl 0 rfl C dX7_hours_46 ?_
      have u15 : TO Y (r o 2) 5 := wt_o hw t0 (by decide) rfl
      refine g_getR (pc := 47) C fl_RX7_26 t0 rfl dX7_hours_47 ?_
      refine g_getI (pc := 50) C fl_RX7_126 u15 rfl dX7_hours_50 ?_
      exact g_iret (pc := 53) C R dX7_hours_53 hD
  · have hD := hD.2 c3
    refine g_iconst (pc := 10) (v := (-1)) (by decide) C dX7_hours_10 ?_
    exact g_iret (pc := 11) C R dX7_hours_11 hD
def DB_SR_inPlace_48 (r : TR) (l0 : Nat) (l2 : Int32) (l3 : Int32) (l4 : Int32) (l5 : Int32) (h : TH) (K48 : Int32 → TH → Prop) (K123 : TH → Prop) (Q : Int32 → TH → Prop) : Prop :=
  ((40 < l5 → K123 h) ∧ (¬ 40 < l5 → ∀ x17 : Int32, x17 = h.1 (r l0 3) 3 → D_Bay_passHour r (r l0 1) (r l0 3) (h.1 (r l0 1) 4) h (fun h21 => ∀ x24 : Int32, x24 = x17 ||| ((h21.1 (r l0 3) 3) &&& l4) → ((l5 < l3 → ∀ x26 : Int32, x26 = l5 + 1 → K48 x26 h21) ∧ (¬ l5 < l3 → D_JI_bitCount r x24 h21 (fun x28 h27 => ((¬ x28 = (l2 - 1) → ∀ x30 : Int32, x30 = l5 + 1 → K48 x30 h27) ∧ (x28 = (l2 - 1) → Q l5 h27))))))))
set_option maxRecDepth 100000 in
set_option maxHeartbeats 4000000 in
theorem WB_SR_inPlace_48 {Y : CG} {X : CX} {r : TR} {l0 : Nat} {l2 : Int32} {l3 : Int32} {l4 : Int32} {l5 : Int32} {h : TH} {K48 : Int32 → TH → Prop} {K123 : TH → Prop} {Q : Int32 → TH → Prop} (C : Gd Y X cX7_inPlace 8 RX7 6) (R : Ri Y r X .int Q) (t0 : TO Y l0 7) (hK48 : ∀ (k5 : Int32) (hh : TH), K48 k5 hh → G Y X 8 48 [(0, .ref l0), (2, .int l2), (3, .int l3), (4, .int l4), (5, .int k5)] [] r hh) (hK123 : ∀ (hh : TH), K123 hh → G Y X 8 123 [] [] r hh) (hD : DB_SR_inPlace_48 r l0 l2 l3 l4 l5 h K48 K123 Q) : G Y X 8 48 [(0, .ref l0), (2, .int l2), (3, .int l3), (4, .int l4), (5, .int l5)] [] r h := by
  unfold DB_SR_inPlace_48 at hD
  refine g_wt (fun hw => ?_)
  refine g_iload (pc := 48) 4 rfl C dX7_inPlace_48 ?_
  refine g_bipush (pc := 50) (v := 40) (by decide) C dX7_inPlace_50 ?_
  refine g_icmp_gt (pc := 52) 123 C dX7_inPlace_52 (by decide) (fun c15 => ?_) (fun c15 => ?_)
  · have hD := hD.1 c15
    refine g_sub [] rfl ?_
    exact hK123 h hD
  · have hD := hD.2 c15
    refine g_aload_n (pc := 55) rfl 0 rfl C dX7_inPlace_55 ?_
    have u16 : TO Y (r l0 3) 5 := wt_o hw t0 (by decide) rfl
    refine g_getR (pc := 56) C fl_RX7_30 t0 rfl dX7_inPlace_56 ?_
    refine g_getI (pc := 59) C fl_RX7_196 u16 rfl dX7_inPlace_59 ?_
    refine g_istore (pc := 62) (fun x17 => [(6, .int x17), (0, .ref l0), (2, .int l2), (3, .int l3), (4, .int l4), (5, .int l5)]) C dX7_inPlace_62 (by decide) rfl (fun x17 ex17 => ?_)
    have hD := hD x17 ex17
    refine g_aload_n (pc := 64) rfl 1 rfl C dX7_inPlace_64 ?_
    have u18 : TO Y (r l0 1) 0 := wt_o hw t0 (by decide) rfl
    refine g_getR (pc := 65) C fl_RX7_19 t0 rfl dX7_inPlace_65 ?_
    refine g_aload_n (pc := 68) rfl 1 rfl C dX7_inPlace_68 ?_
    have u19 : TO Y (r l0 3) 5 := wt_o hw t0 (by decide) rfl
    refine g_getR (pc := 69) C fl_RX7_30 t0 rfl dX7_inPlace_69 ?_
    refine g_aload_n (pc := 72) rfl 1 rfl C dX7_inPlace_72 ?_
    have u20 : TO Y (r l0 1) 0 := wt_o hw t0 (by decide) rfl
    refine g_getR (pc := 73) C fl_RX7_19 t0 rfl dX7_inPlace_73 ?_
    refine g_getI (pc := 76) C fl_RX7_119 u20 rfl dX7_inPlace_76 ?_
    refine g_callVv (pc := 79) (As := [.ref (r l0 3), .int (h.1 (r l0 1) 4)]) C mv_RX7_226 (M_Bay_passHour u18 u19 hD) u18 (by decide) rfl rfl (Nat.le_of_ble_eq_true rfl) dX7_inPlace_79 (fun h21 hD => ?_)
    refine g_iload (pc := 82) 0 rfl C dX7_inPlace_82 ?_
    refine g_aload_n (pc := 84) rfl 1 rfl C dX7_inPlace_84 ?_
    have u23 : TO Y (r l0 3) 5 := wt_o hw t0 (by decide) rfl
    refine g_getR (pc := 85) C fl_RX7_30 t0 rfl dX7_inPlace_85 ?_
    refine g_getI (pc := 88) C fl_RX7_196 u23 rfl dX7_inPlace_88 ?_
    refine g_iload (pc := 91) 4 rfl C dX7_inPlace_91 ?_
    refine g_iand (pc := 93) C dX7_inPlace_93 ?_
    refine g_ior (pc := 94) C dX7_inPlace_94 ?_
    refine g_istore (pc := 95) (fun x24 => [(7, .int x24), (6, .int x17), (0, .ref l0), (2, .int l2), (3, .int l3), (4, .int l4), (5, .int l5)]) C dX7_inPlace_95 (by decide) rfl (fun x24 ex24 => ?_)
    have hD := hD x24 ex24
    refine g_iload (pc := 97) 6 rfl C dX7_inPlace_97 ?_
    refine g_iload_n (pc := 99) rfl 4 rfl C dX7_inPlace_99 ?_
    refine g_icmp_lt (pc := 100) 117 C dX7_inPlace_100 (by decide) (fun c25 => ?_) (fun c25 => ?_)
    · have hD := hD.1 c25
      refine g_iinc (pc := 117) (q := 6) (c := 1) (fun x26 => [(5, .int x26), (7, .int x24), (6, .int x17), (0, .ref l0), (2, .int l2), (3, .int l3), (4, .int l4)]) C dX7_inPlace_117 rfl (by decide) (by decide) rfl (fun x26 ex26 => ?_)
      have hD := hD x26 ex26
      refine g_goto (pc := 120) 48 C dX7_inPlace_120 (by decide) ?_
      refine g_sub [3, 4, 5, 6, 0] rfl ?_
      exact hK48 x26 h21 hD
    · have hD := hD.2 c25
      refine g_iload (pc := 103) 0 rfl C dX7_inPlace_103 ?_
      refine g_callSi (pc := 105) (As := [.int x24]) C ms_RX7_199 (M_JI_bitCount  hD) (by decide) rfl rfl (Nat.le_of_ble_eq_true rfl) dX7_inPlace_105 (fun x28 h27 hD => ?_)
      refine g_iload_n (pc := 108) rfl 3 rfl C dX7_inPlace_108 ?_
      refine g_iconst (pc := 109) (v := 1) (by decide) C dX7_inPlace_109 ?_
      refine g_isub (pc := 110) C dX7_inPlace_110 ?_
      refine g_icmp_ne (pc := 111) 117 C dX7_inPlace_111 (by decide) (fun c29 => ?_) (fun c29 => ?_)
      · have hD := hD.1 c29
        refine g_iinc (pc := 117) (q := 6) (c := 1) (fun x30 => [(5, .int x30), (7, .int x24), (6, .int x17), (0, .ref l0), (2, .int l2), (3, .int l3), (4, .int l4)]) C dX7_inPlace_117 rfl (by decide) (by decide) rfl (fun x30 ex30 => ?_)
        have hD := hD x30 ex30
        refine g_goto (pc := 120) 48 C dX7_inPlace_120 (by decide) ?_
        refine g_sub [3, 4, 5, 6, 0] rfl ?_
        exact hK48 x30 h27 hD
      · have hD := hD.2 c29
        refine g_iload (pc := 114) 6 rfl C dX7_inPlace_114 ?_
        exact g_iret (pc := 116) C R dX7_inPlace_116 hD
def D_SR_inPlace (r : TR) (o : Nat) (a1 : Int32) (a2 : Int32) (h : TH) (Q : Int32 → TH → Prop) : Prop :=
  D_SR_isBoat r o a1 h (fun x2 h1 => ((x2 = 0 → Q (-1) h1) ∧ (¬ x2 = 0 → D_SR_isWithin r a2 1 6 h1 (fun x5 h4 => ((¬ x5 = 0 → D_SR_stepsToMark r o a1 h4 (fun x8 h7 => ((0 < x8 → D_SR_lookWithout r o a1 h7 (fun h11 => ∀ x13 : Int32, x13 = ((1 : Int32) <<< (a1 &&& 31)) - 1 → ∃ n, lp (fun (K : Int32 × TH → Prop) (s : Int32 × TH) => DB_SR_inPlace_48 r o a2 x8 x13 s.1 s.2 (fun y31 h32 => K (y31, h32)) (fun h33 => Q (-2) h33) Q) n (1, h11))) ∧ (¬ 0 < x8 → Q (-2) h7)))) ∧ (x5 = 0 → Q (-1) h4))))))
set_option maxRecDepth 100000 in
set_option maxHeartbeats 4000000 in
theorem M_SR_inPlace {Y : CG} {r : TR} {l : Launch} {o : Nat} {a1 : Int32} {a2 : Int32} {h : TH} {Q : Int32 → TH → Prop} (t0 : TO Y o 7) (hD : D_SR_inPlace r o a1 a2 h Q) : Mi Y r l yX7_inPlace cX7_inPlace 8 .int 6 [.ref o, .int a1, .int a2] h Q := by
  unfold D_SR_inPlace at hD
  refine Mi.of RX7 rfl (by decide) (by simp [lg_sl, Value.category]) [(0, .ref o), (1, .int a1), (2, .int a2)] rfl (fun X hXl C R => ?_)
  subst hXl
  refine g_wt (fun hw => ?_)
  refine g_aload_n (pc := 0) rfl 0 rfl C dX7_inPlace_0 ?_
  refine g_iload_n (pc := 1) rfl 1 rfl C dX7_inPlace_1 ?_
  refine g_callVi (pc := 2) (As := [.int a1]) C mv_RX7_99 (M_SR_isBoat t0 hD) t0 (by decide) rfl rfl (Nat.le_of_ble_eq_true rfl) dX7_inPlace_2 (fun x2 h1 hD => ?_)
  refine g_if_eq (pc := 5) 18 C dX7_inPlace_5 (by decide) (fun c3 => ?_) (fun c3 => ?_)
  · have hD := hD.1 c3
    refine g_iconst (pc := 18) (v := (-1)) (by decide) C dX7_inPlace_18 ?_
    exact g_iret (pc := 19) C R dX7_inPlace_19 hD
  · have hD := hD.2 c3
    refine g_iload_n (pc := 8) rfl 2 rfl C dX7_inPlace_8 ?_
    refine g_iconst (pc := 9) (v := 1) (by decide) C dX7_inPlace_9 ?_
    refine g_bipush (pc := 10) (v := 6) (by decide) C dX7_inPlace_10 ?_
    refine g_callSi (pc := 12) (As := [.int a2, .int 1, .int 6]) C ms_RX7_169 (M_SR_isWithin  hD) (by decide) rfl rfl (Nat.le_of_ble_eq_true rfl) dX7_inPlace_12 (fun x5 h4 hD => ?_)
    refine g_if_ne (pc := 15) 20 C dX7_inPlace_15 (by decide) (fun c6 => ?_) (fun c6 => ?_)
    · have hD := hD.1 c6
      refine g_aload_n (pc := 20) rfl 0 rfl C dX7_inPlace_20 ?_
      refine g_iload_n (pc := 21) rfl 1 rfl C dX7_inPlace_21 ?_
      refine g_callVi (pc := 22) (As := [.int a1]) C mv_RX7_207 (M_SR_stepsToMark t0 hD) t0 (by decide) rfl rfl (Nat.le_of_ble_eq_true rfl) dX7_inPlace_22 (fun x8 h7 hD => ?_)
      refine g_istore_n (pc := 25) (fun _ => [(3, .int x8), (0, .ref o), (1, .int a1), (2, .int a2)]) C dX7_inPlace_25 rfl (by decide) rfl (fun _ _ => ?_)
      refine g_iload_n (pc := 26) rfl 0 rfl C dX7_inPlace_26 ?_
      refine g_if_gt (pc := 27) 33 C dX7_inPlace_27 (by decide) (fun c10 => ?_) (fun c10 => ?_)
      · have hD := hD.1 c10
        refine g_aload_n (pc := 33) rfl 1 rfl C dX7_inPlace_33 ?_
        refine g_iload_n (pc := 34) rfl 2 rfl C dX7_inPlace_34 ?_
        refine g_callVv (pc := 35) (As := [.int a1]) C mv_RX7_219 (M_SR_lookWithout t0 hD) t0 (by decide) rfl rfl (Nat.le_of_ble_eq_true rfl) dX7_inPlace_35 (fun h11 hD => ?_)
        refine g_iconst (pc := 38) (v := 1) (by decide) C dX7_inPlace_38 ?_
        refine g_iload_n (pc := 39) rfl 2 rfl C dX7_inPlace_39 ?_
        refine g_ishl (pc := 40) C dX7_inPlace_40 ?_
        refine g_iconst (pc := 41) (v := 1) (by decide) C dX7_inPlace_41 ?_
        refine g_isub (pc := 42) C dX7_inPlace_42 ?_
        refine g_istore (pc := 43) (fun x13 => [(4, .int x13), (3, .int x8), (0, .ref o), (1, .int a1), (2, .int a2)]) C dX7_inPlace_43 (by decide) rfl (fun x13 ex13 => ?_)
        have hD := hD x13 ex13
        refine g_iconst (pc := 45) (v := 1) (by decide) C dX7_inPlace_45 ?_
        refine g_istore (pc := 46) (fun _ => [(5, .int 1), (4, .int x13), (3, .int x8), (0, .ref o), (1, .int a1), (2, .int a2)]) C dX7_inPlace_46 (by decide) rfl (fun _ _ => ?_)
        obtain ⟨n, hD⟩ := hD
        refine g_sub [3, 5, 2, 1, 0] rfl ?_
        refine lp_run (fun s : Int32 × TH => G Y X 8 48 [(0, .ref o), (2, .int a2), (3, .int x8), (4, .int x13), (5, .int s.1)] [] r s.2) (fun K s hB hK => ?_) n (1, h11) hD
        refine WB_SR_inPlace_48 C R t0 (fun y31 h32 hk => hK _ hk) (fun h33 hD => ?_) hB
        · refine g_bipush (pc := 123) (v := (-2)) (by decide) C dX7_inPlace_123 ?_
          exact g_iret (pc := 125) C R dX7_inPlace_125 hD
      · have hD := hD.2 c10
        refine g_bipush (pc := 30) (v := (-2)) (by decide) C dX7_inPlace_30 ?_
        exact g_iret (pc := 32) C R dX7_inPlace_32 hD
    · have hD := hD.2 c6
      refine g_iconst (pc := 18) (v := (-1)) (by decide) C dX7_inPlace_18 ?_
      exact g_iret (pc := 19) C R dX7_inPlace_19 hD
def D_SR_laid (r : TR) (o : Nat) (a1 : Int32) (a2 : Int32) (a3 : Int32) (a4 : Int32) (h : TH) (Q : Int32 → TH → Prop) : Prop :=
  D_Bay_isInside r (r o 1) a1 a2 h (fun x3 h2 => ((x3 = 0 → Q (-1) h2) ∧ (¬ x3 = 0 → D_SR_isBoat r o a3 h2 (fun x6 h5 => ((¬ x6 = 0 → ∀ x8 : Int32, x8 = ((40 * a3) + (8 * a2)) + a1 → D_Sc_wasLaid r (r o 2) x8 h5 (fun x11 h10 => ((¬ x11 = 0 → ((a4 = 0 → D_Sc_laidHour r (r o 2) x8 h10 (fun x16 h15 => Q x16 h15)) ∧ (¬ a4 = 0 → D_Sc_liesTill r (r o 2) x8 h10 (fun x19 h18 => Q x19 h18)))) ∧ (x11 = 0 → Q (-2) h10)))) ∧ (x6 = 0 → Q (-1) h5))))))
set_option maxRecDepth 100000 in
set_option maxHeartbeats 4000000 in
theorem M_SR_laid {Y : CG} {r : TR} {l : Launch} {o : Nat} {a1 : Int32} {a2 : Int32} {a3 : Int32} {a4 : Int32} {h : TH} {Q : Int32 → TH → Prop} (t0 : TO Y o 7) (hD : D_SR_laid r o a1 a2 a3 a4 h Q) : Mi Y r l yX7_laid cX7_laid 6 .int 2 [.ref o, .int a1, .int a2, .int a3, .int a4] h Q := by
  unfold D_SR_laid at hD
  refine Mi.of RX7 rfl (by decide) (by simp [lg_sl, Value.category]) [(0, .ref o), (1, .int a1), (2, .int a2), (3, .int a3), (4, .int a4)] rfl (fun X hXl C R => ?_)
  subst hXl
  refine g_wt (fun hw => ?_)
  refine g_aload_n (pc := 0) rfl 0 rfl C dX7_laid_0 ?_
  have u1 : TO Y (r o 1) 0 := wt_o hw t0 (by decide) rfl
  refine g_getR (pc := 1) C fl_RX7_19 t0 rfl dX7_laid_1 ?_
  refine g_iload_n (pc := 4) rfl 1 rfl C dX7_laid_4 ?_
  refine g_iload_n (pc := 5) rfl 2 rfl C dX7_laid_5 ?_
  refine g_callVi (pc := 6) (As := [.int a1, .int a2]) C mv_RX7_140 (M_Bay_isInside u1 hD) u1 (by decide) rfl rfl (Nat.le_of_ble_eq_true rfl) dX7_laid_6 (fun x3 h2 hD => ?_)
  refine g_if_eq (pc := 9) 20 C dX7_laid_9 (by decide) (fun c4 => ?_) (fun c4 => ?_)
  · have hD := hD.1 c4
    refine g_iconst (pc := 20) (v := (-1)) (by decide) C dX7_laid_20 ?_
    exact g_iret (pc := 21) C R dX7_laid_21 hD
  · have hD := hD.2 c4
    refine g_aload_n (pc := 12) rfl 0 rfl C dX7_laid_12 ?_
    refine g_iload_n (pc := 13) rfl 3 rfl C dX7_laid_13 ?_
    refine g_callVi (pc := 14) (As := [.int a3]) C mv_RX7_99 (M_SR_isBoat t0 hD) t0 (by decide) rfl rfl (Nat.le_of_ble_eq_true rfl) dX7_laid_14 (fun x6 h5 hD => ?_)
    refine g_if_ne (pc := 17) 22 C dX7_laid_17 (by decide) (fun c7 => ?_) (fun c7 => ?_)
    · have hD := hD.1 c7
      refine g_bipush (pc := 22) (v := 40) (by decide) C dX7_laid_22 ?_
      refine g_iload_n (pc := 24) rfl 3 rfl C dX7_laid_24 ?_
      refine g_imul (pc := 25) C dX7_laid_25 ?_
      refine g_bipush (pc := 26) (v := 8) (by decide) C dX7_laid_26 ?_
      refine g_iload_n (pc := 28) rfl 2 rfl C dX7_laid_28 ?_
      refine g_imul (pc := 29) C dX7_laid_29 ?_
      refine g_iadd (pc := 30) C dX7_laid_30 ?_
      refine g_iload_n (pc := 31) rfl 1 rfl C dX7_laid_31 ?_
      refine g_iadd (pc := 32) C dX7_laid_32 ?_
      refine g_istore (pc := 33) (fun x8 => [(5, .int x8), (0, .ref o), (1, .int a1), (2, .int a2), (3, .int a3), (4, .int a4)]) C dX7_laid_33 (by decide) rfl (fun x8 ex8 => ?_)
      have hD := hD x8 ex8
      refine g_aload_n (pc := 35) rfl 1 rfl C dX7_laid_35 ?_
      have u9 : TO Y (r o 2) 5 := wt_o hw t0 (by decide) rfl
      refine g_getR (pc := 36) C fl_RX7_26 t0 rfl dX7_laid_36 ?_
      refine g_iload (pc := 39) 0 rfl C dX7_laid_39 ?_
      refine g_callVi (pc := 41) (As := [.int x8]) C mv_RX7_160 (M_Sc_wasLaid u9 hD) u9 (by decide) rfl rfl (Nat.le_of_ble_eq_true rfl) dX7_laid_41 (fun x11 h10 hD => ?_)
      refine g_if_ne (pc := 44) 50 C dX7_laid_44 (by decide) (fun c12 => ?_) (fun c12 => ?_)
      · have hD := hD.1 c12
        refine g_iload (pc := 50) 5 rfl C dX7_laid_50 ?_
        refine g_if_eq (pc := 52) 67 C dX7_laid_52 (by decide) (fun c13 => ?_) (fun c13 => ?_)
        · have hD := hD.1 c13
          refine g_aload_n (pc := 67) rfl 1 rfl C dX7_laid_67 ?_
          have u14 : TO Y (r o 2) 5 := wt_o hw t0 (by decide) rfl
          refine g_getR (pc := 68) C fl_RX7_26 t0 rfl dX7_laid_68 ?_
          refine g_iload (pc := 71) 0 rfl C dX7_laid_71 ?_
          refine g_callVi (pc := 73) (As := [.int x8]) C mv_RX7_166 (M_Sc_laidHour u14 hD) u14 (by decide) rfl rfl (Nat.le_of_ble_eq_true rfl) dX7_laid_73 (fun x16 h15 hD => ?_)
          exact g_iret (pc := 76) C R dX7_laid_76 hD
        · have hD := hD.2 c13
          refine g_aload_n (pc := 55) rfl 1 rfl C dX7_laid_55 ?_
          have u17 : TO Y (r o 2) 5 := wt_o hw t0 (by decide) rfl
          refine g_getR (pc := 56) C fl_RX7_26 t0 rfl dX7_laid_56 ?_
          refine g_iload (pc := 59) 0 rfl C dX7_laid_59 ?_
          refine g_callVi (pc := 61) (As := [.int x8]) C mv_RX7_163 (M_Sc_liesTill u17 hD) u17 (by decide) rfl rfl (Nat.le_of_ble_eq_true rfl) dX7_laid_61 (fun x19 h18 hD => ?_)
          refine g_goto (pc := 64) 76 C dX7_laid_64 (by decide) ?_
          exact g_iret (pc := 76) C R dX7_laid_76 hD
      · have hD := hD.2 c12
        refine g_bipush (pc := 47) (v := (-2)) (by decide) C dX7_laid_47 ?_
        exact g_iret (pc := 49) C R dX7_laid_49 hD
    · have hD := hD.2 c7
      refine g_iconst (pc := 20) (v := (-1)) (by decide) C dX7_laid_20 ?_
      exact g_iret (pc := 21) C R dX7_laid_21 hD
def D_SR_leader (r : TR) (o : Nat) (a1 : Int32) (h : TH) (Q : Int32 → TH → Prop) : Prop :=
  D_SR_isWithin r a1 0 100 h (fun x2 h1 => ((¬ x2 = 0 → ((¬ (h1.1 (r o 1) 2) = 0 → D_SR_lookAhead r o a1 h1 (fun h6 => D_Sc_boatRanked r (r o 3) 0 (h6.1 (r o 1) 2) h6 (fun x11 h10 => Q x11 h10))) ∧ ((h1.1 (r o 1) 2) = 0 → Q (-2) h1))) ∧ (x2 = 0 → Q (-1) h1)))
set_option maxRecDepth 100000 in
set_option maxHeartbeats 4000000 in
theorem M_SR_leader {Y : CG} {r : TR} {l : Launch} {o : Nat} {a1 : Int32} {h : TH} {Q : Int32 → TH → Prop} (t0 : TO Y o 7) (hD : D_SR_leader r o a1 h Q) : Mi Y r l yX7_leader cX7_leader 2 .int 8 [.ref o, .int a1] h Q := by
  unfold D_SR_leader at hD
  refine Mi.of RX7 rfl (by decide) (by simp [lg_sl, Value.category]) [(0, .ref o), (1, .int a1)] rfl (fun X hXl C R => ?_)
  subst hXl
  refine g_wt (fun hw => ?_)
  refine g_iload_n (pc := 0) rfl 1 rfl C dX7_leader_0 ?_
  refine g_iconst (pc := 1) (v := 0) (by decide) C dX7_leader_1 ?_
  refine g_bipush (pc := 2) (v := 100) (by decide) C dX7_leader_2 ?_
  refine g_callSi (pc := 4) (As := [.int a1, .int 0, .int 100]) C ms_RX7_169 (M_SR_isWithin  hD) (by decide) rfl rfl (Nat.le_of_ble_eq_true rfl) dX7_leader_4 (fun x2 h1 hD => ?_)
  refine g_if_ne (pc := 7) 12 C dX7_leader_7 (by decide) (fun c3 => ?_) (fun c3 => ?_)
  · have hD := hD.1 c3
    refine g_aload_n (pc := 12) rfl 0 rfl C dX7_leader_12 ?_
    have u4 : TO Y (r o 1) 0 := wt_o hw t0 (by decide) rfl
    refine g_getR (pc := 13) C fl_RX7_19 t0 rfl dX7_leader_13 ?_
    refine g_getI (pc := 16) C fl_RX7_133 u4 rfl dX7_leader_16 ?_
    refine g_if_ne (pc := 19) 25 C dX7_leader_19 (by decide) (fun c5 => ?_) (fun c5 => ?_)
    · have hD := hD.1 c5
      refine g_aload_n (pc := 25) rfl 0 rfl C dX7_leader_25 ?_
      refine g_iload_n (pc := 26) rfl 1 rfl C dX7_leader_26 ?_
      refine g_callVv (pc := 27) (As := [.int a1]) C mv_RX7_193 (M_SR_lookAhead t0 hD) t0 (by decide) rfl rfl (Nat.le_of_ble_eq_true rfl) dX7_leader_27 (fun h6 hD => ?_)
      refine g_aload_n (pc := 30) rfl 0 rfl C dX7_leader_30 ?_
      have u8 : TO Y (r o 3) 5 := wt_o hw t0 (by decide) rfl
      refine g_getR (pc := 31) C fl_RX7_30 t0 rfl dX7_leader_31 ?_
      refine g_iconst (pc := 34) (v := 0) (by decide) C dX7_leader_34 ?_
      refine g_aload_n (pc := 35) rfl 0 rfl C dX7_leader_35 ?_
      have u9 : TO Y (r o 1) 0 := wt_o hw t0 (by decide) rfl
      refine g_getR (pc := 36) C fl_RX7_19 t0 rfl dX7_leader_36 ?_
      refine g_getI (pc := 39) C fl_RX7_133 u9 rfl dX7_leader_39 ?_
      refine g_callVi (pc := 42) (As := [.int 0, .int (h6.1 (r o 1) 2)]) C mv_RX7_204 (M_Sc_boatRanked u8 hD) u8 (by decide) rfl rfl (Nat.le_of_ble_eq_true rfl) dX7_leader_42 (fun x11 h10 hD => ?_)
      exact g_iret (pc := 45) C R dX7_leader_45 hD
    · have hD := hD.2 c5
      refine g_bipush (pc := 22) (v := (-2)) (by decide) C dX7_leader_22 ?_
      exact g_iret (pc := 24) C R dX7_leader_24 hD
  · have hD := hD.2 c3
    refine g_iconst (pc := 10) (v := (-1)) (by decide) C dX7_leader_10 ?_
    exact g_iret (pc := 11) C R dX7_leader_11 hD
