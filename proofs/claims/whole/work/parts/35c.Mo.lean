def DB_Mo_fillsEast_6 (r : TR) (l0 : Nat) (l1 : Int32) (l2 : Int32) (l3 : Int32) (h : TH) (K6 : Int32 → TH → Prop) (K44 : TH → Prop) (Q : TH → Prop) : Prop :=
  ∀ i5 : Int32, i5 = h.1 l0 18 → vp_in i5 2 ∧ (((h.1 (r l0 25) i5.toNatClampNeg) ≤ l3 → K44 h) ∧ (¬ (h.1 (r l0 25) i5.toNatClampNeg) ≤ l3 → ((¬ ((l1 >>> (l3 &&& 31)) &&& 1) = 1 → ∀ x8 : Int32, x8 = l3 + 1 → K6 x8 h) ∧ (((l1 >>> (l3 &&& 31)) &&& 1) = 1 → vp_in (24 + l3) 512 ∧ ∀ h10, h10 = pI h (r l0 49) ((24 + l3).toNatClampNeg) 0 → ∀ x11 : Int32, x11 = l3 + 1 → K6 x11 h10))))
set_option maxRecDepth 100000 in
set_option maxHeartbeats 4000000 in
theorem WB_Mo_fillsEast_6 {Y : CG} {X : CX} {r : TR} {l0 : Nat} {l1 : Int32} {l2 : Int32} {l3 : Int32} {h : TH} {K6 : Int32 → TH → Prop} {K44 : TH → Prop} {Q : TH → Prop} (C : Gd Y X cX8_fillsEast 4 RX8 7) (R : Rv Y r X Q) (t0 : TO Y l0 8) (hK6 : ∀ (k3 : Int32) (hh : TH), K6 k3 hh → G Y X 4 6 [(0, .ref l0), (1, .int l1), (2, .int l2), (3, .int k3)] [] r hh) (hK44 : ∀ (hh : TH), K44 hh → G Y X 4 44 [(0, .ref l0), (1, .int l1), (2, .int l2)] [] r hh) (hD : DB_Mo_fillsEast_6 r l0 l1 l2 l3 h K6 K44 Q) : G Y X 4 6 [(0, .ref l0), (1, .int l1), (2, .int l2), (3, .int l3)] [] r h := by
  unfold DB_Mo_fillsEast_6 at hD
  refine g_wt (fun hw => ?_)
  refine g_iload_n (pc := 6) rfl 3 rfl C dX8_fillsEast_6 ?_
  refine g_aload_n (pc := 7) rfl 0 rfl C dX8_fillsEast_7 ?_
  have u4 : TA Y (r l0 25) 10 2 := wt_a hw t0 (by decide) (by decide) rfl
  refine g_getR (pc := 8) C fl_RX8_52 t0 rfl dX8_fillsEast_8 ?_
  refine g_aload_n (pc := 11) rfl 0 rfl C dX8_fillsEast_11 ?_
  refine g_getI (pc := 12) C fl_RX8_230 t0 rfl dX8_fillsEast_12 ?_
  refine g_topi (fun i5 ei5 => ?_)
  have hD := hD i5 ei5
  obtain ⟨hb, hD⟩ := hD
  refine g_iald (pc := 15) C u4 hb dX8_fillsEast_15 ?_
  refine g_icmp_ge (pc := 16) 44 C dX8_fillsEast_16 (by decide) (fun c6 => ?_) (fun c6 => ?_)
  · have hD := hD.1 c6
    refine g_sub [0, 1, 2] rfl ?_
    exact hK44 h hD
  · have hD := hD.2 c6
    refine g_iload_n (pc := 19) rfl 1 rfl C dX8_fillsEast_19 ?_
    refine g_iload_n (pc := 20) rfl 3 rfl C dX8_fillsEast_20 ?_
    refine g_ishr (pc := 21) C dX8_fillsEast_21 ?_
    refine g_iconst (pc := 22) (v := 1) (by decide) C dX8_fillsEast_22 ?_
    refine g_iand (pc := 23) C dX8_fillsEast_23 ?_
    refine g_iconst (pc := 24) (v := 1) (by decide) C dX8_fillsEast_24 ?_
    refine g_icmp_ne (pc := 25) 38 C dX8_fillsEast_25 (by decide) (fun c7 => ?_) (fun c7 => ?_)
    · have hD := hD.1 c7
      refine g_iinc (pc := 38) (q := 3) (c := 1) (fun x8 => [(3, .int x8), (0, .ref l0), (1, .int l1), (2, .int l2)]) C dX8_fillsEast_38 rfl (by decide) (by decide) rfl (fun x8 ex8 => ?_)
      have hD := hD x8 ex8
      refine g_goto (pc := 41) 6 C dX8_fillsEast_41 (by decide) ?_
      refine g_sub [1, 2, 3, 0] rfl ?_
      exact hK6 x8 h hD
    · have hD := hD.2 c7
      refine g_aload_n (pc := 28) rfl 0 rfl C dX8_fillsEast_28 ?_
      have u9 : TA Y (r l0 49) 10 512 := wt_a hw t0 (by decide) (by decide) rfl
      refine g_getR (pc := 29) C fl_RX8_113 t0 rfl dX8_fillsEast_29 ?_
      refine g_bipush (pc := 32) (v := 24) (by decide) C dX8_fillsEast_32 ?_
      refine g_iload_n (pc := 34) rfl 3 rfl C dX8_fillsEast_34 ?_
      refine g_iadd (pc := 35) C dX8_fillsEast_35 ?_
      refine g_iconst (pc := 36) (v := 0) (by decide) C dX8_fillsEast_36 ?_
      obtain ⟨hb, hD⟩ := hD
      refine g_iast (pc := 37) C u9 hb dX8_fillsEast_37 (fun h10 eh10 => ?_)
      have hD := hD h10 eh10
      refine g_iinc (pc := 38) (q := 3) (c := 1) (fun x11 => [(3, .int x11), (0, .ref l0), (1, .int l1), (2, .int l2)]) C dX8_fillsEast_38 rfl (by decide) (by decide) rfl (fun x11 ex11 => ?_)
      have hD := hD x11 ex11
      refine g_goto (pc := 41) 6 C dX8_fillsEast_41 (by decide) ?_
      refine g_sub [1, 2, 3, 0] rfl ?_
      exact hK6 x11 h10 hD
def DB_Mo_fillsEast_51 (r : TR) (l0 : Nat) (l1 : Int32) (l3 : Int32) (h : TH) (K51 : Int32 → TH → Prop) (K116 : TH → Prop) (Q : TH → Prop) : Prop :=
  ∀ i19 : Int32, i19 = h.1 l0 18 → vp_in i19 2 ∧ (((h.1 (r l0 25) i19.toNatClampNeg) ≤ l3 → K116 h) ∧ (¬ (h.1 (r l0 25) i19.toNatClampNeg) ≤ l3 → D_Mo_isLost r l0 l3 h (fun x23 h22 => ((x23 = 0 → ∀ i26 : Int32, i26 = 12 + l3 → vp_in i26 512 ∧ (((h22.1 (r l0 49) i26.toNatClampNeg) ≤ 0 → vp_in l3 512 ∧ vp_in ((6 * l1) + l3) 384 ∧ ∀ h29, h29 = pI h22 (r l0 59) (((6 * l1) + l3).toNatClampNeg) (h22.1 (r l0 49) l3.toNatClampNeg) → ∀ x30 : Int32, x30 = l3 + 1 → K51 x30 h29) ∧ (¬ (h22.1 (r l0 49) i26.toNatClampNeg) ≤ 0 → vp_in ((6 * l1) + l3) 384 ∧ ∀ h31, h31 = pI h22 (r l0 59) (((6 * l1) + l3).toNatClampNeg) 100 → ∀ x32 : Int32, x32 = l3 + 1 → K51 x32 h31))) ∧ (¬ x23 = 0 → vp_in ((6 * l1) + l3) 384 ∧ ∀ h33, h33 = pI h22 (r l0 59) (((6 * l1) + l3).toNatClampNeg) (-1) → ∀ x34 : Int32, x34 = l3 + 1 → K51 x34 h33)))))
set_option maxRecDepth 100000 in
set_option maxHeartbeats 4000000 in
theorem WB_Mo_fillsEast_51 {Y : CG} {X : CX} {r : TR} {l0 : Nat} {l1 : Int32} {l3 : Int32} {h : TH} {K51 : Int32 → TH → Prop} {K116 : TH → Prop} {Q : TH → Prop} (C : Gd Y X cX8_fillsEast 4 RX8 7) (R : Rv Y r X Q) (t0 : TO Y l0 8) (hK51 : ∀ (k3 : Int32) (hh : TH), K51 k3 hh → G Y X 4 51 [(0, .ref l0), (1, .int l1), (3, .int k3)] [] r hh) (hK116 : ∀ (hh : TH), K116 hh → G Y X 4 116 [] [] r hh) (hD : DB_Mo_fillsEast_51 r l0 l1 l3 h K51 K116 Q) : G Y X 4 51 [(0, .ref l0), (1, .int l1), (3, .int l3)] [] r h := by
  unfold DB_Mo_fillsEast_51 at hD
  refine g_wt (fun hw => ?_)
  refine g_iload_n (pc := 51) rfl 2 rfl C dX8_fillsEast_51 ?_
  refine g_aload_n (pc := 52) rfl 0 rfl C dX8_fillsEast_52 ?_
  have u18 : TA Y (r l0 25) 10 2 := wt_a hw t0 (by decide) (by decide) rfl
  refine g_getR (pc := 53) C fl_RX8_52 t0 rfl dX8_fillsEast_53 ?_
  refine g_aload_n (pc := 56) rfl 0 rfl C dX8_fillsEast_56 ?_
  refine g_getI (pc := 57) C fl_RX8_230 t0 rfl dX8_fillsEast_57 ?_
  refine g_topi (fun i19 ei19 => ?_)
  have hD := hD i19 ei19
  obtain ⟨hb, hD⟩ := hD
  refine g_iald (pc := 60) C u18 hb dX8_fillsEast_60 ?_
  refine g_icmp_ge (pc := 61) 116 C dX8_fillsEast_61 (by decide) (fun c20 => ?_) (fun c20 => ?_)
  · have hD := hD.1 c20
    refine g_sub [] rfl ?_
    exact hK116 h hD
  · have hD := hD.2 c20
    refine g_aload_n (pc := 64) rfl 0 rfl C dX8_fillsEast_64 ?_
    have u21 : TA Y (r l0 59) 10 384 := wt_a hw t0 (by decide) (by decide) rfl
    refine g_getR (pc := 65) C fl_RX8_131 t0 rfl dX8_fillsEast_65 ?_
    refine g_bipush (pc := 68) (v := 6) (by decide) C dX8_fillsEast_68 ?_
    refine g_iload_n (pc := 70) rfl 1 rfl C dX8_fillsEast_70 ?_
    refine g_imul (pc := 71) C dX8_fillsEast_71 ?_
    refine g_iload_n (pc := 72) rfl 2 rfl C dX8_fillsEast_72 ?_
    refine g_iadd (pc := 73) C dX8_fillsEast_73 ?_
    refine g_aload_n (pc := 74) rfl 0 rfl C dX8_fillsEast_74 ?_
    refine g_iload_n (pc := 75) rfl 2 rfl C dX8_fillsEast_75 ?_
    refine g_callVi (pc := 76) (As := [.int l3]) C mv_RX8_385 (M_Mo_isLost t0 hD) t0 (by decide) rfl rfl (Nat.le_of_ble_eq_true rfl) dX8_fillsEast_76 (fun x23 h22 hD => ?_)
    refine g_if_eq (pc := 79) 86 C dX8_fillsEast_79 (by decide) (fun c24 => ?_) (fun c24 => ?_)
    · have hD := hD.1 c24
      refine g_aload_n (pc := 86) rfl 0 rfl C dX8_fillsEast_86 ?_
      have u25 : TA Y (r l0 49) 10 512 := wt_a hw t0 (by decide) (by decide) rfl
      refine g_getR (pc := 87) C fl_RX8_113 t0 rfl dX8_fillsEast_87 ?_
      refine g_bipush (pc := 90) (v := 12) (by decide) C dX8_fillsEast_90 ?_
      refine g_iload_n (pc := 92) rfl 2 rfl C dX8_fillsEast_92 ?_
      refine g_iadd (pc := 93) C dX8_fillsEast_93 ?_
      refine g_topi (fun i26 ei26 => ?_)
      have hD := hD i26 ei26
      obtain ⟨hb, hD⟩ := hD
      refine g_iald (pc := 94) C u25 hb dX8_fillsEast_94 ?_
      refine g_if_le (pc := 95) 103 C dX8_fillsEast_95 (by decide) (fun c27 => ?_) (fun c27 => ?_)
      · have hD := hD.1 c27
        refine g_aload_n (pc := 103) rfl 0 rfl C dX8_fillsEast_103 ?_
        have u28 : TA Y (r l0 49) 10 512 := wt_a hw t0 (by decide) (by decide) rfl
        refine g_getR (pc := 104) C fl_RX8_113 t0 rfl dX8_fillsEast_104 ?_
        refine g_iload_n (pc := 107) rfl 2 rfl C dX8_fillsEast_107 ?_
        obtain ⟨hb, hD⟩ := hD
        refine g_iald (pc := 108) C u28 hb dX8_fillsEast_108 ?_
        obtain ⟨hb, hD⟩ := hD
        refine g_iast (pc := 109) C u21 hb dX8_fillsEast_109 (fun h29 eh29 => ?_)
        have hD := hD h29 eh29
        refine g_iinc (pc := 110) (q := 2) (c := 1) (fun x30 => [(3, .int x30), (0, .ref l0), (1, .int l1)]) C dX8_fillsEast_110 rfl (by decide) (by decide) rfl (fun x30 ex30 => ?_)
        have hD := hD x30 ex30
        refine g_goto (pc := 113) 51 C dX8_fillsEast_113 (by decide) ?_
        refine g_sub [1, 2, 0] rfl ?_
        exact hK51 x30 h29 hD
      · have hD := hD.2 c27
        refine g_bipush (pc := 98) (v := 100) (by decide) C dX8_fillsEast_98 ?_
        refine g_goto (pc := 100) 109 C dX8_fillsEast_100 (by decide) ?_
        obtain ⟨hb, hD⟩ := hD
        refine g_iast (pc := 109) C u21 hb dX8_fillsEast_109 (fun h31 eh31 => ?_)
        have hD := hD h31 eh31
        refine g_iinc (pc := 110) (q := 2) (c := 1) (fun x32 => [(3, .int x32), (0, .ref l0), (1, .int l1)]) C dX8_fillsEast_110 rfl (by decide) (by decide) rfl (fun x32 ex32 => ?_)
        have hD := hD x32 ex32
        refine g_goto (pc := 113) 51 C dX8_fillsEast_113 (by decide) ?_
        refine g_sub [1, 2, 0] rfl ?_
        exact hK51 x32 h31 hD
    · have hD := hD.2 c24
      refine g_iconst (pc := 82) (v := (-1)) (by decide) C dX8_fillsEast_82 ?_
      refine g_goto (pc := 83) 109 C dX8_fillsEast_83 (by decide) ?_
      obtain ⟨hb, hD⟩ := hD
      refine g_iast (pc := 109) C u21 hb dX8_fillsEast_109 (fun h33 eh33 => ?_)
      have hD := hD h33 eh33
      refine g_iinc (pc := 110) (q := 2) (c := 1) (fun x34 => [(3, .int x34), (0, .ref l0), (1, .int l1)]) C dX8_fillsEast_110 rfl (by decide) (by decide) rfl (fun x34 ex34 => ?_)
      have hD := hD x34 ex34
      refine g_goto (pc := 113) 51 C dX8_fillsEast_113 (by decide) ?_
      refine g_sub [1, 2, 0] rfl ?_
      exact hK51 x34 h33 hD
def D_Mo_fillsEast (r : TR) (o : Nat) (a1 : Int32) (a2 : Int32) (h : TH) (Q : TH → Prop) : Prop :=
  D_Mo_copies r o h (fun h1 => ∃ n, lp (fun (K : Int32 × TH → Prop) (s : Int32 × TH) => DB_Mo_fillsEast_6 r o a1 a2 s.1 s.2 (fun y12 h13 => K (y12, h13)) (fun h14 => D_Mo_goes r o a2 h14 (fun h15 => ∃ n, lp (fun (K : Int32 × TH → Prop) (s : Int32 × TH) => DB_Mo_fillsEast_51 r o a1 s.1 s.2 (fun y35 h36 => K (y35, h36)) (fun h37 => Q h37) Q) n (0, h15))) Q) n (0, h1))
set_option maxRecDepth 100000 in
set_option maxHeartbeats 4000000 in
theorem M_Mo_fillsEast {Y : CG} {r : TR} {l : Launch} {o : Nat} {a1 : Int32} {a2 : Int32} {h : TH} {Q : TH → Prop} (t0 : TO Y o 8) (hD : D_Mo_fillsEast r o a1 a2 h Q) : Mv Y r l yX8_fillsEast cX8_fillsEast 4 7 [.ref o, .int a1, .int a2] h Q := by
  unfold D_Mo_fillsEast at hD
  refine Mv.of RX8 rfl (by decide) (by simp [lg_sl, Value.category]) [(0, .ref o), (1, .int a1), (2, .int a2)] rfl (fun X hXl C R => ?_)
  subst hXl
  refine g_wt (fun hw => ?_)
  refine g_aload_n (pc := 0) rfl 0 rfl C dX8_fillsEast_0 ?_
  refine g_callVv (pc := 1) (As := []) C mv_RX8_397 (M_Mo_copies t0 hD) t0 (by decide) rfl rfl (Nat.le_of_ble_eq_true rfl) dX8_fillsEast_1 (fun h1 hD => ?_)
  refine g_iconst (pc := 4) (v := 0) (by decide) C dX8_fillsEast_4 ?_
  refine g_istore_n (pc := 5) (fun _ => [(3, .int 0), (0, .ref o), (1, .int a1), (2, .int a2)]) C dX8_fillsEast_5 rfl (by decide) rfl (fun _ _ => ?_)
  obtain ⟨n, hD⟩ := hD
  refine g_sub [1, 2, 3, 0] rfl ?_
  refine lp_run (fun s : Int32 × TH => G Y X 4 6 [(0, .ref o), (1, .int a1), (2, .int a2), (3, .int s.1)] [] r s.2) (fun K s hB hK => ?_) n (0, h1) hD
  refine WB_Mo_fillsEast_6 C R t0 (fun y12 h13 hk => hK _ hk) (fun h14 hD => ?_) hB
  · refine g_aload_n (pc := 44) rfl 0 rfl C dX8_fillsEast_44 ?_
    refine g_iload_n (pc := 45) rfl 2 rfl C dX8_fillsEast_45 ?_
    refine g_callVv (pc := 46) (As := [.int a2]) C mv_RX8_403 (M_Mo_goes t0 hD) t0 (by decide) rfl rfl (Nat.le_of_ble_eq_true rfl) dX8_fillsEast_46 (fun h15 hD => ?_)
    refine g_iconst (pc := 49) (v := 0) (by decide) C dX8_fillsEast_49 ?_
    refine g_istore_n (pc := 50) (fun _ => [(3, .int 0), (0, .ref o), (1, .int a1), (2, .int a2)]) C dX8_fillsEast_50 rfl (by decide) rfl (fun _ _ => ?_)
    obtain ⟨n, hD⟩ := hD
    refine g_sub [1, 2, 0] rfl ?_
    refine lp_run (fun s : Int32 × TH => G Y X 4 51 [(0, .ref o), (1, .int a1), (3, .int s.1)] [] r s.2) (fun K s hB hK => ?_) n (0, h15) hD
    refine WB_Mo_fillsEast_51 C R t0 (fun y35 h36 hk => hK _ hk) (fun h37 hD => ?_) hB
    · exact g_vret (pc := 116) C R dX8_fillsEast_116 hD
def DB_Mo_isNextTo_3 (r : TR) (l0 : Nat) (l1 : Int32) (l2 : Int32) (l3 : Int32) (l4 : Int32) (h : TH) (K3 : Int32 → TH → Prop) (K39 : TH → Prop) (Q : Int32 → TH → Prop) : Prop :=
  ((4 < l4 → K39 h) ∧ (¬ 4 < l4 → D_Mo_eastBy r l4 h (fun x4 h3 => D_Mo_southBy r l4 h3 (fun x6 h5 => D_Mo_farAt r l0 (l1 + x4) (l2 + x6) h5 (fun x8 h7 => ((¬ x8 = l3 → ∀ x10 : Int32, x10 = l4 + 1 → K3 x10 h7) ∧ (x8 = l3 → Q 1 h7)))))))
set_option maxRecDepth 100000 in
set_option maxHeartbeats 4000000 in
theorem WB_Mo_isNextTo_3 {Y : CG} {X : CX} {r : TR} {l0 : Nat} {l1 : Int32} {l2 : Int32} {l3 : Int32} {l4 : Int32} {h : TH} {K3 : Int32 → TH → Prop} {K39 : TH → Prop} {Q : Int32 → TH → Prop} (C : Gd Y X cX8_isNextTo 5 RX8 4) (R : Ri Y r X .boolean Q) (t0 : TO Y l0 8) (hK3 : ∀ (k4 : Int32) (hh : TH), K3 k4 hh → G Y X 5 3 [(0, .ref l0), (1, .int l1), (2, .int l2), (3, .int l3), (4, .int k4)] [] r hh) (hK39 : ∀ (hh : TH), K39 hh → G Y X 5 39 [] [] r hh) (hD : DB_Mo_isNextTo_3 r l0 l1 l2 l3 l4 h K3 K39 Q) : G Y X 5 3 [(0, .ref l0), (1, .int l1), (2, .int l2), (3, .int l3), (4, .int l4)] [] r h := by
  unfold DB_Mo_isNextTo_3 at hD
  refine g_wt (fun hw => ?_)
  refine g_iload (pc := 3) 4 rfl C dX8_isNextTo_3 ?_
  refine g_iconst (pc := 5) (v := 4) (by decide) C dX8_isNextTo_5 ?_
  refine g_icmp_gt (pc := 6) 39 C dX8_isNextTo_6 (by decide) (fun c2 => ?_) (fun c2 => ?_)
  · have hD := hD.1 c2
    refine g_sub [] rfl ?_
    exact hK39 h hD
  · have hD := hD.2 c2
    refine g_aload_n (pc := 9) rfl 0 rfl C dX8_isNextTo_9 ?_
    refine g_iload_n (pc := 10) rfl 1 rfl C dX8_isNextTo_10 ?_
    refine g_iload (pc := 11) 4 rfl C dX8_isNextTo_11 ?_
    refine g_callSi (pc := 13) (As := [.int l4]) C ms_RX8_354 (M_Mo_eastBy  hD) (by decide) rfl rfl (Nat.le_of_ble_eq_true rfl) dX8_isNextTo_13 (fun x4 h3 hD => ?_)
    refine g_iadd (pc := 16) C dX8_isNextTo_16 ?_
    refine g_iload_n (pc := 17) rfl 2 rfl C dX8_isNextTo_17 ?_
    refine g_iload (pc := 18) 4 rfl C dX8_isNextTo_18 ?_
    refine g_callSi (pc := 20) (As := [.int l4]) C ms_RX8_357 (M_Mo_southBy  hD) (by decide) rfl rfl (Nat.le_of_ble_eq_true rfl) dX8_isNextTo_20 (fun x6 h5 hD => ?_)
    refine g_iadd (pc := 23) C dX8_isNextTo_23 ?_
    refine g_callVi (pc := 24) (As := [.int (l1 + x4), .int (l2 + x6)]) C mv_RX8_419 (M_Mo_farAt t0 hD) t0 (by decide) rfl rfl (Nat.le_of_ble_eq_true rfl) dX8_isNextTo_24 (fun x8 h7 hD => ?_)
    refine g_iload_n (pc := 27) rfl 3 rfl C dX8_isNextTo_27 ?_
    refine g_icmp_ne (pc := 28) 33 C dX8_isNextTo_28 (by decide) (fun c9 => ?_) (fun c9 => ?_)
    · have hD := hD.1 c9
      refine g_iinc (pc := 33) (q := 4) (c := 1) (fun x10 => [(4, .int x10), (0, .ref l0), (1, .int l1), (2, .int l2), (3, .int l3)]) C dX8_isNextTo_33 rfl (by decide) (by decide) rfl (fun x10 ex10 => ?_)
      have hD := hD x10 ex10
      refine g_goto (pc := 36) 3 C dX8_isNextTo_36 (by decide) ?_
      refine g_sub [1, 2, 3, 4, 0] rfl ?_
      exact hK3 x10 h7 hD
    · have hD := hD.2 c9
      refine g_iconst (pc := 31) (v := 1) (by decide) C dX8_isNextTo_31 ?_
      exact g_zret (pc := 32) C R nz_1 dX8_isNextTo_32 hD
def D_Mo_isNextTo (r : TR) (o : Nat) (a1 : Int32) (a2 : Int32) (a3 : Int32) (h : TH) (Q : Int32 → TH → Prop) : Prop :=
  ∃ n, lp (fun (K : Int32 × TH → Prop) (s : Int32 × TH) => DB_Mo_isNextTo_3 r o a1 a2 a3 s.1 s.2 (fun y11 h12 => K (y11, h12)) (fun h13 => Q 0 h13) Q) n (1, h)
set_option maxRecDepth 100000 in
set_option maxHeartbeats 4000000 in
theorem M_Mo_isNextTo {Y : CG} {r : TR} {l : Launch} {o : Nat} {a1 : Int32} {a2 : Int32} {a3 : Int32} {h : TH} {Q : Int32 → TH → Prop} (t0 : TO Y o 8) (hD : D_Mo_isNextTo r o a1 a2 a3 h Q) : Mi Y r l yX8_isNextTo cX8_isNextTo 5 .boolean 4 [.ref o, .int a1, .int a2, .int a3] h Q := by
  unfold D_Mo_isNextTo at hD
  refine Mi.of RX8 rfl (by decide) (by simp [lg_sl, Value.category]) [(0, .ref o), (1, .int a1), (2, .int a2), (3, .int a3)] rfl (fun X hXl C R => ?_)
  subst hXl
  refine g_wt (fun hw => ?_)
  refine g_iconst (pc := 0) (v := 1) (by decide) C dX8_isNextTo_0 ?_
  refine g_istore (pc := 1) (fun _ => [(4, .int 1), (0, .ref o), (1, .int a1), (2, .int a2), (3, .int a3)]) C dX8_isNextTo_1 (by decide) rfl (fun _ _ => ?_)
  obtain ⟨n, hD⟩ := hD
  refine g_sub [1, 2, 3, 4, 0] rfl ?_
  refine lp_run (fun s : Int32 × TH => G Y X 5 3 [(0, .ref o), (1, .int a1), (2, .int a2), (3, .int a3), (4, .int s.1)] [] r s.2) (fun K s hB hK => ?_) n (1, h) hD
  refine WB_Mo_isNextTo_3 C R t0 (fun y11 h12 hk => hK _ hk) (fun h13 hD => ?_) hB
  · refine g_iconst (pc := 39) (v := 0) (by decide) C dX8_isNextTo_39 ?_
    exact g_zret (pc := 40) C R nz_0 dX8_isNextTo_40 hD
def DB_Mo_fillsFar_2 (r : TR) (l0 : Nat) (l1 : Int32) (h : TH) (K2 : Int32 → TH → Prop) (K56 : TH → Prop) (Q : TH → Prop) : Prop :=
  ((40 ≤ l1 → K56 h) ∧ (¬ 40 ≤ l1 → D_Mo_isCell r l0 (jrem l1 8) (l1 / 8) h (fun x5 h4 => ((x5 = 0 → vp_in l1 40 ∧ ∀ h7, h7 = pI h4 (r l0 56) l1.toNatClampNeg (-1) → ∀ x8 : Int32, x8 = l1 + 1 → K2 x8 h7) ∧ (¬ x5 = 0 → D_Mo_sortAt r l0 (jrem l1 8) (l1 / 8) h4 (fun x10 h9 => ((¬ x10 = 2 → vp_in l1 40 ∧ ∀ h12, h12 = pI h9 (r l0 56) l1.toNatClampNeg (-1) → ∀ x13 : Int32, x13 = l1 + 1 → K2 x13 h12) ∧ (x10 = 2 → vp_in l1 40 ∧ ∀ h14, h14 = pI h9 (r l0 56) l1.toNatClampNeg 0 → ∀ x15 : Int32, x15 = l1 + 1 → K2 x15 h14))))))))
set_option maxRecDepth 100000 in
set_option maxHeartbeats 4000000 in
theorem WB_Mo_fillsFar_2 {Y : CG} {X : CX} {r : TR} {l0 : Nat} {l1 : Int32} {h : TH} {K2 : Int32 → TH → Prop} {K56 : TH → Prop} {Q : TH → Prop} (C : Gd Y X cX8_fillsFar 3 RX8 5) (R : Rv Y r X Q) (t0 : TO Y l0 8) (hK2 : ∀ (k1 : Int32) (hh : TH), K2 k1 hh → G Y X 3 2 [(0, .ref l0), (1, .int k1)] [] r hh) (hK56 : ∀ (hh : TH), K56 hh → G Y X 3 56 [(0, .ref l0)] [] r hh) (hD : DB_Mo_fillsFar_2 r l0 l1 h K2 K56 Q) : G Y X 3 2 [(0, .ref l0), (1, .int l1)] [] r h := by
  unfold DB_Mo_fillsFar_2 at hD
  refine g_wt (fun hw => ?_)
  refine g_iload_n (pc := 2) rfl 1 rfl C dX8_fillsFar_2 ?_
  refine g_bipush (pc := 3) (v := 40) (by decide) C dX8_fillsFar_3 ?_
  refine g_icmp_ge (pc := 5) 56 C dX8_fillsFar_5 (by decide) (fun c2 => ?_) (fun c2 => ?_)
  · have hD := hD.1 c2
    refine g_sub [0] rfl ?_
    exact hK56 h hD
  · have hD := hD.2 c2
    refine g_aload_n (pc := 8) rfl 0 rfl C dX8_fillsFar_8 ?_
    have u3 : TA Y (r l0 56) 10 40 := wt_a hw t0 (by decide) (by decide) rfl
    refine g_getR (pc := 9) C fl_RX8_122 t0 rfl dX8_fillsFar_9 ?_
    refine g_iload_n (pc := 12) rfl 1 rfl C dX8_fillsFar_12 ?_
    refine g_aload_n (pc := 13) rfl 0 rfl C dX8_fillsFar_13 ?_
    refine g_iload_n (pc := 14) rfl 1 rfl C dX8_fillsFar_14 ?_
    refine g_bipush (pc := 15) (v := 8) (by decide) C dX8_fillsFar_15 ?_
    refine g_irem (pc := 17) (by decide) C dX8_fillsFar_17 ?_
    refine g_iload_n (pc := 18) rfl 1 rfl C dX8_fillsFar_18 ?_
    refine g_bipush (pc := 19) (v := 8) (by decide) C dX8_fillsFar_19 ?_
    refine g_idiv (pc := 21) (by decide) C dX8_fillsFar_21 ?_
    refine g_callVi (pc := 22) (As := [.int (jrem l1 8), .int (l1 / 8)]) C mv_RX8_360 (M_Mo_isCell t0 hD) t0 (by decide) rfl rfl (Nat.le_of_ble_eq_true rfl) dX8_fillsFar_22 (fun x5 h4 hD => ?_)
    refine g_if_eq (pc := 25) 48 C dX8_fillsFar_25 (by decide) (fun c6 => ?_) (fun c6 => ?_)
    · have hD := hD.1 c6
      refine g_iconst (pc := 48) (v := (-1)) (by decide) C dX8_fillsFar_48 ?_
      obtain ⟨hb, hD⟩ := hD
      refine g_iast (pc := 49) C u3 hb dX8_fillsFar_49 (fun h7 eh7 => ?_)
      have hD := hD h7 eh7
      refine g_iinc (pc := 50) (q := 1) (c := 1) (fun x8 => [(1, .int x8), (0, .ref l0)]) C dX8_fillsFar_50 rfl (by decide) (by decide) rfl (fun x8 ex8 => ?_)
      have hD := hD x8 ex8
      refine g_goto (pc := 53) 2 C dX8_fillsFar_53 (by decide) ?_
      refine g_sub [1, 0] rfl ?_
      exact hK2 x8 h7 hD
    · have hD := hD.2 c6
      refine g_aload_n (pc := 28) rfl 0 rfl C dX8_fillsFar_28 ?_
      refine g_iload_n (pc := 29) rfl 1 rfl C dX8_fillsFar_29 ?_
      refine g_bipush (pc := 30) (v := 8) (by decide) C dX8_fillsFar_30 ?_
      refine g_irem (pc := 32) (by decide) C dX8_fillsFar_32 ?_
      refine g_iload_n (pc := 33) rfl 1 rfl C dX8_fillsFar_33 ?_
      refine g_bipush (pc := 34) (v := 8) (by decide) C dX8_fillsFar_34 ?_
      refine g_idiv (pc := 36) (by decide) C dX8_fillsFar_36 ?_
      refine g_callVi (pc := 37) (As := [.int (jrem l1 8), .int (l1 / 8)]) C mv_RX8_319 (M_Mo_sortAt t0 hD) t0 (by decide) rfl rfl (Nat.le_of_ble_eq_true rfl) dX8_fillsFar_37 (fun x10 h9 hD => ?_)
      refine g_iconst (pc := 40) (v := 2) (by decide) C dX8_fillsFar_40 ?_
      refine g_icmp_ne (pc := 41) 48 C dX8_fillsFar_41 (by decide) (fun c11 => ?_) (fun c11 => ?_)
      · have hD := hD.1 c11
        refine g_iconst (pc := 48) (v := (-1)) (by decide) C dX8_fillsFar_48 ?_
        obtain ⟨hb, hD⟩ := hD
        refine g_iast (pc := 49) C u3 hb dX8_fillsFar_49 (fun h12 eh12 => ?_)
        have hD := hD h12 eh12
        refine g_iinc (pc := 50) (q := 1) (c := 1) (fun x13 => [(1, .int x13), (0, .ref l0)]) C dX8_fillsFar_50 rfl (by decide) (by decide) rfl (fun x13 ex13 => ?_)
        have hD := hD x13 ex13
        refine g_goto (pc := 53) 2 C dX8_fillsFar_53 (by decide) ?_
        refine g_sub [1, 0] rfl ?_
        exact hK2 x13 h12 hD
      · have hD := hD.2 c11
        refine g_iconst (pc := 44) (v := 0) (by decide) C dX8_fillsFar_44 ?_
        refine g_goto (pc := 45) 49 C dX8_fillsFar_45 (by decide) ?_
        obtain ⟨hb, hD⟩ := hD
        refine g_iast (pc := 49) C u3 hb dX8_fillsFar_49 (fun h14 eh14 => ?_)
        have hD := hD h14 eh14
        refine g_iinc (pc := 50) (q := 1) (c := 1) (fun x15 => [(1, .int x15), (0, .ref l0)]) C dX8_fillsFar_50 rfl (by decide) (by decide) rfl (fun x15 ex15 => ?_)
        have hD := hD x15 ex15
        refine g_goto (pc := 53) 2 C dX8_fillsFar_53 (by decide) ?_
        refine g_sub [1, 0] rfl ?_
        exact hK2 x15 h14 hD
def DB_Mo_fillsFar_66 (r : TR) (l0 : Nat) (l1 : Int32) (l2 : Int32) (h : TH) (K58 : Int32 → TH → Prop) (K66 : Int32 → TH → Prop) (K142 : TH → Prop) (K148 : TH → Prop) (Q : TH → Prop) : Prop :=
  ((40 ≤ l2 → K142 h) ∧ (¬ 40 ≤ l2 → vp_in l2 40 ∧ ((0 ≤ (h.1 (r l0 56) l2.toNatClampNeg) → ∀ x25 : Int32, x25 = l2 + 1 → K66 x25 h) ∧ (¬ 0 ≤ (h.1 (r l0 56) l2.toNatClampNeg) → D_Mo_isCell r l0 (jrem l2 8) (l2 / 8) h (fun x27 h26 => ((x27 = 0 → ∀ x29 : Int32, x29 = l2 + 1 → K66 x29 h26) ∧ (¬ x27 = 0 → D_Mo_sortAt r l0 (jrem l2 8) (l2 / 8) h26 (fun x31 h30 => ((¬ x31 = 0 → ∀ x33 : Int32, x33 = l2 + 1 → K66 x33 h30) ∧ (x31 = 0 → D_Mo_isNextTo r l0 (jrem l2 8) (l2 / 8) (l1 - 1) h30 (fun x35 h34 => ((x35 = 0 → ∀ x37 : Int32, x37 = l2 + 1 → K66 x37 h34) ∧ (¬ x35 = 0 → vp_in l2 40 ∧ ∀ h39, h39 = pI h34 (r l0 56) l2.toNatClampNeg l1 → ∀ x40 : Int32, x40 = l2 + 1 → K66 x40 h39)))))))))))))
set_option maxRecDepth 100000 in
set_option maxHeartbeats 4000000 in
theorem WB_Mo_fillsFar_66 {Y : CG} {X : CX} {r : TR} {l0 : Nat} {l1 : Int32} {l2 : Int32} {h : TH} {K58 : Int32 → TH → Prop} {K66 : Int32 → TH → Prop} {K142 : TH → Prop} {K148 : TH → Prop} {Q : TH → Prop} (C : Gd Y X cX8_fillsFar 3 RX8 5) (R : Rv Y r X Q) (t0 : TO Y l0 8) (hK58 : ∀ (k1 : Int32) (hh : TH), K58 k1 hh → G Y X 3 58 [(0, .ref l0), (1, .int k1)] [] r hh) (hK66 : ∀ (k2 : Int32) (hh : TH), K66 k2 hh → G Y X 3 66 [(0, .ref l0), (1, .int l1), (2, .int k2)] [] r hh) (hK142 : ∀ (hh : TH), K142 hh → G Y X 3 142 [(0, .ref l0), (1, .int l1)] [] r hh) (hK148 : ∀ (hh : TH), K148 hh → G Y X 3 148 [] [] r hh) (hD : DB_Mo_fillsFar_66 r l0 l1 l2 h K58 K66 K142 K148 Q) : G Y X 3 66 [(0, .ref l0), (1, .int l1), (2, .int l2)] [] r h := by
  unfold DB_Mo_fillsFar_66 at hD
  refine g_wt (fun hw => ?_)
  refine g_iload_n (pc := 66) rfl 2 rfl C dX8_fillsFar_66 ?_
  refine g_bipush (pc := 67) (v := 40) (by decide) C dX8_fillsFar_67 ?_
  refine g_icmp_ge (pc := 69) 142 C dX8_fillsFar_69 (by decide) (fun c22 => ?_) (fun c22 => ?_)
  · have hD := hD.1 c22
    refine g_sub [0, 1] rfl ?_
    exact hK142 h hD
  · have hD := hD.2 c22
    refine g_aload_n (pc := 72) rfl 0 rfl C dX8_fillsFar_72 ?_
    have u23 : TA Y (r l0 56) 10 40 := wt_a hw t0 (by decide) (by decide) rfl
    refine g_getR (pc := 73) C fl_RX8_122 t0 rfl dX8_fillsFar_73 ?_
    refine g_iload_n (pc := 76) rfl 2 rfl C dX8_fillsFar_76 ?_
    obtain ⟨hb, hD⟩ := hD
    refine g_iald (pc := 77) C u23 hb dX8_fillsFar_77 ?_
    refine g_if_ge (pc := 78) 136 C dX8_fillsFar_78 (by decide) (fun c24 => ?_) (fun c24 => ?_)
    · have hD := hD.1 c24
      refine g_iinc (pc := 136) (q := 2) (c := 1) (fun x25 => [(2, .int x25), (0, .ref l0), (1, .int l1)]) C dX8_fillsFar_136 rfl (by decide) (by decide) rfl (fun x25 ex25 => ?_)
      have hD := hD x25 ex25
      refine g_goto (pc := 139) 66 C dX8_fillsFar_139 (by decide) ?_
      refine g_sub [1, 2, 0] rfl ?_
      exact hK66 x25 h hD
    · have hD := hD.2 c24
      refine g_aload_n (pc := 81) rfl 0 rfl C dX8_fillsFar_81 ?_
      refine g_iload_n (pc := 82) rfl 2 rfl C dX8_fillsFar_82 ?_
      refine g_bipush (pc := 83) (v := 8) (by decide) C dX8_fillsFar_83 ?_
      refine g_irem (pc := 85) (by decide) C dX8_fillsFar_85 ?_
      refine g_iload_n (pc := 86) rfl 2 rfl C dX8_fillsFar_86 ?_
      refine g_bipush (pc := 87) (v := 8) (by decide) C dX8_fillsFar_87 ?_
      refine g_idiv (pc := 89) (by decide) C dX8_fillsFar_89 ?_
      refine g_callVi (pc := 90) (As := [.int (jrem l2 8), .int (l2 / 8)]) C mv_RX8_360 (M_Mo_isCell t0 hD) t0 (by decide) rfl rfl (Nat.le_of_ble_eq_true rfl) dX8_fillsFar_90 (fun x27 h26 hD => ?_)
      refine g_if_eq (pc := 93) 136 C dX8_fillsFar_93 (by decide) (fun c28 => ?_) (fun c28 => ?_)
      · have hD := hD.1 c28
        refine g_iinc (pc := 136) (q := 2) (c := 1) (fun x29 => [(2, .int x29), (0, .ref l0), (1, .int l1)]) C dX8_fillsFar_136 rfl (by decide) (by decide) rfl (fun x29 ex29 => ?_)
        have hD := hD x29 ex29
        refine g_goto (pc := 139) 66 C dX8_fillsFar_139 (by decide) ?_
        refine g_sub [1, 2, 0] rfl ?_
        exact hK66 x29 h26 hD
      · have hD := hD.2 c28
        refine g_aload_n (pc := 96) rfl 0 rfl C dX8_fillsFar_96 ?_
        refine g_iload_n (pc := 97) rfl 2 rfl C dX8_fillsFar_97 ?_
        refine g_bipush (pc := 98) (v := 8) (by decide) C dX8_fillsFar_98 ?_
        refine g_irem (pc := 100) (by decide) C dX8_fillsFar_100 ?_
        refine g_iload_n (pc := 101) rfl 2 rfl C dX8_fillsFar_101 ?_
        refine g_bipush (pc := 102) (v := 8) (by decide) C dX8_fillsFar_102 ?_
        refine g_idiv (pc := 104) (by decide) C dX8_fillsFar_104 ?_
        refine g_callVi (pc := 105) (As := [.int (jrem l2 8), .int (l2 / 8)]) C mv_RX8_319 (M_Mo_sortAt t0 hD) t0 (by decide) rfl rfl (Nat.le_of_ble_eq_true rfl) dX8_fillsFar_105 (fun x31 h30 hD => ?_)
        refine g_if_ne (pc := 108) 136 C dX8_fillsFar_108 (by decide) (fun c32 => ?_) (fun c32 => ?_)
        · have hD := hD.1 c32
          refine g_iinc (pc := 136) (q := 2) (c := 1) (fun x33 => [(2, .int x33), (0, .ref l0), (1, .int l1)]) C dX8_fillsFar_136 rfl (by decide) (by decide) rfl (fun x33 ex33 => ?_)
          have hD := hD x33 ex33
          refine g_goto (pc := 139) 66 C dX8_fillsFar_139 (by decide) ?_
          refine g_sub [1, 2, 0] rfl ?_
          exact hK66 x33 h30 hD
        · have hD := hD.2 c32
          refine g_aload_n (pc := 111) rfl 0 rfl C dX8_fillsFar_111 ?_
          refine g_iload_n (pc := 112) rfl 2 rfl C dX8_fillsFar_112 ?_
          refine g_bipush (pc := 113) (v := 8) (by decide) C dX8_fillsFar_113 ?_
          refine g_irem (pc := 115) (by decide) C dX8_fillsFar_115 ?_
          refine g_iload_n (pc := 116) rfl 2 rfl C dX8_fillsFar_116 ?_
          refine g_bipush (pc := 117) (v := 8) (by decide) C dX8_fillsFar_117 ?_
          refine g_idiv (pc := 119) (by decide) C dX8_fillsFar_119 ?_
          refine g_iload_n (pc := 120) rfl 1 rfl C dX8_fillsFar_120 ?_
          refine g_iconst (pc := 121) (v := 1) (by decide) C dX8_fillsFar_121 ?_
          refine g_isub (pc := 122) C dX8_fillsFar_122 ?_
          refine g_callVi (pc := 123) (As := [.int (jrem l2 8), .int (l2 / 8), .int (l1 - 1)]) C mv_RX8_422 (M_Mo_isNextTo t0 hD) t0 (by decide) rfl rfl (Nat.le_of_ble_eq_true rfl) dX8_fillsFar_123 (fun x35 h34 hD => ?_)
          refine g_if_eq (pc := 126) 136 C dX8_fillsFar_126 (by decide) (fun c36 => ?_) (fun c36 => ?_)
          · have hD := hD.1 c36
            refine g_iinc (pc := 136) (q := 2) (c := 1) (fun x37 => [(2, .int x37), (0, .ref l0), (1, .int l1)]) C dX8_fillsFar_136 rfl (by decide) (by decide) rfl (fun x37 ex37 => ?_)
            have hD := hD x37 ex37
            refine g_goto (pc := 139) 66 C dX8_fillsFar_139 (by decide) ?_
            refine g_sub [1, 2, 0] rfl ?_
            exact hK66 x37 h34 hD
          · have hD := hD.2 c36
            refine g_aload_n (pc := 129) rfl 0 rfl C dX8_fillsFar_129 ?_
            have u38 : TA Y (r l0 56) 10 40 := wt_a hw t0 (by decide) (by decide) rfl
            refine g_getR (pc := 130) C fl_RX8_122 t0 rfl dX8_fillsFar_130 ?_
            refine g_iload_n (pc := 133) rfl 2 rfl C dX8_fillsFar_133 ?_
            refine g_iload_n (pc := 134) rfl 1 rfl C dX8_fillsFar_134 ?_
            obtain ⟨hb, hD⟩ := hD
            refine g_iast (pc := 135) C u38 hb dX8_fillsFar_135 (fun h39 eh39 => ?_)
            have hD := hD h39 eh39
            refine g_iinc (pc := 136) (q := 2) (c := 1) (fun x40 => [(2, .int x40), (0, .ref l0), (1, .int l1)]) C dX8_fillsFar_136 rfl (by decide) (by decide) rfl (fun x40 ex40 => ?_)
            have hD := hD x40 ex40
            refine g_goto (pc := 139) 66 C dX8_fillsFar_139 (by decide) ?_
            refine g_sub [1, 2, 0] rfl ?_
            exact hK66 x40 h39 hD
def DB_Mo_fillsFar_58 (r : TR) (l0 : Nat) (l1 : Int32) (h : TH) (K58 : Int32 → TH → Prop) (K148 : TH → Prop) (Q : TH → Prop) : Prop :=
  ((40 < l1 → K148 h) ∧ (¬ 40 < l1 → ∃ n, lp (fun (K : Int32 × TH → Prop) (s : Int32 × TH) => DB_Mo_fillsFar_66 r l0 l1 s.1 s.2 K58 (fun y41 h42 => K (y41, h42)) (fun h43 => ∀ x44 : Int32, x44 = l1 + 1 → K58 x44 h43) K148 Q) n (0, h)))
set_option maxRecDepth 100000 in
set_option maxHeartbeats 4000000 in
theorem WB_Mo_fillsFar_58 {Y : CG} {X : CX} {r : TR} {l0 : Nat} {l1 : Int32} {h : TH} {K58 : Int32 → TH → Prop} {K148 : TH → Prop} {Q : TH → Prop} (C : Gd Y X cX8_fillsFar 3 RX8 5) (R : Rv Y r X Q) (t0 : TO Y l0 8) (hK58 : ∀ (k1 : Int32) (hh : TH), K58 k1 hh → G Y X 3 58 [(0, .ref l0), (1, .int k1)] [] r hh) (hK148 : ∀ (hh : TH), K148 hh → G Y X 3 148 [] [] r hh) (hD : DB_Mo_fillsFar_58 r l0 l1 h K58 K148 Q) : G Y X 3 58 [(0, .ref l0), (1, .int l1)] [] r h := by
  unfold DB_Mo_fillsFar_58 at hD
  refine g_wt (fun hw => ?_)
  refine g_iload_n (pc := 58) rfl 1 rfl C dX8_fillsFar_58 ?_
  refine g_bipush (pc := 59) (v := 40) (by decide) C dX8_fillsFar_59 ?_
  refine g_icmp_gt (pc := 61) 148 C dX8_fillsFar_61 (by decide) (fun c20 => ?_) (fun c20 => ?_)
  · have hD := hD.1 c20
    refine g_sub [] rfl ?_
    exact hK148 h hD
  · have hD := hD.2 c20
    refine g_iconst (pc := 64) (v := 0) (by decide) C dX8_fillsFar_64 ?_
    refine g_istore_n (pc := 65) (fun _ => [(2, .int 0), (0, .ref l0), (1, .int l1)]) C dX8_fillsFar_65 rfl (by decide) rfl (fun _ _ => ?_)
    obtain ⟨n, hD⟩ := hD
    refine g_sub [1, 2, 0] rfl ?_
    refine lp_run (fun s : Int32 × TH => G Y X 3 66 [(0, .ref l0), (1, .int l1), (2, .int s.1)] [] r s.2) (fun K s hB hK => ?_) n (0, h) hD
    refine WB_Mo_fillsFar_66 C R t0 hK58 (fun y41 h42 hk => hK _ hk) (fun h43 hD => ?_) hK148 hB
    · refine g_iinc (pc := 142) (q := 1) (c := 1) (fun x44 => [(1, .int x44), (0, .ref l0)]) C dX8_fillsFar_142 rfl (by decide) (by decide) rfl (fun x44 ex44 => ?_)
      have hD := hD x44 ex44
      refine g_goto (pc := 145) 58 C dX8_fillsFar_145 (by decide) ?_
      refine g_sub [1, 0] rfl ?_
      exact hK58 x44 h43 hD
def D_Mo_fillsFar (r : TR) (o : Nat) (h : TH) (Q : TH → Prop) : Prop :=
  ∃ n, lp (fun (K : Int32 × TH → Prop) (s : Int32 × TH) => DB_Mo_fillsFar_2 r o s.1 s.2 (fun y16 h17 => K (y16, h17)) (fun h18 => ∃ n, lp (fun (K : Int32 × TH → Prop) (s : Int32 × TH) => DB_Mo_fillsFar_58 r o s.1 s.2 (fun y45 h46 => K (y45, h46)) (fun h47 => Q h47) Q) n (1, h18)) Q) n (0, h)
set_option maxRecDepth 100000 in
set_option maxHeartbeats 4000000 in
theorem M_Mo_fillsFar {Y : CG} {r : TR} {l : Launch} {o : Nat} {h : TH} {Q : TH → Prop} (t0 : TO Y o 8) (hD : D_Mo_fillsFar r o h Q) : Mv Y r l yX8_fillsFar cX8_fillsFar 3 5 [.ref o] h Q := by
  unfold D_Mo_fillsFar at hD
  refine Mv.of RX8 rfl (by decide) (by simp [lg_sl, Value.category]) [(0, .ref o)] rfl (fun X hXl C R => ?_)
  subst hXl
  refine g_wt (fun hw => ?_)
  refine g_iconst (pc := 0) (v := 0) (by decide) C dX8_fillsFar_0 ?_
  refine g_istore_n (pc := 1) (fun _ => [(1, .int 0), (0, .ref o)]) C dX8_fillsFar_1 rfl (by decide) rfl (fun _ _ => ?_)
  obtain ⟨n, hD⟩ := hD
  refine g_sub [1, 0] rfl ?_
  refine lp_run (fun s : Int32 × TH => G Y X 3 2 [(0, .ref o), (1, .int s.1)] [] r s.2) (fun K s hB hK => ?_) n (0, h) hD
  refine WB_Mo_fillsFar_2 C R t0 (fun y16 h17 hk => hK _ hk) (fun h18 hD => ?_) hB
  · refine g_iconst (pc := 56) (v := 1) (by decide) C dX8_fillsFar_56 ?_
    refine g_istore_n (pc := 57) (fun _ => [(1, .int 1), (0, .ref o)]) C dX8_fillsFar_57 rfl (by decide) rfl (fun _ _ => ?_)
    obtain ⟨n, hD⟩ := hD
    refine g_sub [1, 0] rfl ?_
    refine lp_run (fun s : Int32 × TH => G Y X 3 58 [(0, .ref o), (1, .int s.1)] [] r s.2) (fun K s hB hK => ?_) n (1, h18) hD
    refine WB_Mo_fillsFar_58 C R t0 (fun y45 h46 hk => hK _ hk) (fun h47 hD => ?_) hB
    · exact g_vret (pc := 148) C R dX8_fillsFar_148 hD
def DB_Mo_fillsMayBe_2 (r : TR) (l0 : Nat) (l1 : Int32) (l2 : Int32) (h : TH) (K2 : Int32 → TH → Prop) (K33 : TH → Prop) (Q : TH → Prop) : Prop :=
  ((6 ≤ l2 → K33 h) ∧ (¬ 6 ≤ l2 → ∀ i5 : Int32, i5 = h.1 l0 18 → vp_in i5 2 ∧ vp_in l2 6 ∧ ∀ h6, h6 = pI h (r l0 63) l2.toNatClampNeg (((1 : Int32) <<< ((h.1 (r l0 25) i5.toNatClampNeg) &&& 31)) - 1) → ∀ x7 : Int32, x7 = l2 + 1 → K2 x7 h6))
set_option maxRecDepth 100000 in
set_option maxHeartbeats 4000000 in
theorem WB_Mo_fillsMayBe_2 {Y : CG} {X : CX} {r : TR} {l0 : Nat} {l1 : Int32} {l2 : Int32} {h : TH} {K2 : Int32 → TH → Prop} {K33 : TH → Prop} {Q : TH → Prop} (C : Gd Y X cX8_fillsMayBe 3 RX8 1) (R : Rv Y r X Q) (t0 : TO Y l0 8) (hK2 : ∀ (k2 : Int32) (hh : TH), K2 k2 hh → G Y X 3 2 [(0, .ref l0), (1, .int l1), (2, .int k2)] [] r hh) (hK33 : ∀ (hh : TH), K33 hh → G Y X 3 33 [(0, .ref l0), (1, .int l1)] [] r hh) (hD : DB_Mo_fillsMayBe_2 r l0 l1 l2 h K2 K33 Q) : G Y X 3 2 [(0, .ref l0), (1, .int l1), (2, .int l2)] [] r h := by
  unfold DB_Mo_fillsMayBe_2 at hD
  refine g_wt (fun hw => ?_)
  refine g_iload_n (pc := 2) rfl 2 rfl C dX8_fillsMayBe_2 ?_
  refine g_bipush (pc := 3) (v := 6) (by decide) C dX8_fillsMayBe_3 ?_
  refine g_icmp_ge (pc := 5) 33 C dX8_fillsMayBe_5 (by decide) (fun c2 => ?_) (fun c2 => ?_)
  · have hD := hD.1 c2
    refine g_sub [0, 1] rfl ?_
    exact hK33 h hD
  · have hD := hD.2 c2
    refine g_aload_n (pc := 8) rfl 0 rfl C dX8_fillsMayBe_8 ?_
    have u3 : TA Y (r l0 63) 10 6 := wt_a hw t0 (by decide) (by decide) rfl
    refine g_getR (pc := 9) C fl_RX8_140 t0 rfl dX8_fillsMayBe_9 ?_
    refine g_iload_n (pc := 12) rfl 2 rfl C dX8_fillsMayBe_12 ?_
    refine g_iconst (pc := 13) (v := 1) (by decide) C dX8_fillsMayBe_13 ?_
    refine g_aload_n (pc := 14) rfl 0 rfl C dX8_fillsMayBe_14 ?_
    have u4 : TA Y (r l0 25) 10 2 := wt_a hw t0 (by decide) (by decide) rfl
    refine g_getR (pc := 15) C fl_RX8_52 t0 rfl dX8_fillsMayBe_15 ?_
    refine g_aload_n (pc := 18) rfl 0 rfl C dX8_fillsMayBe_18 ?_
    refine g_getI (pc := 19) C fl_RX8_230 t0 rfl dX8_fillsMayBe_19 ?_
    refine g_topi (fun i5 ei5 => ?_)
    have hD := hD i5 ei5
    obtain ⟨hb, hD⟩ := hD
    refine g_iald (pc := 22) C u4 hb dX8_fillsMayBe_22 ?_
    refine g_ishl (pc := 23) C dX8_fillsMayBe_23 ?_
    refine g_iconst (pc := 24) (v := 1) (by decide) C dX8_fillsMayBe_24 ?_
    refine g_isub (pc := 25) C dX8_fillsMayBe_25 ?_
    obtain ⟨hb, hD⟩ := hD
    refine g_iast (pc := 26) C u3 hb dX8_fillsMayBe_26 (fun h6 eh6 => ?_)
    have hD := hD h6 eh6
    refine g_iinc (pc := 27) (q := 2) (c := 1) (fun x7 => [(2, .int x7), (0, .ref l0), (1, .int l1)]) C dX8_fillsMayBe_27 rfl (by decide) (by decide) rfl (fun x7 ex7 => ?_)
    have hD := hD x7 ex7
    refine g_goto (pc := 30) 2 C dX8_fillsMayBe_30 (by decide) ?_
    refine g_sub [1, 2, 0] rfl ?_
    exact hK2 x7 h6 hD
def DB_Mo_fillsMayBe_35 (r : TR) (l0 : Nat) (l1 : Int32) (l2 : Int32) (h : TH) (K35 : Int32 → TH → Prop) (K66 : TH → Prop) (Q : TH → Prop) : Prop :=
  ((l1 ≤ l2 → K66 h) ∧ (¬ l1 ≤ l2 → vp_in l2 20 ∧ ∀ i15 : Int32, i15 = h.1 (r l0 62) l2.toNatClampNeg → vp_in i15 6 ∧ vp_in l2 20 ∧ vp_in (h.1 (r l0 62) l2.toNatClampNeg) 6 ∧ ∀ h17, h17 = pI h (r l0 63) ((h.1 (r l0 62) l2.toNatClampNeg).toNatClampNeg) ((h.1 (r l0 63) i15.toNatClampNeg) &&& (h.1 (r l0 61) l2.toNatClampNeg)) → ∀ x18 : Int32, x18 = l2 + 1 → K35 x18 h17))
set_option maxRecDepth 100000 in
set_option maxHeartbeats 4000000 in
theorem WB_Mo_fillsMayBe_35 {Y : CG} {X : CX} {r : TR} {l0 : Nat} {l1 : Int32} {l2 : Int32} {h : TH} {K35 : Int32 → TH → Prop} {K66 : TH → Prop} {Q : TH → Prop} (C : Gd Y X cX8_fillsMayBe 3 RX8 1) (R : Rv Y r X Q) (t0 : TO Y l0 8) (hK35 : ∀ (k2 : Int32) (hh : TH), K35 k2 hh → G Y X 3 35 [(0, .ref l0), (1, .int l1), (2, .int k2)] [] r hh) (hK66 : ∀ (hh : TH), K66 hh → G Y X 3 66 [] [] r hh) (hD : DB_Mo_fillsMayBe_35 r l0 l1 l2 h K35 K66 Q) : G Y X 3 35 [(0, .ref l0), (1, .int l1), (2, .int l2)] [] r h := by
  unfold DB_Mo_fillsMayBe_35 at hD
  refine g_wt (fun hw => ?_)
  refine g_iload_n (pc := 35) rfl 2 rfl C dX8_fillsMayBe_35 ?_
  refine g_iload_n (pc := 36) rfl 1 rfl C dX8_fillsMayBe_36 ?_
  refine g_icmp_ge (pc := 37) 66 C dX8_fillsMayBe_37 (by decide) (fun c12 => ?_) (fun c12 => ?_)
  · have hD := hD.1 c12
    refine g_sub [] rfl ?_
    exact hK66 h hD
  · have hD := hD.2 c12
    refine g_aload_n (pc := 40) rfl 0 rfl C dX8_fillsMayBe_40 ?_
    have u13 : TA Y (r l0 63) 10 6 := wt_a hw t0 (by decide) (by decide) rfl
    refine g_getR (pc := 41) C fl_RX8_140 t0 rfl dX8_fillsMayBe_41 ?_
    refine g_aload_n (pc := 44) rfl 0 rfl C dX8_fillsMayBe_44 ?_
    have u14 : TA Y (r l0 62) 10 20 := wt_a hw t0 (by decide) (by decide) rfl
    refine g_getR (pc := 45) C fl_RX8_137 t0 rfl dX8_fillsMayBe_45 ?_
    refine g_iload_n (pc := 48) rfl 2 rfl C dX8_fillsMayBe_48 ?_
    obtain ⟨hb, hD⟩ := hD
    refine g_iald (pc := 49) C u14 hb dX8_fillsMayBe_49 ?_
    refine g_dup2 (pc := 50) rfl rfl C dX8_fillsMayBe_50 ?_
    refine g_topi (fun i15 ei15 => ?_)
    have hD := hD i15 ei15
    obtain ⟨hb, hD⟩ := hD
    refine g_iald (pc := 51) C u13 hb dX8_fillsMayBe_51 ?_
    refine g_aload_n (pc := 52) rfl 0 rfl C dX8_fillsMayBe_52 ?_
    have u16 : TA Y (r l0 61) 10 20 := wt_a hw t0 (by decide) (by decide) rfl
    refine g_getR (pc := 53) C fl_RX8_134 t0 rfl dX8_fillsMayBe_53 ?_
    refine g_iload_n (pc := 56) rfl 2 rfl C dX8_fillsMayBe_56 ?_
    obtain ⟨hb, hD⟩ := hD
    refine g_iald (pc := 57) C u16 hb dX8_fillsMayBe_57 ?_
    refine g_iand (pc := 58) C dX8_fillsMayBe_58 ?_
    obtain ⟨hb, hD⟩ := hD
    refine g_iast (pc := 59) C u13 hb dX8_fillsMayBe_59 (fun h17 eh17 => ?_)
    have hD := hD h17 eh17
    refine g_iinc (pc := 60) (q := 2) (c := 1) (fun x18 => [(2, .int x18), (0, .ref l0), (1, .int l1)]) C dX8_fillsMayBe_60 rfl (by decide) (by decide) rfl (fun x18 ex18 => ?_)
    have hD := hD x18 ex18
    refine g_goto (pc := 63) 35 C dX8_fillsMayBe_63 (by decide) ?_
    refine g_sub [1, 2, 0] rfl ?_
    exact hK35 x18 h17 hD
def D_Mo_fillsMayBe (r : TR) (o : Nat) (a1 : Int32) (h : TH) (Q : TH → Prop) : Prop :=
  ∃ n, lp (fun (K : Int32 × TH → Prop) (s : Int32 × TH) => DB_Mo_fillsMayBe_2 r o a1 s.1 s.2 (fun y8 h9 => K (y8, h9)) (fun h10 => ∃ n, lp (fun (K : Int32 × TH → Prop) (s : Int32 × TH) => DB_Mo_fillsMayBe_35 r o a1 s.1 s.2 (fun y19 h20 => K (y19, h20)) (fun h21 => Q h21) Q) n (0, h10)) Q) n (0, h)
set_option maxRecDepth 100000 in
set_option maxHeartbeats 4000000 in
theorem M_Mo_fillsMayBe {Y : CG} {r : TR} {l : Launch} {o : Nat} {a1 : Int32} {h : TH} {Q : TH → Prop} (t0 : TO Y o 8) (hD : D_Mo_fillsMayBe r o a1 h Q) : Mv Y r l yX8_fillsMayBe cX8_fillsMayBe 3 1 [.ref o, .int a1] h Q := by
  unfold D_Mo_fillsMayBe at hD
  refine Mv.of RX8 rfl (by decide) (by simp [lg_sl, Value.category]) [(0, .ref o), (1, .int a1)] rfl (fun X hXl C R => ?_)
  subst hXl
  refine g_wt (fun hw => ?_)
  refine g_iconst (pc := 0) (v := 0) (by decide) C dX8_fillsMayBe_0 ?_
  refine g_istore_n (pc := 1) (fun _ => [(2, .int 0), (0, .ref o), (1, .int a1)]) C dX8_fillsMayBe_1 rfl (by decide) rfl (fun _ _ => ?_)
  obtain ⟨n, hD⟩ := hD
  refine g_sub [1, 2, 0] rfl ?_
  refine lp_run (fun s : Int32 × TH => G Y X 3 2 [(0, .ref o), (1, .int a1), (2, .int s.1)] [] r s.2) (fun K s hB hK => ?_) n (0, h) hD
  refine WB_Mo_fillsMayBe_2 C R t0 (fun y8 h9 hk => hK _ hk) (fun h10 hD => ?_) hB
  · refine g_iconst (pc := 33) (v := 0) (by decide) C dX8_fillsMayBe_33 ?_
    refine g_istore_n (pc := 34) (fun _ => [(2, .int 0), (0, .ref o), (1, .int a1)]) C dX8_fillsMayBe_34 rfl (by decide) rfl (fun _ _ => ?_)
    obtain ⟨n, hD⟩ := hD
    refine g_sub [1, 2, 0] rfl ?_
    refine lp_run (fun s : Int32 × TH => G Y X 3 35 [(0, .ref o), (1, .int a1), (2, .int s.1)] [] r s.2) (fun K s hB hK => ?_) n (0, h10) hD
    refine WB_Mo_fillsMayBe_35 C R t0 (fun y19 h20 hk => hK _ hk) (fun h21 hD => ?_) hB
    · exact g_vret (pc := 66) C R dX8_fillsMayBe_66 hD
def D_Mo_forget (r : TR) (o : Nat) (h : TH) (Q : Int32 → TH → Prop) : Prop :=
  ∀ x1 : Int32, x1 = h.1 o 60 → ∀ h2, h2 = pI h o 60 0 → Q x1 h2
set_option maxRecDepth 100000 in
set_option maxHeartbeats 4000000 in
theorem M_Mo_forget {Y : CG} {r : TR} {l : Launch} {o : Nat} {h : TH} {Q : Int32 → TH → Prop} (t0 : TO Y o 8) (hD : D_Mo_forget r o h Q) : Mi Y r l yX8_forget cX8_forget 2 .int 1 [.ref o] h Q := by
  unfold D_Mo_forget at hD
  refine Mi.of RX8 rfl (by decide) (by simp [lg_sl, Value.category]) [(0, .ref o)] rfl (fun X hXl C R => ?_)
  subst hXl
  refine g_wt (fun hw => ?_)
  refine g_aload_n (pc := 0) rfl 0 rfl C dX8_forget_0 ?_
  refine g_getI (pc := 1) C fl_RX8_258 t0 rfl dX8_forget_1 ?_
  refine g_istore_n (pc := 4) (fun x1 => [(1, .int x1), (0, .ref o)]) C dX8_forget_4 rfl (by decide) rfl (fun x1 ex1 => ?_)
  have hD := hD x1 ex1
  refine g_aload_n (pc := 5) rfl 1 rfl C dX8_forget_5 ?_
  refine g_iconst (pc := 6) (v := 0) (by decide) C dX8_forget_6 ?_
  refine g_putI (pc := 7) C fl_RX8_258 t0 rfl rfl rfl dX8_forget_7 (fun h2 eh2 => ?_)
  have hD := hD h2 eh2
  refine g_iload_n (pc := 10) rfl 0 rfl C dX8_forget_10 ?_
  exact g_iret (pc := 11) C R dX8_forget_11 hD
def DB_Mo_isWay_17 (r : TR) (l0 : Nat) (l2 : Int32) (l3 : Int32) (l4 : Int32) (h : TH) (K17 : Int32 → Int32 → Int32 → TH → Prop) (K73 : TH → Prop) (Q : Int32 → TH → Prop) : Prop :=
  ((l4 < 0 → K73 h) ∧ (¬ l4 < 0 → ∀ x7 : Int32, x7 = jrem l3 6 → ∀ x8 : Int32, x8 = l3 / 6 → vp_in l4 6 ∧ (((((h.1 (r l0 63) l4.toNatClampNeg) >>> (x7 &&& 31)) &&& 1) = 0 → Q 0 h) ∧ (¬ (((h.1 (r l0 63) l4.toNatClampNeg) >>> (x7 &&& 31)) &&& 1) = 0 → ((¬ ((l2 >>> (x7 &&& 31)) &&& 1) = 1 → ∀ x12 : Int32, x12 = l2 ||| ((1 : Int32) <<< (x7 &&& 31)) → ∀ x13 : Int32, x13 = l4 + (-1) → K17 x12 x8 x13 h) ∧ (((l2 >>> (x7 &&& 31)) &&& 1) = 1 → Q 0 h))))))
set_option maxRecDepth 100000 in
set_option maxHeartbeats 4000000 in
theorem WB_Mo_isWay_17 {Y : CG} {X : CX} {r : TR} {l0 : Nat} {l2 : Int32} {l3 : Int32} {l4 : Int32} {h : TH} {K17 : Int32 → Int32 → Int32 → TH → Prop} {K73 : TH → Prop} {Q : Int32 → TH → Prop} (C : Gd Y X cX8_isWay 6 RX8 1) (R : Ri Y r X .boolean Q) (t0 : TO Y l0 8) (hK17 : ∀ (k2 : Int32) (k3 : Int32) (k4 : Int32) (hh : TH), K17 k2 k3 k4 hh → G Y X 6 17 [(0, .ref l0), (2, .int k2), (3, .int k3), (4, .int k4)] [] r hh) (hK73 : ∀ (hh : TH), K73 hh → G Y X 6 73 [] [] r hh) (hD : DB_Mo_isWay_17 r l0 l2 l3 l4 h K17 K73 Q) : G Y X 6 17 [(0, .ref l0), (2, .int l2), (3, .int l3), (4, .int l4)] [] r h := by
  unfold DB_Mo_isWay_17 at hD
  refine g_wt (fun hw => ?_)
  refine g_iload (pc := 17) 3 rfl C dX8_isWay_17 ?_
  refine g_if_lt (pc := 19) 73 C dX8_isWay_19 (by decide) (fun c6 => ?_) (fun c6 => ?_)
  · have hD := hD.1 c6
    refine g_sub [] rfl ?_
    exact hK73 h hD
  · have hD := hD.2 c6
    refine g_iload_n (pc := 22) rfl 2 rfl C dX8_isWay_22 ?_
    refine g_bipush (pc := 23) (v := 6) (by decide) C dX8_isWay_23 ?_
    refine g_irem (pc := 25) (by decide) C dX8_isWay_25 ?_
    refine g_istore (pc := 26) (fun x7 => [(5, .int x7), (0, .ref l0), (2, .int l2), (3, .int l3), (4, .int l4)]) C dX8_isWay_26 (by decide) rfl (fun x7 ex7 => ?_)
    have hD := hD x7 ex7
    refine g_iload_n (pc := 28) rfl 3 rfl C dX8_isWay_28 ?_
    refine g_bipush (pc := 29) (v := 6) (by decide) C dX8_isWay_29 ?_
    refine g_idiv (pc := 31) (by decide) C dX8_isWay_31 ?_
    refine g_istore_n (pc := 32) (fun x8 => [(3, .int x8), (5, .int x7), (0, .ref l0), (2, .int l2), (4, .int l4)]) C dX8_isWay_32 rfl (by decide) rfl (fun x8 ex8 => ?_)
    have hD := hD x8 ex8
    refine g_aload_n (pc := 33) rfl 2 rfl C dX8_isWay_33 ?_
    have u9 : TA Y (r l0 63) 10 6 := wt_a hw t0 (by decide) (by decide) rfl
    refine g_getR (pc := 34) C fl_RX8_140 t0 rfl dX8_isWay_34 ?_
    refine g_iload (pc := 37) 4 rfl C dX8_isWay_37 ?_
    obtain ⟨hb, hD⟩ := hD
    refine g_iald (pc := 39) C u9 hb dX8_isWay_39 ?_
    refine g_iload (pc := 40) 1 rfl C dX8_isWay_40 ?_
    refine g_ishr (pc := 42) C dX8_isWay_42 ?_
    refine g_iconst (pc := 43) (v := 1) (by decide) C dX8_isWay_43 ?_
    refine g_iand (pc := 44) C dX8_isWay_44 ?_
    refine g_if_eq (pc := 45) 58 C dX8_isWay_45 (by decide) (fun c10 => ?_) (fun c10 => ?_)
    · have hD := hD.1 c10
      refine g_iconst (pc := 58) (v := 0) (by decide) C dX8_isWay_58 ?_
      exact g_zret (pc := 59) C R nz_0 dX8_isWay_59 hD
    · have hD := hD.2 c10
      refine g_iload_n (pc := 48) rfl 3 rfl C dX8_isWay_48 ?_
      refine g_iload (pc := 49) 1 rfl C dX8_isWay_49 ?_
      refine g_ishr (pc := 51) C dX8_isWay_51 ?_
      refine g_iconst (pc := 52) (v := 1) (by decide) C dX8_isWay_52 ?_
      refine g_iand (pc := 53) C dX8_isWay_53 ?_
      refine g_iconst (pc := 54) (v := 1) (by decide) C dX8_isWay_54 ?_
      refine g_icmp_ne (pc := 55) 60 C dX8_isWay_55 (by decide) (fun c11 => ?_) (fun c11 => ?_)
      · have hD := hD.1 c11
        refine g_iload_n (pc := 60) rfl 3 rfl C dX8_isWay_60 ?_
        refine g_iconst (pc := 61) (v := 1) (by decide) C dX8_isWay_61 ?_
        refine g_iload (pc := 62) 1 rfl C dX8_isWay_62 ?_
        refine g_ishl (pc := 64) C dX8_isWay_64 ?_
        refine g_ior (pc := 65) C dX8_isWay_65 ?_
        refine g_istore_n (pc := 66) (fun x12 => [(2, .int x12), (3, .int x8), (5, .int x7), (0, .ref l0), (4, .int l4)]) C dX8_isWay_66 rfl (by decide) rfl (fun x12 ex12 => ?_)
        have hD := hD x12 ex12
        refine g_iinc (pc := 67) (q := 4) (c := (-1)) (fun x13 => [(4, .int x13), (2, .int x12), (3, .int x8), (5, .int x7), (0, .ref l0)]) C dX8_isWay_67 rfl (by decide) (by decide) rfl (fun x13 ex13 => ?_)
        have hD := hD x13 ex13
        refine g_goto (pc := 70) 17 C dX8_isWay_70 (by decide) ?_
        refine g_sub [4, 1, 2, 0] rfl ?_
        exact hK17 x12 x8 x13 h hD
      · have hD := hD.2 c11
        refine g_iconst (pc := 58) (v := 0) (by decide) C dX8_isWay_58 ?_
        exact g_zret (pc := 59) C R nz_0 dX8_isWay_59 hD
def D_Mo_isWay (r : TR) (o : Nat) (a1 : Int32) (h : TH) (Q : Int32 → TH → Prop) : Prop :=
  ∀ i4 : Int32, i4 = h.1 o 18 → vp_in i4 2 ∧ ∀ x5 : Int32, x5 = (h.1 (r o 25) i4.toNatClampNeg) - 1 → ∃ n, lp (fun (K : Int32 × Int32 × Int32 × TH → Prop) (s : Int32 × Int32 × Int32 × TH) => DB_Mo_isWay_17 r o s.1 s.2.1 s.2.2.1 s.2.2.2 (fun y14 y15 y16 h17 => K (y14, y15, y16, h17)) (fun h18 => Q 1 h18) Q) n (0, a1, x5, h)
set_option maxRecDepth 100000 in
set_option maxHeartbeats 4000000 in
theorem M_Mo_isWay {Y : CG} {r : TR} {l : Launch} {o : Nat} {a1 : Int32} {h : TH} {Q : Int32 → TH → Prop} (t0 : TO Y o 8) (hD : D_Mo_isWay r o a1 h Q) : Mi Y r l yX8_isWay cX8_isWay 6 .boolean 1 [.ref o, .int a1] h Q := by
  unfold D_Mo_isWay at hD
  refine Mi.of RX8 rfl (by decide) (by simp [lg_sl, Value.category]) [(0, .ref o), (1, .int a1)] rfl (fun X hXl C R => ?_)
  subst hXl
  refine g_wt (fun hw => ?_)
  refine g_iconst (pc := 0) (v := 0) (by decide) C dX8_isWay_0 ?_
  refine g_istore_n (pc := 1) (fun _ => [(2, .int 0), (0, .ref o), (1, .int a1)]) C dX8_isWay_1 rfl (by decide) rfl (fun _ _ => ?_)
  refine g_iload_n (pc := 2) rfl 2 rfl C dX8_isWay_2 ?_
  refine g_istore_n (pc := 3) (fun _ => [(3, .int a1), (2, .int 0), (0, .ref o), (1, .int a1)]) C dX8_isWay_3 rfl (by decide) rfl (fun _ _ => ?_)
  refine g_aload_n (pc := 4) rfl 2 rfl C dX8_isWay_4 ?_
  have u3 : TA Y (r o 25) 10 2 := wt_a hw t0 (by decide) (by decide) rfl
  refine g_getR (pc := 5) C fl_RX8_52 t0 rfl dX8_isWay_5 ?_
  refine g_aload_n (pc := 8) rfl 2 rfl C dX8_isWay_8 ?_
  refine g_getI (pc := 9) C fl_RX8_230 t0 rfl dX8_isWay_9 ?_
  refine g_topi (fun i4 ei4 => ?_)
  have hD := hD i4 ei4
  obtain ⟨hb, hD⟩ := hD
  refine g_iald (pc := 12) C u3 hb dX8_isWay_12 ?_
  refine g_iconst (pc := 13) (v := 1) (by decide) C dX8_isWay_13 ?_
  refine g_isub (pc := 14) C dX8_isWay_14 ?_
  refine g_istore (pc := 15) (fun x5 => [(4, .int x5), (3, .int a1), (2, .int 0), (0, .ref o), (1, .int a1)]) C dX8_isWay_15 (by decide) rfl (fun x5 ex5 => ?_)
  have hD := hD x5 ex5
  obtain ⟨n, hD⟩ := hD
  refine g_sub [3, 2, 1, 0] rfl ?_
  refine lp_run (fun s : Int32 × Int32 × Int32 × TH => G Y X 6 17 [(0, .ref o), (2, .int s.1), (3, .int s.2.1), (4, .int s.2.2.1)] [] r s.2.2.2) (fun K s hB hK => ?_) n (0, a1, x5, h) hD
  refine WB_Mo_isWay_17 C R t0 (fun y14 y15 y16 h17 hk => hK _ hk) (fun h18 hD => ?_) hB
  · refine g_iconst (pc := 73) (v := 1) (by decide) C dX8_isWay_73 ?_
    exact g_zret (pc := 74) C R nz_1 dX8_isWay_74 hD
def DB_Mo_sixes_4 (r : TR) (l0 : Int32) (l1 : Int32) (l2 : Int32) (h : TH) (K4 : Int32 → Int32 → TH → Prop) (K20 : Int32 → TH → Prop) (Q : Int32 → TH → Prop) : Prop :=
  ((l0 ≤ l2 → K20 l1 h) ∧ (¬ l0 ≤ l2 → ∀ x4 : Int32, x4 = l1 * 6 → ∀ x5 : Int32, x5 = l2 + 1 → K4 x4 x5 h))
set_option maxRecDepth 100000 in
set_option maxHeartbeats 4000000 in
theorem WB_Mo_sixes_4 {Y : CG} {X : CX} {r : TR} {l0 : Int32} {l1 : Int32} {l2 : Int32} {h : TH} {K4 : Int32 → Int32 → TH → Prop} {K20 : Int32 → TH → Prop} {Q : Int32 → TH → Prop} (C : Gd Y X cX8_sixes 3 RX8 1) (R : Ri Y r X .int Q) (hK4 : ∀ (k1 : Int32) (k2 : Int32) (hh : TH), K4 k1 k2 hh → G Y X 3 4 [(0, .int l0), (1, .int k1), (2, .int k2)] [] r hh) (hK20 : ∀ (k1 : Int32) (hh : TH), K20 k1 hh → G Y X 3 20 [(1, .int k1)] [] r hh) (hD : DB_Mo_sixes_4 r l0 l1 l2 h K4 K20 Q) : G Y X 3 4 [(0, .int l0), (1, .int l1), (2, .int l2)] [] r h := by
  unfold DB_Mo_sixes_4 at hD
  refine g_wt (fun hw => ?_)
  refine g_iload_n (pc := 4) rfl 2 rfl C dX8_sixes_4 ?_
  refine g_iload_n (pc := 5) rfl 0 rfl C dX8_sixes_5 ?_
  refine g_icmp_ge (pc := 6) 20 C dX8_sixes_6 (by decide) (fun c3 => ?_) (fun c3 => ?_)
  · have hD := hD.1 c3
    refine g_sub [1] rfl ?_
    exact hK20 l1 h hD
  · have hD := hD.2 c3
    refine g_iload_n (pc := 9) rfl 1 rfl C dX8_sixes_9 ?_
    refine g_bipush (pc := 10) (v := 6) (by decide) C dX8_sixes_10 ?_
    refine g_imul (pc := 12) C dX8_sixes_12 ?_
    refine g_istore_n (pc := 13) (fun x4 => [(1, .int x4), (0, .int l0), (2, .int l2)]) C dX8_sixes_13 rfl (by decide) rfl (fun x4 ex4 => ?_)
    have hD := hD x4 ex4
    refine g_iinc (pc := 14) (q := 2) (c := 1) (fun x5 => [(2, .int x5), (1, .int x4), (0, .int l0)]) C dX8_sixes_14 rfl (by decide) (by decide) rfl (fun x5 ex5 => ?_)
    have hD := hD x5 ex5
    refine g_goto (pc := 17) 4 C dX8_sixes_17 (by decide) ?_
    refine g_sub [2, 1, 0] rfl ?_
    exact hK4 x4 x5 h hD
def D_Mo_sixes (r : TR) (a0 : Int32) (h : TH) (Q : Int32 → TH → Prop) : Prop :=
  ∃ n, lp (fun (K : Int32 × Int32 × TH → Prop) (s : Int32 × Int32 × TH) => DB_Mo_sixes_4 r a0 s.1 s.2.1 s.2.2 (fun y6 y7 h8 => K (y6, y7, h8)) (fun x9 h10 => Q x9 h10) Q) n (1, 0, h)
set_option maxRecDepth 100000 in
set_option maxHeartbeats 4000000 in
theorem M_Mo_sixes {Y : CG} {r : TR} {l : Launch} {a0 : Int32} {h : TH} {Q : Int32 → TH → Prop} (hD : D_Mo_sixes r a0 h Q) : Mi Y r l yX8_sixes cX8_sixes 3 .int 1 [.int a0] h Q := by
  unfold D_Mo_sixes at hD
  refine Mi.of RX8 rfl (by decide) (by simp [lg_sl, Value.category]) [(0, .int a0)] rfl (fun X hXl C R => ?_)
  subst hXl
  refine g_wt (fun hw => ?_)
  refine g_iconst (pc := 0) (v := 1) (by decide) C dX8_sixes_0 ?_
  refine g_istore_n (pc := 1) (fun _ => [(1, .int 1), (0, .int a0)]) C dX8_sixes_1 rfl (by decide) rfl (fun _ _ => ?_)
  refine g_iconst (pc := 2) (v := 0) (by decide) C dX8_sixes_2 ?_
  refine g_istore_n (pc := 3) (fun _ => [(2, .int 0), (1, .int 1), (0, .int a0)]) C dX8_sixes_3 rfl (by decide) rfl (fun _ _ => ?_)
  obtain ⟨n, hD⟩ := hD
  refine g_sub [2, 1, 0] rfl ?_
  refine lp_run (fun s : Int32 × Int32 × TH => G Y X 3 4 [(0, .int a0), (1, .int s.1), (2, .int s.2.1)] [] r s.2.2) (fun K s hB hK => ?_) n (1, 0, h) hD
  refine WB_Mo_sixes_4 C R (fun y6 y7 h8 hk => hK _ hk) (fun x9 h10 hD => ?_) hB
  · refine g_iload_n (pc := 20) rfl 0 rfl C dX8_sixes_20 ?_
    exact g_iret (pc := 21) C R dX8_sixes_21 hD
def DB_Mo_fried_23 (r : TR) (l0 : Nat) (l2 : Int32) (l3 : Int32) (h : TH) (K23 : Int32 → Int32 → TH → Prop) (K56 : Int32 → TH → Prop) (Q : Int32 → TH → Prop) : Prop :=
  ∀ i9 : Int32, i9 = h.1 l0 18 → vp_in i9 2 ∧ D_Mo_sixes r (h.1 (r l0 25) i9.toNatClampNeg) h (fun x11 h10 => ((x11 ≤ l3 → K56 l2 h10) ∧ (¬ x11 ≤ l3 → D_Mo_isWay r l0 l3 h10 (fun x14 h13 => ((x14 = 0 → ∀ x16 : Int32, x16 = l3 + 1 → K23 l2 x16 h13) ∧ (¬ x14 = 0 → ∀ x17 : Int32, x17 = l2 + 1 → ∀ x18 : Int32, x18 = l3 + 1 → K23 x17 x18 h13))))))
set_option maxRecDepth 100000 in
set_option maxHeartbeats 4000000 in
theorem WB_Mo_fried_23 {Y : CG} {X : CX} {r : TR} {l0 : Nat} {l2 : Int32} {l3 : Int32} {h : TH} {K23 : Int32 → Int32 → TH → Prop} {K56 : Int32 → TH → Prop} {Q : Int32 → TH → Prop} (C : Gd Y X cX8_fried 4 RX8 2) (R : Ri Y r X .int Q) (t0 : TO Y l0 8) (hK23 : ∀ (k2 : Int32) (k3 : Int32) (hh : TH), K23 k2 k3 hh → G Y X 4 23 [(0, .ref l0), (2, .int k2), (3, .int k3)] [] r hh) (hK56 : ∀ (k2 : Int32) (hh : TH), K56 k2 hh → G Y X 4 56 [(2, .int k2)] [] r hh) (hD : DB_Mo_fried_23 r l0 l2 l3 h K23 K56 Q) : G Y X 4 23 [(0, .ref l0), (2, .int l2), (3, .int l3)] [] r h := by
  unfold DB_Mo_fried_23 at hD
  refine g_wt (fun hw => ?_)
  refine g_iload_n (pc := 23) rfl 2 rfl C dX8_fried_23 ?_
  refine g_aload_n (pc := 24) rfl 0 rfl C dX8_fried_24 ?_
  have u8 : TA Y (r l0 25) 10 2 := wt_a hw t0 (by decide) (by decide) rfl
  refine g_getR (pc := 25) C fl_RX8_52 t0 rfl dX8_fried_25 ?_
  refine g_aload_n (pc := 28) rfl 0 rfl C dX8_fried_28 ?_
  refine g_getI (pc := 29) C fl_RX8_230 t0 rfl dX8_fried_29 ?_
  refine g_topi (fun i9 ei9 => ?_)
  have hD := hD i9 ei9
  obtain ⟨hb, hD⟩ := hD
  refine g_iald (pc := 32) C u8 hb dX8_fried_32 ?_
  refine g_callSi (pc := 33) (As := [.int (h.1 (r l0 25) i9.toNatClampNeg)]) C ms_RX8_458 (M_Mo_sixes  hD) (by decide) rfl rfl (Nat.le_of_ble_eq_true rfl) dX8_fried_33 (fun x11 h10 hD => ?_)
  refine g_icmp_ge (pc := 36) 56 C dX8_fried_36 (by decide) (fun c12 => ?_) (fun c12 => ?_)
  · have hD := hD.1 c12
    refine g_sub [1] rfl ?_
    exact hK56 l2 h10 hD
  · have hD := hD.2 c12
    refine g_aload_n (pc := 39) rfl 0 rfl C dX8_fried_39 ?_
    refine g_iload_n (pc := 40) rfl 2 rfl C dX8_fried_40 ?_
    refine g_callVi (pc := 41) (As := [.int l3]) C mv_RX8_461 (M_Mo_isWay t0 hD) t0 (by decide) rfl rfl (Nat.le_of_ble_eq_true rfl) dX8_fried_41 (fun x14 h13 hD => ?_)
    refine g_if_eq (pc := 44) 50 C dX8_fried_44 (by decide) (fun c15 => ?_) (fun c15 => ?_)
    · have hD := hD.1 c15
      refine g_iinc (pc := 50) (q := 2) (c := 1) (fun x16 => [(3, .int x16), (0, .ref l0), (2, .int l2)]) C dX8_fried_50 rfl (by decide) (by decide) rfl (fun x16 ex16 => ?_)
      have hD := hD x16 ex16
      refine g_goto (pc := 53) 23 C dX8_fried_53 (by decide) ?_
      refine g_sub [1, 2, 0] rfl ?_
      exact hK23 l2 x16 h13 hD
    · have hD := hD.2 c15
      refine g_iinc (pc := 47) (q := 1) (c := 1) (fun x17 => [(2, .int x17), (0, .ref l0), (3, .int l3)]) C dX8_fried_47 rfl (by decide) (by decide) rfl (fun x17 ex17 => ?_)
      have hD := hD x17 ex17
      refine g_iinc (pc := 50) (q := 2) (c := 1) (fun x18 => [(3, .int x18), (2, .int x17), (0, .ref l0)]) C dX8_fried_50 rfl (by decide) (by decide) rfl (fun x18 ex18 => ?_)
      have hD := hD x18 ex18
      refine g_goto (pc := 53) 23 C dX8_fried_53 (by decide) ?_
      refine g_sub [2, 1, 0] rfl ?_
      exact hK23 x17 x18 h13 hD
def D_Mo_fried (r : TR) (o : Nat) (a1 : Int32) (h : TH) (Q : Int32 → TH → Prop) : Prop :=
  D_Mo_in r a1 0 (h.1 o 60) h (fun x2 h1 => ((¬ x2 = 0 → D_Mo_fillsMayBe r o a1 h1 (fun h4 => ∃ n, lp (fun (K : Int32 × Int32 × TH → Prop) (s : Int32 × Int32 × TH) => DB_Mo_fried_23 r o s.1 s.2.1 s.2.2 (fun y19 y20 h21 => K (y19, y20, h21)) (fun x22 h23 => Q x22 h23) Q) n (0, 0, h4))) ∧ (x2 = 0 → Q (-1) h1)))
set_option maxRecDepth 100000 in
set_option maxHeartbeats 4000000 in
theorem M_Mo_fried {Y : CG} {r : TR} {l : Launch} {o : Nat} {a1 : Int32} {h : TH} {Q : Int32 → TH → Prop} (t0 : TO Y o 8) (hD : D_Mo_fried r o a1 h Q) : Mi Y r l yX8_fried cX8_fried 4 .int 2 [.ref o, .int a1] h Q := by
  unfold D_Mo_fried at hD
  refine Mi.of RX8 rfl (by decide) (by simp [lg_sl, Value.category]) [(0, .ref o), (1, .int a1)] rfl (fun X hXl C R => ?_)
  subst hXl
  refine g_wt (fun hw => ?_)
  refine g_iload_n (pc := 0) rfl 1 rfl C dX8_fried_0 ?_
  refine g_iconst (pc := 1) (v := 0) (by decide) C dX8_fried_1 ?_
  refine g_aload_n (pc := 2) rfl 0 rfl C dX8_fried_2 ?_
  refine g_getI (pc := 3) C fl_RX8_258 t0 rfl dX8_fried_3 ?_
  refine g_callSi (pc := 6) (As := [.int a1, .int 0, .int (h.1 o 60)]) C ms_RX8_303 (M_Mo_in  hD) (by decide) rfl rfl (Nat.le_of_ble_eq_true rfl) dX8_fried_6 (fun x2 h1 hD => ?_)
  refine g_if_ne (pc := 9) 14 C dX8_fried_9 (by decide) (fun c3 => ?_) (fun c3 => ?_)
  · have hD := hD.1 c3
    refine g_aload_n (pc := 14) rfl 0 rfl C dX8_fried_14 ?_
    refine g_iload_n (pc := 15) rfl 1 rfl C dX8_fried_15 ?_
    refine g_callVv (pc := 16) (As := [.int a1]) C mv_RX8_455 (M_Mo_fillsMayBe t0 hD) t0 (by decide) rfl rfl (Nat.le_of_ble_eq_true rfl) dX8_fried_16 (fun h4 hD => ?_)
    refine g_iconst (pc := 19) (v := 0) (by decide) C dX8_fried_19 ?_
    refine g_istore_n (pc := 20) (fun _ => [(2, .int 0), (0, .ref o), (1, .int a1)]) C dX8_fried_20 rfl (by decide) rfl (fun _ _ => ?_)
    refine g_iconst (pc := 21) (v := 0) (by decide) C dX8_fried_21 ?_
    refine g_istore_n (pc := 22) (fun _ => [(3, .int 0), (2, .int 0), (0, .ref o), (1, .int a1)]) C dX8_fried_22 rfl (by decide) rfl (fun _ _ => ?_)
    obtain ⟨n, hD⟩ := hD
    refine g_sub [2, 1, 0] rfl ?_
    refine lp_run (fun s : Int32 × Int32 × TH => G Y X 4 23 [(0, .ref o), (2, .int s.1), (3, .int s.2.1)] [] r s.2.2) (fun K s hB hK => ?_) n (0, 0, h4) hD
    refine WB_Mo_fried_23 C R t0 (fun y19 y20 h21 hk => hK _ hk) (fun x22 h23 hD => ?_) hB
    · refine g_iload_n (pc := 56) rfl 0 rfl C dX8_fried_56 ?_
      exact g_iret (pc := 57) C R dX8_fried_57 hD
  · have hD := hD.2 c3
    refine g_iconst (pc := 12) (v := (-1)) (by decide) C dX8_fried_12 ?_
    exact g_iret (pc := 13) C R dX8_fried_13 hD
def DB_Mo_keeps_52 (r : TR) (l0 : Nat) (l1 : Int32) (h : TH) (K52 : Int32 → TH → Prop) (K86 : TH → Prop) (Q : TH → Prop) : Prop :=
  ((512 ≤ l1 → K86 h) ∧ (¬ 512 ≤ l1 → vp_in l1 512 ∧ vp_in ((512 * (h.1 l0 54)) + l1) 15360 ∧ ∀ h6, h6 = pI h (r l0 55) (((512 * (h.1 l0 54)) + l1).toNatClampNeg) (h.1 (r l0 48) l1.toNatClampNeg) → ∀ x7 : Int32, x7 = l1 + 1 → K52 x7 h6))
set_option maxRecDepth 100000 in
set_option maxHeartbeats 4000000 in
theorem WB_Mo_keeps_52 {Y : CG} {X : CX} {r : TR} {l0 : Nat} {l1 : Int32} {h : TH} {K52 : Int32 → TH → Prop} {K86 : TH → Prop} {Q : TH → Prop} (C : Gd Y X cX8_keeps 2 RX8 2) (R : Rv Y r X Q) (t0 : TO Y l0 8) (hK52 : ∀ (k1 : Int32) (hh : TH), K52 k1 hh → G Y X 2 52 [(0, .ref l0), (1, .int k1)] [] r hh) (hK86 : ∀ (hh : TH), K86 hh → G Y X 2 86 [(0, .ref l0)] [] r hh) (hD : DB_Mo_keeps_52 r l0 l1 h K52 K86 Q) : G Y X 2 52 [(0, .ref l0), (1, .int l1)] [] r h := by
  unfold DB_Mo_keeps_52 at hD
  refine g_wt (fun hw => ?_)
  refine g_iload_n (pc := 52) rfl 1 rfl C dX8_keeps_52 ?_
  refine g_sipush (pc := 53) (v := 512) (by decide) C dX8_keeps_53 ?_
  refine g_icmp_ge (pc := 56) 86 C dX8_keeps_56 (by decide) (fun c3 => ?_) (fun c3 => ?_)
  · have hD := hD.1 c3
    refine g_sub [0] rfl ?_
    exact hK86 h hD
  · have hD := hD.2 c3
    refine g_aload_n (pc := 59) rfl 0 rfl C dX8_keeps_59 ?_
    have u4 : TA Y (r l0 55) 10 15360 := wt_a hw t0 (by decide) (by decide) rfl
    refine g_getR (pc := 60) C fl_RX8_119 t0 rfl dX8_keeps_60 ?_
    refine g_sipush (pc := 63) (v := 512) (by decide) C dX8_keeps_63 ?_
    refine g_aload_n (pc := 66) rfl 0 rfl C dX8_keeps_66 ?_
    refine g_getI (pc := 67) C fl_RX8_255 t0 rfl dX8_keeps_67 ?_
    refine g_imul (pc := 70) C dX8_keeps_70 ?_
    refine g_iload_n (pc := 71) rfl 1 rfl C dX8_keeps_71 ?_
    refine g_iadd (pc := 72) C dX8_keeps_72 ?_
    refine g_aload_n (pc := 73) rfl 0 rfl C dX8_keeps_73 ?_
    have u5 : TA Y (r l0 48) 10 512 := wt_a hw t0 (by decide) (by decide) rfl
    refine g_getR (pc := 74) C fl_RX8_110 t0 rfl dX8_keeps_74 ?_
    refine g_iload_n (pc := 77) rfl 1 rfl C dX8_keeps_77 ?_
    obtain ⟨hb, hD⟩ := hD
    refine g_iald (pc := 78) C u5 hb dX8_keeps_78 ?_
    obtain ⟨hb, hD⟩ := hD
    refine g_iast (pc := 79) C u4 hb dX8_keeps_79 (fun h6 eh6 => ?_)
    have hD := hD h6 eh6
    refine g_iinc (pc := 80) (q := 1) (c := 1) (fun x7 => [(1, .int x7), (0, .ref l0)]) C dX8_keeps_80 rfl (by decide) (by decide) rfl (fun x7 ex7 => ?_)
    have hD := hD x7 ex7
    refine g_goto (pc := 83) 52 C dX8_keeps_83 (by decide) ?_
    refine g_sub [1, 0] rfl ?_
    exact hK52 x7 h6 hD
def DB_Mo_keeps_11 (r : TR) (l0 : Nat) (l1 : Int32) (h : TH) (K11 : Int32 → TH → Prop) (K40 : TH → Prop) (Q : TH → Prop) : Prop :=
  ((14848 ≤ l1 → K40 h) ∧ (¬ 14848 ≤ l1 → ∀ i18 : Int32, i18 = l1 + 512 → vp_in i18 15360 ∧ vp_in l1 15360 ∧ ∀ h19, h19 = pI h (r l0 55) l1.toNatClampNeg (h.1 (r l0 55) i18.toNatClampNeg) → ∀ x20 : Int32, x20 = l1 + 1 → K11 x20 h19))
set_option maxRecDepth 100000 in
set_option maxHeartbeats 4000000 in
theorem WB_Mo_keeps_11 {Y : CG} {X : CX} {r : TR} {l0 : Nat} {l1 : Int32} {h : TH} {K11 : Int32 → TH → Prop} {K40 : TH → Prop} {Q : TH → Prop} (C : Gd Y X cX8_keeps 2 RX8 2) (R : Rv Y r X Q) (t0 : TO Y l0 8) (hK11 : ∀ (k1 : Int32) (hh : TH), K11 k1 hh → G Y X 2 11 [(0, .ref l0), (1, .int k1)] [] r hh) (hK40 : ∀ (hh : TH), K40 hh → G Y X 2 40 [(0, .ref l0)] [] r hh) (hD : DB_Mo_keeps_11 r l0 l1 h K11 K40 Q) : G Y X 2 11 [(0, .ref l0), (1, .int l1)] [] r h := by
  unfold DB_Mo_keeps_11 at hD
  refine g_wt (fun hw => ?_)
  refine g_iload_n (pc := 11) rfl 1 rfl C dX8_keeps_11 ?_
  refine g_sipush (pc := 12) (v := 14848) (by decide) C dX8_keeps_12 ?_
  refine g_icmp_ge (pc := 15) 40 C dX8_keeps_15 (by decide) (fun c15 => ?_) (fun c15 => ?_)
  · have hD := hD.1 c15
    refine g_sub [0] rfl ?_
    exact hK40 h hD
  · have hD := hD.2 c15
    refine g_aload_n (pc := 18) rfl 0 rfl C dX8_keeps_18 ?_
    have u16 : TA Y (r l0 55) 10 15360 := wt_a hw t0 (by decide) (by decide) rfl
    refine g_getR (pc := 19) C fl_RX8_119 t0 rfl dX8_keeps_19 ?_
    refine g_iload_n (pc := 22) rfl 1 rfl C dX8_keeps_22 ?_
    refine g_aload_n (pc := 23) rfl 0 rfl C dX8_keeps_23 ?_
    have u17 : TA Y (r l0 55) 10 15360 := wt_a hw t0 (by decide) (by decide) rfl
    refine g_getR (pc := 24) C fl_RX8_119 t0 rfl dX8_keeps_24 ?_
    refine g_iload_n (pc := 27) rfl 1 rfl C dX8_keeps_27 ?_
    refine g_sipush (pc := 28) (v := 512) (by decide) C dX8_keeps_28 ?_
    refine g_iadd (pc := 31) C dX8_keeps_31 ?_
    refine g_topi (fun i18 ei18 => ?_)
    have hD := hD i18 ei18
    obtain ⟨hb, hD⟩ := hD
    refine g_iald (pc := 32) C u17 hb dX8_keeps_32 ?_
    obtain ⟨hb, hD⟩ := hD
    refine g_iast (pc := 33) C u16 hb dX8_keeps_33 (fun h19 eh19 => ?_)
    have hD := hD h19 eh19
    refine g_iinc (pc := 34) (q := 1) (c := 1) (fun x20 => [(1, .int x20), (0, .ref l0)]) C dX8_keeps_34 rfl (by decide) (by decide) rfl (fun x20 ex20 => ?_)
    have hD := hD x20 ex20
    refine g_goto (pc := 37) 11 C dX8_keeps_37 (by decide) ?_
    refine g_sub [1, 0] rfl ?_
    exact hK11 x20 h19 hD
def D_Mo_keeps (r : TR) (o : Nat) (h : TH) (Q : TH → Prop) : Prop :=
  ((¬ (h.1 o 54) = 30 → ∃ n, lp (fun (K : Int32 × TH → Prop) (s : Int32 × TH) => DB_Mo_keeps_52 r o s.1 s.2 (fun y8 h9 => K (y8, h9)) (fun h10 => ∀ h11, h11 = pI h10 o 54 ((h10.1 o 54) + 1) → D_Mo_keepsRow r o h11 (fun h12 => Q h12)) Q) n (0, h)) ∧ ((h.1 o 54) = 30 → ∃ n, lp (fun (K : Int32 × TH → Prop) (s : Int32 × TH) => DB_Mo_keeps_11 r o s.1 s.2 (fun y21 h22 => K (y21, h22)) (fun h23 => ∀ h24, h24 = pI h23 o 54 ((h23.1 o 54) - 1) → ∃ n, lp (fun (K : Int32 × TH → Prop) (s : Int32 × TH) => DB_Mo_keeps_52 r o s.1 s.2 (fun y26 h27 => K (y26, h27)) (fun h28 => ∀ h29, h29 = pI h28 o 54 ((h28.1 o 54) + 1) → D_Mo_keepsRow r o h29 (fun h30 => Q h30)) Q) n (0, h24)) Q) n (0, h)))
set_option maxRecDepth 100000 in
set_option maxHeartbeats 4000000 in
theorem M_Mo_keeps {Y : CG} {r : TR} {l : Launch} {o : Nat} {h : TH} {Q : TH → Prop} (t0 : TO Y o 8) (hD : D_Mo_keeps r o h Q) : Mv Y r l yX8_keeps cX8_keeps 2 2 [.ref o] h Q := by
  unfold D_Mo_keeps at hD
  refine Mv.of RX8 rfl (by decide) (by simp [lg_sl, Value.category]) [(0, .ref o)] rfl (fun X hXl C R => ?_)
  subst hXl
  refine g_wt (fun hw => ?_)
  refine g_aload_n (pc := 0) rfl 0 rfl C dX8_keeps_0 ?_
  refine g_getI (pc := 1) C fl_RX8_255 t0 rfl dX8_keeps_1 ?_
  refine g_bipush (pc := 4) (v := 30) (by decide) C dX8_keeps_4 ?_
  refine g_icmp_ne (pc := 6) 50 C dX8_keeps_6 (by decide) (fun c1 => ?_) (fun c1 => ?_)
  · have hD := hD.1 c1
    refine g_iconst (pc := 50) (v := 0) (by decide) C dX8_keeps_50 ?_
    refine g_istore_n (pc := 51) (fun _ => [(1, .int 0), (0, .ref o)]) C dX8_keeps_51 rfl (by decide) rfl (fun _ _ => ?_)
    obtain ⟨n, hD⟩ := hD
    refine g_sub [1, 0] rfl ?_
    refine lp_run (fun s : Int32 × TH => G Y X 2 52 [(0, .ref o), (1, .int s.1)] [] r s.2) (fun K s hB hK => ?_) n (0, h) hD
    refine WB_Mo_keeps_52 C R t0 (fun y8 h9 hk => hK _ hk) (fun h10 hD => ?_) hB
    · refine g_aload_n (pc := 86) rfl 0 rfl C dX8_keeps_86 ?_
      refine g_dup (pc := 87) rfl C dX8_keeps_87 ?_
      refine g_getI (pc := 88) C fl_RX8_255 t0 rfl dX8_keeps_88 ?_
      refine g_iconst (pc := 91) (v := 1) (by decide) C dX8_keeps_91 ?_
      refine g_iadd (pc := 92) C dX8_keeps_92 ?_
      refine g_putI (pc := 93) C fl_RX8_255 t0 rfl rfl rfl dX8_keeps_93 (fun h11 eh11 => ?_)
      have hD := hD h11 eh11
      refine g_aload_n (pc := 96) rfl 0 rfl C dX8_keeps_96 ?_
      refine g_callVv (pc := 97) (As := []) C mv_RX8_160 (M_Mo_keepsRow t0 hD) t0 (by decide) rfl rfl (Nat.le_of_ble_eq_true rfl) dX8_keeps_97 (fun h12 hD => ?_)
      exact g_vret (pc := 100) C R dX8_keeps_100 hD
  · have hD := hD.2 c1
    refine g_iconst (pc := 9) (v := 0) (by decide) C dX8_keeps_9 ?_
    refine g_istore_n (pc := 10) (fun _ => [(1, .int 0), (0, .ref o)]) C dX8_keeps_10 rfl (by decide) rfl (fun _ _ => ?_)
    obtain ⟨n, hD⟩ := hD
    refine g_sub [1, 0] rfl ?_
    refine lp_run (fun s : Int32 × TH => G Y X 2 11 [(0, .ref o), (1, .int s.1)] [] r s.2) (fun K s hB hK => ?_) n (0, h) hD
    refine WB_Mo_keeps_11 C R t0 (fun y21 h22 hk => hK _ hk) (fun h23 hD => ?_) hB
    · refine g_aload_n (pc := 40) rfl 0 rfl C dX8_keeps_40 ?_
      refine g_dup (pc := 41) rfl C dX8_keeps_41 ?_
      refine g_getI (pc := 42) C fl_RX8_255 t0 rfl dX8_keeps_42 ?_
      refine g_iconst (pc := 45) (v := 1) (by decide) C dX8_keeps_45 ?_
      refine g_isub (pc := 46) C dX8_keeps_46 ?_
      refine g_putI (pc := 47) C fl_RX8_255 t0 rfl rfl rfl dX8_keeps_47 (fun h24 eh24 => ?_)
      have hD := hD h24 eh24
      refine g_iconst (pc := 50) (v := 0) (by decide) C dX8_keeps_50 ?_
      refine g_istore_n (pc := 51) (fun _ => [(1, .int 0), (0, .ref o)]) C dX8_keeps_51 rfl (by decide) rfl (fun _ _ => ?_)
      obtain ⟨n, hD⟩ := hD
      refine g_sub [1, 0] rfl ?_
      refine lp_run (fun s : Int32 × TH => G Y X 2 52 [(0, .ref o), (1, .int s.1)] [] r s.2) (fun K s hB hK => ?_) n (0, h24) hD
      refine WB_Mo_keeps_52 C R t0 (fun y26 h27 hk => hK _ hk) (fun h28 hD => ?_) hB
      · refine g_aload_n (pc := 86) rfl 0 rfl C dX8_keeps_86 ?_
        refine g_dup (pc := 87) rfl C dX8_keeps_87 ?_
        refine g_getI (pc := 88) C fl_RX8_255 t0 rfl dX8_keeps_88 ?_
        refine g_iconst (pc := 91) (v := 1) (by decide) C dX8_keeps_91 ?_
        refine g_iadd (pc := 92) C dX8_keeps_92 ?_
        refine g_putI (pc := 93) C fl_RX8_255 t0 rfl rfl rfl dX8_keeps_93 (fun h29 eh29 => ?_)
        have hD := hD h29 eh29
        refine g_aload_n (pc := 96) rfl 0 rfl C dX8_keeps_96 ?_
        refine g_callVv (pc := 97) (As := []) C mv_RX8_160 (M_Mo_keepsRow t0 hD) t0 (by decide) rfl rfl (Nat.le_of_ble_eq_true rfl) dX8_keeps_97 (fun h30 hD => ?_)
        exact g_vret (pc := 100) C R dX8_keeps_100 hD
def D_Mo_go (r : TR) (o : Nat) (a1 : Int32) (a2 : Int32) (h : TH) (Q : Int32 → TH → Prop) : Prop :=
  D_Mo_isBoat r o a1 h (fun x2 h1 => ((x2 = 0 → Q (-1) h1) ∧ (¬ x2 = 0 → D_Mo_in r a2 1 4 h1 (fun x5 h4 => ((¬ x5 = 0 → D_Mo_copies r o h4 (fun h7 => D_Mo_isSailing r o a1 h7 (fun x10 h9 => ((¬ x10 = 0 → D_Mo_goesBy r o a1 a2 h9 (fun x13 h12 => D_Mo_keeps r o h12 (fun h15 => Q x13 h15))) ∧ (x10 = 0 → Q (-2) h9))))) ∧ (x5 = 0 → Q (-1) h4))))))
set_option maxRecDepth 100000 in
set_option maxHeartbeats 4000000 in
theorem M_Mo_go {Y : CG} {r : TR} {l : Launch} {o : Nat} {a1 : Int32} {a2 : Int32} {h : TH} {Q : Int32 → TH → Prop} (t0 : TO Y o 8) (hD : D_Mo_go r o a1 a2 h Q) : Mi Y r l yX8_go cX8_go 4 .int 4 [.ref o, .int a1, .int a2] h Q := by
  unfold D_Mo_go at hD
  refine Mi.of RX8 rfl (by decide) (by simp [lg_sl, Value.category]) [(0, .ref o), (1, .int a1), (2, .int a2)] rfl (fun X hXl C R => ?_)
  subst hXl
  refine g_wt (fun hw => ?_)
  refine g_aload_n (pc := 0) rfl 0 rfl C dX8_go_0 ?_
  refine g_iload_n (pc := 1) rfl 1 rfl C dX8_go_1 ?_
  refine g_callVi (pc := 2) (As := [.int a1]) C mv_RX8_394 (M_Mo_isBoat t0 hD) t0 (by decide) rfl rfl (Nat.le_of_ble_eq_true rfl) dX8_go_2 (fun x2 h1 hD => ?_)
  refine g_if_eq (pc := 5) 17 C dX8_go_5 (by decide) (fun c3 => ?_) (fun c3 => ?_)
  · have hD := hD.1 c3
    refine g_iconst (pc := 17) (v := (-1)) (by decide) C dX8_go_17 ?_
    exact g_iret (pc := 18) C R dX8_go_18 hD
  · have hD := hD.2 c3
    refine g_iload_n (pc := 8) rfl 2 rfl C dX8_go_8 ?_
    refine g_iconst (pc := 9) (v := 1) (by decide) C dX8_go_9 ?_
    refine g_iconst (pc := 10) (v := 4) (by decide) C dX8_go_10 ?_
    refine g_callSi (pc := 11) (As := [.int a2, .int 1, .int 4]) C ms_RX8_303 (M_Mo_in  hD) (by decide) rfl rfl (Nat.le_of_ble_eq_true rfl) dX8_go_11 (fun x5 h4 hD => ?_)
    refine g_if_ne (pc := 14) 19 C dX8_go_14 (by decide) (fun c6 => ?_) (fun c6 => ?_)
    · have hD := hD.1 c6
      refine g_aload_n (pc := 19) rfl 0 rfl C dX8_go_19 ?_
      refine g_callVv (pc := 20) (As := []) C mv_RX8_397 (M_Mo_copies t0 hD) t0 (by decide) rfl rfl (Nat.le_of_ble_eq_true rfl) dX8_go_20 (fun h7 hD => ?_)
      refine g_aload_n (pc := 23) rfl 0 rfl C dX8_go_23 ?_
      refine g_iload_n (pc := 24) rfl 1 rfl C dX8_go_24 ?_
      refine g_callVi (pc := 25) (As := [.int a1]) C mv_RX8_347 (M_Mo_isSailing t0 hD) t0 (by decide) rfl rfl (Nat.le_of_ble_eq_true rfl) dX8_go_25 (fun x10 h9 hD => ?_)
      refine g_if_ne (pc := 28) 34 C dX8_go_28 (by decide) (fun c11 => ?_) (fun c11 => ?_)
      · have hD := hD.1 c11
        refine g_aload_n (pc := 34) rfl 0 rfl C dX8_go_34 ?_
        refine g_iload_n (pc := 35) rfl 1 rfl C dX8_go_35 ?_
        refine g_iload_n (pc := 36) rfl 2 rfl C dX8_go_36 ?_
        refine g_callVi (pc := 37) (As := [.int a1, .int a2]) C mv_RX8_379 (M_Mo_goesBy t0 hD) t0 (by decide) rfl rfl (Nat.le_of_ble_eq_true rfl) dX8_go_37 (fun x13 h12 hD => ?_)
        refine g_istore_n (pc := 40) (fun _ => [(3, .int x13), (0, .ref o), (1, .int a1), (2, .int a2)]) C dX8_go_40 rfl (by decide) rfl (fun _ _ => ?_)
        refine g_aload_n (pc := 41) rfl 1 rfl C dX8_go_41 ?_
        refine g_callVv (pc := 42) (As := []) C mv_RX8_406 (M_Mo_keeps t0 hD) t0 (by decide) rfl rfl (Nat.le_of_ble_eq_true rfl) dX8_go_42 (fun h15 hD => ?_)
        refine g_iload_n (pc := 45) rfl 0 rfl C dX8_go_45 ?_
        exact g_iret (pc := 46) C R dX8_go_46 hD
      · have hD := hD.2 c11
        refine g_bipush (pc := 31) (v := (-2)) (by decide) C dX8_go_31 ?_
        exact g_iret (pc := 33) C R dX8_go_33 hD
    · have hD := hD.2 c6
      refine g_iconst (pc := 17) (v := (-1)) (by decide) C dX8_go_17 ?_
      exact g_iret (pc := 18) C R dX8_go_18 hD
def DB_Mo_isSmeltBy_77 (r : TR) (l0 : Nat) (l1 : Int32) (l3 : Int32) (l4 : Int32) (l5 : Int32) (l6 : Int32) (l7 : Int32) (h : TH) (K27 : Int32 → Int32 → Int32 → TH → Prop) (K77 : Int32 → TH → Prop) (K140 : TH → Prop) (K164 : TH → Prop) (Q : Int32 → TH → Prop) : Prop :=
  ∀ i17 : Int32, i17 = h.1 l0 18 → vp_in i17 2 ∧ (((h.1 (r l0 25) i17.toNatClampNeg) ≤ l7 → K140 h) ∧ (¬ (h.1 (r l0 25) i17.toNatClampNeg) ≤ l7 → ((l7 = l1 → ∀ x20 : Int32, x20 = l7 + 1 → K77 x20 h) ∧ (¬ l7 = l1 → D_Mo_isSailing r l0 l7 h (fun x22 h21 => ((x22 = 0 → ∀ x24 : Int32, x24 = l7 + 1 → K77 x24 h21) ∧ (¬ x22 = 0 → vp_in l7 512 ∧ ((¬ (h21.1 (r l0 49) l7.toNatClampNeg) = l3 → ∀ x27 : Int32, x27 = l7 + 1 → K77 x27 h21) ∧ ((h21.1 (r l0 49) l7.toNatClampNeg) = l3 → ∀ i29 : Int32, i29 = 6 + l7 → vp_in i29 512 ∧ ((¬ (h21.1 (r l0 49) i29.toNatClampNeg) = l4 → ∀ x31 : Int32, x31 = l7 + 1 → K77 x31 h21) ∧ ((h21.1 (r l0 49) i29.toNatClampNeg) = l4 → Q 1 h21)))))))))))
set_option maxRecDepth 100000 in
set_option maxHeartbeats 4000000 in
theorem WB_Mo_isSmeltBy_77 {Y : CG} {X : CX} {r : TR} {l0 : Nat} {l1 : Int32} {l3 : Int32} {l4 : Int32} {l5 : Int32} {l6 : Int32} {l7 : Int32} {h : TH} {K27 : Int32 → Int32 → Int32 → TH → Prop} {K77 : Int32 → TH → Prop} {K140 : TH → Prop} {K164 : TH → Prop} {Q : Int32 → TH → Prop} (C : Gd Y X cX8_isSmeltBy 8 RX8 4) (R : Ri Y r X .boolean Q) (t0 : TO Y l0 8) (hK27 : ∀ (k3 : Int32) (k4 : Int32) (k6 : Int32) (hh : TH), K27 k3 k4 k6 hh → G Y X 8 27 [(0, .ref l0), (1, .int l1), (3, .int k3), (4, .int k4), (5, .int l5), (6, .int k6)] [] r hh) (hK77 : ∀ (k7 : Int32) (hh : TH), K77 k7 hh → G Y X 8 77 [(0, .ref l0), (1, .int l1), (3, .int l3), (4, .int l4), (5, .int l5), (6, .int l6), (7, .int k7)] [] r hh) (hK140 : ∀ (hh : TH), K140 hh → G Y X 8 140 [(0, .ref l0), (1, .int l1), (3, .int l3), (4, .int l4), (5, .int l5), (6, .int l6)] [] r hh) (hK164 : ∀ (hh : TH), K164 hh → G Y X 8 164 [] [] r hh) (hD : DB_Mo_isSmeltBy_77 r l0 l1 l3 l4 l5 l6 l7 h K27 K77 K140 K164 Q) : G Y X 8 77 [(0, .ref l0), (1, .int l1), (3, .int l3), (4, .int l4), (5, .int l5), (6, .int l6), (7, .int l7)] [] r h := by
  unfold DB_Mo_isSmeltBy_77 at hD
  refine g_wt (fun hw => ?_)
  refine g_iload (pc := 77) 6 rfl C dX8_isSmeltBy_77 ?_
  refine g_aload_n (pc := 79) rfl 0 rfl C dX8_isSmeltBy_79 ?_
  have u16 : TA Y (r l0 25) 10 2 := wt_a hw t0 (by decide) (by decide) rfl
  refine g_getR (pc := 80) C fl_RX8_52 t0 rfl dX8_isSmeltBy_80 ?_
  refine g_aload_n (pc := 83) rfl 0 rfl C dX8_isSmeltBy_83 ?_
  refine g_getI (pc := 84) C fl_RX8_230 t0 rfl dX8_isSmeltBy_84 ?_
  refine g_topi (fun i17 ei17 => ?_)
  have hD := hD i17 ei17
  obtain ⟨hb, hD⟩ := hD
  refine g_iald (pc := 87) C u16 hb dX8_isSmeltBy_87 ?_
  refine g_icmp_ge (pc := 88) 140 C dX8_isSmeltBy_88 (by decide) (fun c18 => ?_) (fun c18 => ?_)
  · have hD := hD.1 c18
    refine g_sub [0, 1, 2, 3, 4, 5] rfl ?_
    exact hK140 h hD
  · have hD := hD.2 c18
    refine g_iload (pc := 91) 6 rfl C dX8_isSmeltBy_91 ?_
    refine g_iload_n (pc := 93) rfl 1 rfl C dX8_isSmeltBy_93 ?_
    refine g_icmp_eq (pc := 94) 134 C dX8_isSmeltBy_94 (by decide) (fun c19 => ?_) (fun c19 => ?_)
    · have hD := hD.1 c19
      refine g_iinc (pc := 134) (q := 6) (c := 1) (fun x20 => [(7, .int x20), (0, .ref l0), (1, .int l1), (3, .int l3), (4, .int l4), (5, .int l5), (6, .int l6)]) C dX8_isSmeltBy_134 rfl (by decide) (by decide) rfl (fun x20 ex20 => ?_)
      have hD := hD x20 ex20
      refine g_goto (pc := 137) 77 C dX8_isSmeltBy_137 (by decide) ?_
      refine g_sub [1, 2, 3, 4, 5, 6, 0] rfl ?_
      exact hK77 x20 h hD
    · have hD := hD.2 c19
      refine g_aload_n (pc := 97) rfl 0 rfl C dX8_isSmeltBy_97 ?_
      refine g_iload (pc := 98) 6 rfl C dX8_isSmeltBy_98 ?_
      refine g_callVi (pc := 100) (As := [.int l7]) C mv_RX8_347 (M_Mo_isSailing t0 hD) t0 (by decide) rfl rfl (Nat.le_of_ble_eq_true rfl) dX8_isSmeltBy_100 (fun x22 h21 hD => ?_)
      refine g_if_eq (pc := 103) 134 C dX8_isSmeltBy_103 (by decide) (fun c23 => ?_) (fun c23 => ?_)
      · have hD := hD.1 c23
        refine g_iinc (pc := 134) (q := 6) (c := 1) (fun x24 => [(7, .int x24), (0, .ref l0), (1, .int l1), (3, .int l3), (4, .int l4), (5, .int l5), (6, .int l6)]) C dX8_isSmeltBy_134 rfl (by decide) (by decide) rfl (fun x24 ex24 => ?_)
        have hD := hD x24 ex24
        refine g_goto (pc := 137) 77 C dX8_isSmeltBy_137 (by decide) ?_
        refine g_sub [1, 2, 3, 4, 5, 6, 0] rfl ?_
        exact hK77 x24 h21 hD
      · have hD := hD.2 c23
        refine g_aload_n (pc := 106) rfl 0 rfl C dX8_isSmeltBy_106 ?_
        have u25 : TA Y (r l0 49) 10 512 := wt_a hw t0 (by decide) (by decide) rfl
        refine g_getR (pc := 107) C fl_RX8_113 t0 rfl dX8_isSmeltBy_107 ?_
        refine g_iload (pc := 110) 6 rfl C dX8_isSmeltBy_110 ?_
        obtain ⟨hb, hD⟩ := hD
        refine g_iald (pc := 112) C u25 hb dX8_isSmeltBy_112 ?_
        refine g_iload_n (pc := 113) rfl 2 rfl C dX8_isSmeltBy_113 ?_
        refine g_icmp_ne (pc := 114) 134 C dX8_isSmeltBy_114 (by decide) (fun c26 => ?_) (fun c26 => ?_)
        · have hD := hD.1 c26
          refine g_iinc (pc := 134) (q := 6) (c := 1) (fun x27 => [(7, .int x27), (0, .ref l0), (1, .int l1), (3, .int l3), (4, .int l4), (5, .int l5), (6, .int l6)]) C dX8_isSmeltBy_134 rfl (by decide) (by decide) rfl (fun x27 ex27 => ?_)
          have hD := hD x27 ex27
          refine g_goto (pc := 137) 77 C dX8_isSmeltBy_137 (by decide) ?_
          refine g_sub [1, 2, 3, 4, 5, 6, 0] rfl ?_
          exact hK77 x27 h21 hD
        · have hD := hD.2 c26
          refine g_aload_n (pc := 117) rfl 0 rfl C dX8_isSmeltBy_117 ?_
          have u28 : TA Y (r l0 49) 10 512 := wt_a hw t0 (by decide) (by decide) rfl
          refine g_getR (pc := 118) C fl_RX8_113 t0 rfl dX8_isSmeltBy_118 ?_
          refine g_bipush (pc := 121) (v := 6) (by decide) C dX8_isSmeltBy_121 ?_
          refine g_iload (pc := 123) 6 rfl C dX8_isSmeltBy_123 ?_
          refine g_iadd (pc := 125) C dX8_isSmeltBy_125 ?_
          refine g_topi (fun i29 ei29 => ?_)
          have hD := hD i29 ei29
          obtain ⟨hb, hD⟩ := hD
          refine g_iald (pc := 126) C u28 hb dX8_isSmeltBy_126 ?_
          refine g_iload (pc := 127) 3 rfl C dX8_isSmeltBy_127 ?_
          refine g_icmp_ne (pc := 129) 134 C dX8_isSmeltBy_129 (by decide) (fun c30 => ?_) (fun c30 => ?_)
          · have hD := hD.1 c30
            refine g_iinc (pc := 134) (q := 6) (c := 1) (fun x31 => [(7, .int x31), (0, .ref l0), (1, .int l1), (3, .int l3), (4, .int l4), (5, .int l5), (6, .int l6)]) C dX8_isSmeltBy_134 rfl (by decide) (by decide) rfl (fun x31 ex31 => ?_)
            have hD := hD x31 ex31
            refine g_goto (pc := 137) 77 C dX8_isSmeltBy_137 (by decide) ?_
            refine g_sub [1, 2, 3, 4, 5, 6, 0] rfl ?_
            exact hK77 x31 h21 hD
          · have hD := hD.2 c30
            refine g_iconst (pc := 132) (v := 1) (by decide) C dX8_isSmeltBy_132 ?_
            exact g_zret (pc := 133) C R nz_1 dX8_isSmeltBy_133 hD
def DB_Mo_isSmeltBy_27 (r : TR) (l0 : Nat) (l1 : Int32) (l3 : Int32) (l4 : Int32) (l5 : Int32) (l6 : Int32) (h : TH) (K27 : Int32 → Int32 → Int32 → TH → Prop) (K164 : TH → Prop) (Q : Int32 → TH → Prop) : Prop :=
  ∀ i9 : Int32, i9 = (6 * (h.1 l0 18)) + l1 → vp_in i9 12 ∧ (((h.1 (r l0 28) i9.toNatClampNeg) < l6 → K164 h) ∧ (¬ (h.1 (r l0 28) i9.toNatClampNeg) < l6 → D_Mo_isCell r l0 l3 l4 h (fun x12 h11 => ((x12 = 0 → Q 0 h11) ∧ (¬ x12 = 0 → ((l6 ≤ 0 → ∃ n, lp (fun (K : Int32 × TH → Prop) (s : Int32 × TH) => DB_Mo_isSmeltBy_77 r l0 l1 l3 l4 l5 l6 s.1 s.2 K27 (fun y32 h33 => K (y32, h33)) (fun h34 => D_Mo_eastBy r l5 h34 (fun x36 h35 => ∀ x37 : Int32, x37 = l3 + x36 → D_Mo_southBy r l5 h35 (fun x39 h38 => ∀ x40 : Int32, x40 = l4 + x39 → ∀ x41 : Int32, x41 = l6 + 1 → K27 x37 x40 x41 h38))) K164 Q) n (0, h11)) ∧ (¬ l6 ≤ 0 → D_Mo_sortAt r l0 l3 l4 h11 (fun x43 h42 => ((¬ x43 = 1 → ∃ n, lp (fun (K : Int32 × TH → Prop) (s : Int32 × TH) => DB_Mo_isSmeltBy_77 r l0 l1 l3 l4 l5 l6 s.1 s.2 K27 (fun y46 h47 => K (y46, h47)) (fun h48 => D_Mo_eastBy r l5 h48 (fun x50 h49 => ∀ x51 : Int32, x51 = l3 + x50 → D_Mo_southBy r l5 h49 (fun x53 h52 => ∀ x54 : Int32, x54 = l4 + x53 → ∀ x55 : Int32, x55 = l6 + 1 → K27 x51 x54 x55 h52))) K164 Q) n (0, h42)) ∧ (x43 = 1 → Q 0 h42))))))))))
set_option maxRecDepth 100000 in
set_option maxHeartbeats 4000000 in
theorem WB_Mo_isSmeltBy_27 {Y : CG} {X : CX} {r : TR} {l0 : Nat} {l1 : Int32} {l3 : Int32} {l4 : Int32} {l5 : Int32} {l6 : Int32} {h : TH} {K27 : Int32 → Int32 → Int32 → TH → Prop} {K164 : TH → Prop} {Q : Int32 → TH → Prop} (C : Gd Y X cX8_isSmeltBy 8 RX8 4) (R : Ri Y r X .boolean Q) (t0 : TO Y l0 8) (hK27 : ∀ (k3 : Int32) (k4 : Int32) (k6 : Int32) (hh : TH), K27 k3 k4 k6 hh → G Y X 8 27 [(0, .ref l0), (1, .int l1), (3, .int k3), (4, .int k4), (5, .int l5), (6, .int k6)] [] r hh) (hK164 : ∀ (hh : TH), K164 hh → G Y X 8 164 [] [] r hh) (hD : DB_Mo_isSmeltBy_27 r l0 l1 l3 l4 l5 l6 h K27 K164 Q) : G Y X 8 27 [(0, .ref l0), (1, .int l1), (3, .int l3), (4, .int l4), (5, .int l5), (6, .int l6)] [] r h := by
  unfold DB_Mo_isSmeltBy_27 at hD
  refine g_wt (fun hw => ?_)
  refine g_iload (pc := 27) 5 rfl C dX8_isSmeltBy_27 ?_
  refine g_aload_n (pc := 29) rfl 0 rfl C dX8_isSmeltBy_29 ?_
  have u8 : TA Y (r l0 28) 10 12 := wt_a hw t0 (by decide) (by decide) rfl
  refine g_getR (pc := 30) C fl_RX8_61 t0 rfl dX8_isSmeltBy_30 ?_
  refine g_bipush (pc := 33) (v := 6) (by decide) C dX8_isSmeltBy_33 ?_
  refine g_aload_n (pc := 35) rfl 0 rfl C dX8_isSmeltBy_35 ?_
  refine g_getI (pc := 36) C fl_RX8_230 t0 rfl dX8_isSmeltBy_36 ?_
  refine g_imul (pc := 39) C dX8_isSmeltBy_39 ?_
  refine g_iload_n (pc := 40) rfl 1 rfl C dX8_isSmeltBy_40 ?_
  refine g_iadd (pc := 41) C dX8_isSmeltBy_41 ?_
  refine g_topi (fun i9 ei9 => ?_)
  have hD := hD i9 ei9
  obtain ⟨hb, hD⟩ := hD
  refine g_iald (pc := 42) C u8 hb dX8_isSmeltBy_42 ?_
  refine g_icmp_gt (pc := 43) 164 C dX8_isSmeltBy_43 (by decide) (fun c10 => ?_) (fun c10 => ?_)
  · have hD := hD.1 c10
    refine g_sub [] rfl ?_
    exact hK164 h hD
  · have hD := hD.2 c10
    refine g_aload_n (pc := 46) rfl 0 rfl C dX8_isSmeltBy_46 ?_
    refine g_iload_n (pc := 47) rfl 2 rfl C dX8_isSmeltBy_47 ?_
    refine g_iload (pc := 48) 3 rfl C dX8_isSmeltBy_48 ?_
    refine g_callVi (pc := 50) (As := [.int l3, .int l4]) C mv_RX8_360 (M_Mo_isCell t0 hD) t0 (by decide) rfl rfl (Nat.le_of_ble_eq_true rfl) dX8_isSmeltBy_50 (fun x12 h11 hD => ?_)
    refine g_if_eq (pc := 53) 72 C dX8_isSmeltBy_53 (by decide) (fun c13 => ?_) (fun c13 => ?_)
    · have hD := hD.1 c13
      refine g_iconst (pc := 72) (v := 0) (by decide) C dX8_isSmeltBy_72 ?_
      exact g_zret (pc := 73) C R nz_0 dX8_isSmeltBy_73 hD
    · have hD := hD.2 c13
      refine g_iload (pc := 56) 5 rfl C dX8_isSmeltBy_56 ?_
      refine g_if_le (pc := 58) 74 C dX8_isSmeltBy_58 (by decide) (fun c14 => ?_) (fun c14 => ?_)
      · have hD := hD.1 c14
        refine g_iconst (pc := 74) (v := 0) (by decide) C dX8_isSmeltBy_74 ?_
        refine g_istore (pc := 75) (fun _ => [(7, .int 0), (0, .ref l0), (1, .int l1), (3, .int l3), (4, .int l4), (5, .int l5), (6, .int l6)]) C dX8_isSmeltBy_75 (by decide) rfl (fun _ _ => ?_)
        obtain ⟨n, hD⟩ := hD
        refine g_sub [1, 2, 3, 4, 5, 6, 0] rfl ?_
        refine lp_run (fun s : Int32 × TH => G Y X 8 77 [(0, .ref l0), (1, .int l1), (3, .int l3), (4, .int l4), (5, .int l5), (6, .int l6), (7, .int s.1)] [] r s.2) (fun K s hB hK => ?_) n (0, h11) hD
        refine WB_Mo_isSmeltBy_77 C R t0 hK27 (fun y32 h33 hk => hK _ hk) (fun h34 hD => ?_) hK164 hB
        · refine g_iload_n (pc := 140) rfl 2 rfl C dX8_isSmeltBy_140 ?_
          refine g_iload (pc := 141) 4 rfl C dX8_isSmeltBy_141 ?_
          refine g_callSi (pc := 143) (As := [.int l5]) C ms_RX8_354 (M_Mo_eastBy  hD) (by decide) rfl rfl (Nat.le_of_ble_eq_true rfl) dX8_isSmeltBy_143 (fun x36 h35 hD => ?_)
          refine g_iadd (pc := 146) C dX8_isSmeltBy_146 ?_
          refine g_istore_n (pc := 147) (fun x37 => [(3, .int x37), (0, .ref l0), (1, .int l1), (4, .int l4), (5, .int l5), (6, .int l6)]) C dX8_isSmeltBy_147 rfl (by decide) rfl (fun x37 ex37 => ?_)
          have hD := hD x37 ex37
          refine g_iload (pc := 148) 3 rfl C dX8_isSmeltBy_148 ?_
          refine g_iload (pc := 150) 4 rfl C dX8_isSmeltBy_150 ?_
          refine g_callSi (pc := 152) (As := [.int l5]) C ms_RX8_357 (M_Mo_southBy  hD) (by decide) rfl rfl (Nat.le_of_ble_eq_true rfl) dX8_isSmeltBy_152 (fun x39 h38 hD => ?_)
          refine g_iadd (pc := 155) C dX8_isSmeltBy_155 ?_
          refine g_istore (pc := 156) (fun x40 => [(4, .int x40), (3, .int x37), (0, .ref l0), (1, .int l1), (5, .int l5), (6, .int l6)]) C dX8_isSmeltBy_156 (by decide) rfl (fun x40 ex40 => ?_)
          have hD := hD x40 ex40
          refine g_iinc (pc := 158) (q := 5) (c := 1) (fun x41 => [(6, .int x41), (4, .int x40), (3, .int x37), (0, .ref l0), (1, .int l1), (5, .int l5)]) C dX8_isSmeltBy_158 rfl (by decide) (by decide) rfl (fun x41 ex41 => ?_)
          have hD := hD x41 ex41
          refine g_goto (pc := 161) 27 C dX8_isSmeltBy_161 (by decide) ?_
          refine g_sub [3, 4, 2, 1, 5, 0] rfl ?_
          exact hK27 x37 x40 x41 h38 hD
      · have hD := hD.2 c14
        refine g_aload_n (pc := 61) rfl 0 rfl C dX8_isSmeltBy_61 ?_
        refine g_iload_n (pc := 62) rfl 2 rfl C dX8_isSmeltBy_62 ?_
        refine g_iload (pc := 63) 3 rfl C dX8_isSmeltBy_63 ?_
        refine g_callVi (pc := 65) (As := [.int l3, .int l4]) C mv_RX8_319 (M_Mo_sortAt t0 hD) t0 (by decide) rfl rfl (Nat.le_of_ble_eq_true rfl) dX8_isSmeltBy_65 (fun x43 h42 hD => ?_)
        refine g_iconst (pc := 68) (v := 1) (by decide) C dX8_isSmeltBy_68 ?_
        refine g_icmp_ne (pc := 69) 74 C dX8_isSmeltBy_69 (by decide) (fun c44 => ?_) (fun c44 => ?_)
        · have hD := hD.1 c44
          refine g_iconst (pc := 74) (v := 0) (by decide) C dX8_isSmeltBy_74 ?_
          refine g_istore (pc := 75) (fun _ => [(7, .int 0), (0, .ref l0), (1, .int l1), (3, .int l3), (4, .int l4), (5, .int l5), (6, .int l6)]) C dX8_isSmeltBy_75 (by decide) rfl (fun _ _ => ?_)
          obtain ⟨n, hD⟩ := hD
          refine g_sub [1, 2, 3, 4, 5, 6, 0] rfl ?_
          refine lp_run (fun s : Int32 × TH => G Y X 8 77 [(0, .ref l0), (1, .int l1), (3, .int l3), (4, .int l4), (5, .int l5), (6, .int l6), (7, .int s.1)] [] r s.2) (fun K s hB hK => ?_) n (0, h42) hD
          refine WB_Mo_isSmeltBy_77 C R t0 hK27 (fun y46 h47 hk => hK _ hk) (fun h48 hD => ?_) hK164 hB
          · refine g_iload_n (pc := 140) rfl 2 rfl C dX8_isSmeltBy_140 ?_
            refine g_iload (pc := 141) 4 rfl C dX8_isSmeltBy_141 ?_
            refine g_callSi (pc := 143) (As := [.int l5]) C ms_RX8_354 (M_Mo_eastBy  hD) (by decide) rfl rfl (Nat.le_of_ble_eq_true rfl) dX8_isSmeltBy_143 (fun x50 h49 hD => ?_)
            refine g_iadd (pc := 146) C dX8_isSmeltBy_146 ?_
            refine g_istore_n (pc := 147) (fun x51 => [(3, .int x51), (0, .ref l0), (1, .int l1), (4, .int l4), (5, .int l5), (6, .int l6)]) C dX8_isSmeltBy_147 rfl (by decide) rfl (fun x51 ex51 => ?_)
            have hD := hD x51 ex51
            refine g_iload (pc := 148) 3 rfl C dX8_isSmeltBy_148 ?_
            refine g_iload (pc := 150) 4 rfl C dX8_isSmeltBy_150 ?_
            refine g_callSi (pc := 152) (As := [.int l5]) C ms_RX8_357 (M_Mo_southBy  hD) (by decide) rfl rfl (Nat.le_of_ble_eq_true rfl) dX8_isSmeltBy_152 (fun x53 h52 hD => ?_)
            refine g_iadd (pc := 155) C dX8_isSmeltBy_155 ?_
            refine g_istore (pc := 156) (fun x54 => [(4, .int x54), (3, .int x51), (0, .ref l0), (1, .int l1), (5, .int l5), (6, .int l6)]) C dX8_isSmeltBy_156 (by decide) rfl (fun x54 ex54 => ?_)
            have hD := hD x54 ex54
            refine g_iinc (pc := 158) (q := 5) (c := 1) (fun x55 => [(6, .int x55), (4, .int x54), (3, .int x51), (0, .ref l0), (1, .int l1), (5, .int l5)]) C dX8_isSmeltBy_158 rfl (by decide) (by decide) rfl (fun x55 ex55 => ?_)
            have hD := hD x55 ex55
            refine g_goto (pc := 161) 27 C dX8_isSmeltBy_161 (by decide) ?_
            refine g_sub [3, 4, 2, 1, 5, 0] rfl ?_
            exact hK27 x51 x54 x55 h52 hD
        · have hD := hD.2 c44
          refine g_iconst (pc := 72) (v := 0) (by decide) C dX8_isSmeltBy_72 ?_
          exact g_zret (pc := 73) C R nz_0 dX8_isSmeltBy_73 hD
def D_Mo_isSmeltBy (r : TR) (o : Nat) (a1 : Int32) (a2 : Int32) (h : TH) (Q : Int32 → TH → Prop) : Prop :=
  ∀ x1 : Int32, x1 = jrem a2 8 → ∀ x2 : Int32, x2 = a2 / 8 → D_Mo_windIn r o (h.1 (r o 49) ((30 : Int32).toNatClampNeg)) h (fun x5 h4 => ∃ n, lp (fun (K : Int32 × Int32 × Int32 × TH → Prop) (s : Int32 × Int32 × Int32 × TH) => DB_Mo_isSmeltBy_27 r o a1 s.1 s.2.1 x5 s.2.2.1 s.2.2.2 (fun y56 y57 y58 h59 => K (y56, y57, y58, h59)) (fun h60 => Q 0 h60) Q) n (x1, x2, 0, h4))
set_option maxRecDepth 100000 in
set_option maxHeartbeats 4000000 in
theorem M_Mo_isSmeltBy {Y : CG} {r : TR} {l : Launch} {o : Nat} {a1 : Int32} {a2 : Int32} {h : TH} {Q : Int32 → TH → Prop} (t0 : TO Y o 8) (hD : D_Mo_isSmeltBy r o a1 a2 h Q) : Mi Y r l yX8_isSmeltBy cX8_isSmeltBy 8 .boolean 4 [.ref o, .int a1, .int a2] h Q := by
  unfold D_Mo_isSmeltBy at hD
  refine Mi.of RX8 rfl (by decide) (by simp [lg_sl, Value.category]) [(0, .ref o), (1, .int a1), (2, .int a2)] rfl (fun X hXl C R => ?_)
  subst hXl
  refine g_wt (fun hw => ?_)
  refine g_iload_n (pc := 0) rfl 2 rfl C dX8_isSmeltBy_0 ?_
  refine g_bipush (pc := 1) (v := 8) (by decide) C dX8_isSmeltBy_1 ?_
  refine g_irem (pc := 3) (by decide) C dX8_isSmeltBy_3 ?_
  refine g_istore_n (pc := 4) (fun x1 => [(3, .int x1), (0, .ref o), (1, .int a1), (2, .int a2)]) C dX8_isSmeltBy_4 rfl (by decide) rfl (fun x1 ex1 => ?_)
  have hD := hD x1 ex1
  refine g_iload_n (pc := 5) rfl 3 rfl C dX8_isSmeltBy_5 ?_
  refine g_bipush (pc := 6) (v := 8) (by decide) C dX8_isSmeltBy_6 ?_
  refine g_idiv (pc := 8) (by decide) C dX8_isSmeltBy_8 ?_
  refine g_istore (pc := 9) (fun x2 => [(4, .int x2), (3, .int x1), (0, .ref o), (1, .int a1), (2, .int a2)]) C dX8_isSmeltBy_9 (by decide) rfl (fun x2 ex2 => ?_)
  have hD := hD x2 ex2
  refine g_aload_n (pc := 11) rfl 2 rfl C dX8_isSmeltBy_11 ?_
  refine g_aload_n (pc := 12) rfl 2 rfl C dX8_isSmeltBy_12 ?_
  have u3 : TA Y (r o 49) 10 512 := wt_a hw t0 (by decide) (by decide) rfl
  refine g_getR (pc := 13) C fl_RX8_113 t0 rfl dX8_isSmeltBy_13 ?_
  refine g_bipush (pc := 16) (v := 30) (by decide) C dX8_isSmeltBy_16 ?_
  refine g_iald (pc := 18) C u3 (by unfold vp_in; decide) dX8_isSmeltBy_18 ?_
  refine g_callVi (pc := 19) (As := [.int (h.1 (r o 49) ((30 : Int32).toNatClampNeg))]) C mv_RX8_344 (M_Mo_windIn t0 hD) t0 (by decide) rfl rfl (Nat.le_of_ble_eq_true rfl) dX8_isSmeltBy_19 (fun x5 h4 hD => ?_)
  refine g_istore (pc := 22) (fun _ => [(5, .int x5), (4, .int x2), (3, .int x1), (0, .ref o), (1, .int a1), (2, .int a2)]) C dX8_isSmeltBy_22 (by decide) rfl (fun _ _ => ?_)
  refine g_iconst (pc := 24) (v := 0) (by decide) C dX8_isSmeltBy_24 ?_
  refine g_istore (pc := 25) (fun _ => [(6, .int 0), (5, .int x5), (4, .int x2), (3, .int x1), (0, .ref o), (1, .int a1), (2, .int a2)]) C dX8_isSmeltBy_25 (by decide) rfl (fun _ _ => ?_)
  obtain ⟨n, hD⟩ := hD
  refine g_sub [4, 5, 3, 2, 1, 0] rfl ?_
  refine lp_run (fun s : Int32 × Int32 × Int32 × TH => G Y X 8 27 [(0, .ref o), (1, .int a1), (3, .int s.1), (4, .int s.2.1), (5, .int x5), (6, .int s.2.2.1)] [] r s.2.2.2) (fun K s hB hK => ?_) n (x1, x2, 0, h4) hD
  refine WB_Mo_isSmeltBy_27 C R t0 (fun y56 y57 y58 h59 hk => hK _ hk) (fun h60 hD => ?_) hB
  · refine g_iconst (pc := 164) (v := 0) (by decide) C dX8_isSmeltBy_164 ?_
    exact g_zret (pc := 165) C R nz_0 dX8_isSmeltBy_165 hD
def DB_Mo_hidden_41 (r : TR) (l0 : Nat) (l1 : Int32) (l2 : Int32) (h : TH) (K41 : Int32 → TH → Prop) (K87 : TH → Prop) (Q : Int32 → TH → Prop) : Prop :=
  ((40 ≤ l2 → K87 h) ∧ (¬ 40 ≤ l2 → ∀ i16 : Int32, i16 = 6 + l1 → vp_in i16 512 ∧ vp_in l1 512 ∧ ((¬ l2 = ((8 * (h.1 (r l0 49) i16.toNatClampNeg)) + (h.1 (r l0 49) l1.toNatClampNeg)) → vp_in l2 40 ∧ ∀ h19, h19 = pI h (r l0 57) l2.toNatClampNeg (vp_nar .boolean 0) → ∀ x20 : Int32, x20 = l2 + 1 → K41 x20 h19) ∧ (l2 = ((8 * (h.1 (r l0 49) i16.toNatClampNeg)) + (h.1 (r l0 49) l1.toNatClampNeg)) → vp_in l2 40 ∧ ∀ h21, h21 = pI h (r l0 57) l2.toNatClampNeg (vp_nar .boolean 1) → ∀ x22 : Int32, x22 = l2 + 1 → K41 x22 h21))))
set_option maxRecDepth 100000 in
set_option maxHeartbeats 4000000 in
theorem WB_Mo_hidden_41 {Y : CG} {X : CX} {r : TR} {l0 : Nat} {l1 : Int32} {l2 : Int32} {h : TH} {K41 : Int32 → TH → Prop} {K87 : TH → Prop} {Q : Int32 → TH → Prop} (C : Gd Y X cX8_hidden 6 RX8 6) (R : Ri Y r X .int Q) (t0 : TO Y l0 8) (hK41 : ∀ (k2 : Int32) (hh : TH), K41 k2 hh → G Y X 6 41 [(0, .ref l0), (1, .int l1), (2, .int k2)] [] r hh) (hK87 : ∀ (hh : TH), K87 hh → G Y X 6 87 [(0, .ref l0), (1, .int l1)] [] r hh) (hD : DB_Mo_hidden_41 r l0 l1 l2 h K41 K87 Q) : G Y X 6 41 [(0, .ref l0), (1, .int l1), (2, .int l2)] [] r h := by
  unfold DB_Mo_hidden_41 at hD
  refine g_wt (fun hw => ?_)
  refine g_iload_n (pc := 41) rfl 2 rfl C dX8_hidden_41 ?_
  refine g_bipush (pc := 42) (v := 40) (by decide) C dX8_hidden_42 ?_
  refine g_icmp_ge (pc := 44) 87 C dX8_hidden_44 (by decide) (fun c13 => ?_) (fun c13 => ?_)
  · have hD := hD.1 c13
    refine g_sub [0, 1] rfl ?_
    exact hK87 h hD
  · have hD := hD.2 c13
    refine g_aload_n (pc := 47) rfl 0 rfl C dX8_hidden_47 ?_
    have u14 : TA Y (r l0 57) 12 40 := wt_a hw t0 (by decide) (by decide) rfl
    refine g_getR (pc := 48) C fl_RX8_125 t0 rfl dX8_hidden_48 ?_
    refine g_iload_n (pc := 51) rfl 2 rfl C dX8_hidden_51 ?_
    refine g_iload_n (pc := 52) rfl 2 rfl C dX8_hidden_52 ?_
    refine g_bipush (pc := 53) (v := 8) (by decide) C dX8_hidden_53 ?_
    refine g_aload_n (pc := 55) rfl 0 rfl C dX8_hidden_55 ?_
    have u15 : TA Y (r l0 49) 10 512 := wt_a hw t0 (by decide) (by decide) rfl
    refine g_getR (pc := 56) C fl_RX8_113 t0 rfl dX8_hidden_56 ?_
    refine g_bipush (pc := 59) (v := 6) (by decide) C dX8_hidden_59 ?_
    refine g_iload_n (pc := 61) rfl 1 rfl C dX8_hidden_61 ?_
    refine g_iadd (pc := 62) C dX8_hidden_62 ?_
    refine g_topi (fun i16 ei16 => ?_)
    have hD := hD i16 ei16
    obtain ⟨hb, hD⟩ := hD
    refine g_iald (pc := 63) C u15 hb dX8_hidden_63 ?_
    refine g_imul (pc := 64) C dX8_hidden_64 ?_
    refine g_aload_n (pc := 65) rfl 0 rfl C dX8_hidden_65 ?_
    have u17 : TA Y (r l0 49) 10 512 := wt_a hw t0 (by decide) (by decide) rfl
    refine g_getR (pc := 66) C fl_RX8_113 t0 rfl dX8_hidden_66 ?_
    refine g_iload_n (pc := 69) rfl 1 rfl C dX8_hidden_69 ?_
    obtain ⟨hb, hD⟩ := hD
    refine g_iald (pc := 70) C u17 hb dX8_hidden_70 ?_
    refine g_iadd (pc := 71) C dX8_hidden_71 ?_
    refine g_icmp_ne (pc := 72) 79 C dX8_hidden_72 (by decide) (fun c18 => ?_) (fun c18 => ?_)
    · have hD := hD.1 c18
      refine g_iconst (pc := 79) (v := 0) (by decide) C dX8_hidden_79 ?_
      obtain ⟨hb, hD⟩ := hD
      refine g_zast (pc := 80) C u14 hb dX8_hidden_80 (fun h19 eh19 => ?_)
      have hD := hD h19 eh19
      refine g_iinc (pc := 81) (q := 2) (c := 1) (fun x20 => [(2, .int x20), (0, .ref l0), (1, .int l1)]) C dX8_hidden_81 rfl (by decide) (by decide) rfl (fun x20 ex20 => ?_)
      have hD := hD x20 ex20
      refine g_goto (pc := 84) 41 C dX8_hidden_84 (by decide) ?_
      refine g_sub [1, 2, 0] rfl ?_
      exact hK41 x20 h19 hD
    · have hD := hD.2 c18
      refine g_iconst (pc := 75) (v := 1) (by decide) C dX8_hidden_75 ?_
      refine g_goto (pc := 76) 80 C dX8_hidden_76 (by decide) ?_
      obtain ⟨hb, hD⟩ := hD
      refine g_zast (pc := 80) C u14 hb dX8_hidden_80 (fun h21 eh21 => ?_)
      have hD := hD h21 eh21
      refine g_iinc (pc := 81) (q := 2) (c := 1) (fun x22 => [(2, .int x22), (0, .ref l0), (1, .int l1)]) C dX8_hidden_81 rfl (by decide) (by decide) rfl (fun x22 ex22 => ?_)
      have hD := hD x22 ex22
      refine g_goto (pc := 84) 41 C dX8_hidden_84 (by decide) ?_
      refine g_sub [1, 2, 0] rfl ?_
      exact hK41 x22 h21 hD
def DJ_Mo_hidden_199 (r : TR) (l0 : Nat) (l1 : Int32) (l2 : Int32) (l4 : Int32) (l5 : Int32) (s0 : Int32) (h : TH) (K94 : Int32 → TH → Prop) (K109 : Int32 → Int32 → TH → Prop) (K250 : Int32 → TH → Prop) (K292 : TH → Prop) (Q : Int32 → TH → Prop) : Prop :=
  ((l5 = 0 → vp_in l4 40 ∧ ∀ h42, h42 = pI h (r l0 58) l4.toNatClampNeg (vp_nar .boolean 0) → ∀ x43 : Int32, x43 = l4 + 1 → K109 s0 x43 h42) ∧ (¬ l5 = 0 → D_Mo_sortAt r l0 (jrem l4 8) (l4 / 8) h (fun x45 h44 => ((¬ x45 = 0 → vp_in l4 40 ∧ ∀ h47, h47 = pI h44 (r l0 58) l4.toNatClampNeg (vp_nar .boolean 0) → ∀ x48 : Int32, x48 = l4 + 1 → K109 s0 x48 h47) ∧ (x45 = 0 → D_Mo_isSmeltBy r l0 l1 l4 h44 (fun x50 h49 => ((¬ x50 = 0 → vp_in l4 40 ∧ ∀ h52, h52 = pI h49 (r l0 58) l4.toNatClampNeg (vp_nar .boolean 0) → ∀ x53 : Int32, x53 = l4 + 1 → K109 s0 x53 h52) ∧ (x50 = 0 → vp_in l4 40 ∧ ∀ h54, h54 = pI h49 (r l0 58) l4.toNatClampNeg (vp_nar .boolean 1) → ∀ x55 : Int32, x55 = l4 + 1 → K109 s0 x55 h54))))))))
set_option maxRecDepth 100000 in
set_option maxHeartbeats 4000000 in
theorem WJ_Mo_hidden_199 {Y : CG} {X : CX} {r : TR} {l0 : Nat} {l1 : Int32} {l2 : Int32} {l4 : Int32} {l5 : Int32} {s0 : Int32} {h : TH} {K94 : Int32 → TH → Prop} {K109 : Int32 → Int32 → TH → Prop} {K250 : Int32 → TH → Prop} {K292 : TH → Prop} {Q : Int32 → TH → Prop} (C : Gd Y X cX8_hidden 6 RX8 6) (R : Ri Y r X .int Q) (t0 : TO Y l0 8) (hK94 : ∀ (k2 : Int32) (hh : TH), K94 k2 hh → G Y X 6 94 [(0, .ref l0), (1, .int l1), (2, .int k2)] [] r hh) (hK109 : ∀ (k3 : Int32) (k4 : Int32) (hh : TH), K109 k3 k4 hh → G Y X 6 109 [(0, .ref l0), (1, .int l1), (2, .int l2), (3, .int k3), (4, .int k4)] [] r hh) (hK250 : ∀ (k3 : Int32) (hh : TH), K250 k3 hh → G Y X 6 250 [(0, .ref l0), (1, .int l1), (2, .int l2), (3, .int k3)] [] r hh) (hK292 : ∀ (hh : TH), K292 hh → G Y X 6 292 [] [] r hh) (hD : DJ_Mo_hidden_199 r l0 l1 l2 l4 l5 s0 h K94 K109 K250 K292 Q) : G Y X 6 199 [(0, .ref l0), (1, .int l1), (2, .int l2), (4, .int l4), (5, .int l5)] [.int s0] r h := by
  unfold DJ_Mo_hidden_199 at hD
  refine g_wt (fun hw => ?_)
  refine g_istore_n (pc := 199) (fun _ => [(3, .int s0), (0, .ref l0), (1, .int l1), (2, .int l2), (4, .int l4), (5, .int l5)]) C dX8_hidden_199 rfl (by decide) rfl (fun _ _ => ?_)
  refine g_aload_n (pc := 200) rfl 1 rfl C dX8_hidden_200 ?_
  have u40 : TA Y (r l0 58) 12 40 := wt_a hw t0 (by decide) (by decide) rfl
  refine g_getR (pc := 201) C fl_RX8_128 t0 rfl dX8_hidden_201 ?_
  refine g_iload (pc := 204) 4 rfl C dX8_hidden_204 ?_
  refine g_iload (pc := 206) 5 rfl C dX8_hidden_206 ?_
  refine g_if_eq (pc := 208) 242 C dX8_hidden_208 (by decide) (fun c41 => ?_) (fun c41 => ?_)
  · have hD := hD.1 c41
    refine g_iconst (pc := 242) (v := 0) (by decide) C dX8_hidden_242 ?_
    obtain ⟨hb, hD⟩ := hD
    refine g_zast (pc := 243) C u40 hb dX8_hidden_243 (fun h42 eh42 => ?_)
    have hD := hD h42 eh42
    refine g_iinc (pc := 244) (q := 4) (c := 1) (fun x43 => [(4, .int x43), (3, .int s0), (0, .ref l0), (1, .int l1), (2, .int l2), (5, .int l5)]) C dX8_hidden_244 rfl (by decide) (by decide) rfl (fun x43 ex43 => ?_)
    have hD := hD x43 ex43
    refine g_goto (pc := 247) 109 C dX8_hidden_247 (by decide) ?_
    refine g_sub [2, 3, 4, 1, 0] rfl ?_
    exact hK109 s0 x43 h42 hD
  · have hD := hD.2 c41
    refine g_aload_n (pc := 211) rfl 1 rfl C dX8_hidden_211 ?_
    refine g_iload (pc := 212) 4 rfl C dX8_hidden_212 ?_
    refine g_bipush (pc := 214) (v := 8) (by decide) C dX8_hidden_214 ?_
    refine g_irem (pc := 216) (by decide) C dX8_hidden_216 ?_
    refine g_iload (pc := 217) 4 rfl C dX8_hidden_217 ?_
    refine g_bipush (pc := 219) (v := 8) (by decide) C dX8_hidden_219 ?_
    refine g_idiv (pc := 221) (by decide) C dX8_hidden_221 ?_
    refine g_callVi (pc := 222) (As := [.int (jrem l4 8), .int (l4 / 8)]) C mv_RX8_319 (M_Mo_sortAt t0 hD) t0 (by decide) rfl rfl (Nat.le_of_ble_eq_true rfl) dX8_hidden_222 (fun x45 h44 hD => ?_)
    refine g_if_ne (pc := 225) 242 C dX8_hidden_225 (by decide) (fun c46 => ?_) (fun c46 => ?_)
    · have hD := hD.1 c46
      refine g_iconst (pc := 242) (v := 0) (by decide) C dX8_hidden_242 ?_
      obtain ⟨hb, hD⟩ := hD
      refine g_zast (pc := 243) C u40 hb dX8_hidden_243 (fun h47 eh47 => ?_)
      have hD := hD h47 eh47
      refine g_iinc (pc := 244) (q := 4) (c := 1) (fun x48 => [(4, .int x48), (3, .int s0), (0, .ref l0), (1, .int l1), (2, .int l2), (5, .int l5)]) C dX8_hidden_244 rfl (by decide) (by decide) rfl (fun x48 ex48 => ?_)
      have hD := hD x48 ex48
      refine g_goto (pc := 247) 109 C dX8_hidden_247 (by decide) ?_
      refine g_sub [2, 3, 4, 1, 0] rfl ?_
      exact hK109 s0 x48 h47 hD
    · have hD := hD.2 c46
      refine g_aload_n (pc := 228) rfl 1 rfl C dX8_hidden_228 ?_
      refine g_iload_n (pc := 229) rfl 2 rfl C dX8_hidden_229 ?_
      refine g_iload (pc := 230) 4 rfl C dX8_hidden_230 ?_
      refine g_callVi (pc := 232) (As := [.int l1, .int l4]) C mv_RX8_434 (M_Mo_isSmeltBy t0 hD) t0 (by decide) rfl rfl (Nat.le_of_ble_eq_true rfl) dX8_hidden_232 (fun x50 h49 hD => ?_)
      refine g_if_ne (pc := 235) 242 C dX8_hidden_235 (by decide) (fun c51 => ?_) (fun c51 => ?_)
      · have hD := hD.1 c51
        refine g_iconst (pc := 242) (v := 0) (by decide) C dX8_hidden_242 ?_
        obtain ⟨hb, hD⟩ := hD
        refine g_zast (pc := 243) C u40 hb dX8_hidden_243 (fun h52 eh52 => ?_)
        have hD := hD h52 eh52
        refine g_iinc (pc := 244) (q := 4) (c := 1) (fun x53 => [(4, .int x53), (3, .int s0), (0, .ref l0), (1, .int l1), (2, .int l2), (5, .int l5)]) C dX8_hidden_244 rfl (by decide) (by decide) rfl (fun x53 ex53 => ?_)
        have hD := hD x53 ex53
        refine g_goto (pc := 247) 109 C dX8_hidden_247 (by decide) ?_
        refine g_sub [2, 3, 4, 1, 0] rfl ?_
        exact hK109 s0 x53 h52 hD
      · have hD := hD.2 c51
        refine g_iconst (pc := 238) (v := 1) (by decide) C dX8_hidden_238 ?_
        refine g_goto (pc := 239) 243 C dX8_hidden_239 (by decide) ?_
        obtain ⟨hb, hD⟩ := hD
        refine g_zast (pc := 243) C u40 hb dX8_hidden_243 (fun h54 eh54 => ?_)
        have hD := hD h54 eh54
        refine g_iinc (pc := 244) (q := 4) (c := 1) (fun x55 => [(4, .int x55), (3, .int s0), (0, .ref l0), (1, .int l1), (2, .int l2), (5, .int l5)]) C dX8_hidden_244 rfl (by decide) (by decide) rfl (fun x55 ex55 => ?_)
        have hD := hD x55 ex55
        refine g_goto (pc := 247) 109 C dX8_hidden_247 (by decide) ?_
        refine g_sub [2, 3, 4, 1, 0] rfl ?_
        exact hK109 s0 x55 h54 hD
def DJ_Mo_hidden_194 (r : TR) (l0 : Nat) (l1 : Int32) (l2 : Int32) (l4 : Int32) (l5 : Int32) (h : TH) (K94 : Int32 → TH → Prop) (K109 : Int32 → Int32 → TH → Prop) (K250 : Int32 → TH → Prop) (K292 : TH → Prop) (Q : Int32 → TH → Prop) : Prop :=
  DJ_Mo_hidden_199 r l0 l1 l2 l4 l5 1 h (K94) (K109) (K250) (K292) Q
set_option maxRecDepth 100000 in
set_option maxHeartbeats 4000000 in
theorem WJ_Mo_hidden_194 {Y : CG} {X : CX} {r : TR} {l0 : Nat} {l1 : Int32} {l2 : Int32} {l4 : Int32} {l5 : Int32} {h : TH} {K94 : Int32 → TH → Prop} {K109 : Int32 → Int32 → TH → Prop} {K250 : Int32 → TH → Prop} {K292 : TH → Prop} {Q : Int32 → TH → Prop} (C : Gd Y X cX8_hidden 6 RX8 6) (R : Ri Y r X .int Q) (t0 : TO Y l0 8) (hK94 : ∀ (k2 : Int32) (hh : TH), K94 k2 hh → G Y X 6 94 [(0, .ref l0), (1, .int l1), (2, .int k2)] [] r hh) (hK109 : ∀ (k3 : Int32) (k4 : Int32) (hh : TH), K109 k3 k4 hh → G Y X 6 109 [(0, .ref l0), (1, .int l1), (2, .int l2), (3, .int k3), (4, .int k4)] [] r hh) (hK250 : ∀ (k3 : Int32) (hh : TH), K250 k3 hh → G Y X 6 250 [(0, .ref l0), (1, .int l1), (2, .int l2), (3, .int k3)] [] r hh) (hK292 : ∀ (hh : TH), K292 hh → G Y X 6 292 [] [] r hh) (hD : DJ_Mo_hidden_194 r l0 l1 l2 l4 l5 h K94 K109 K250 K292 Q) : G Y X 6 194 [(0, .ref l0), (1, .int l1), (2, .int l2), (4, .int l4), (5, .int l5)] [] r h := by
  unfold DJ_Mo_hidden_194 at hD
  refine g_wt (fun hw => ?_)
  refine g_iconst (pc := 194) (v := 1) (by decide) C dX8_hidden_194 ?_
  refine g_goto (pc := 195) 199 C dX8_hidden_195 (by decide) ?_
  refine g_sub [0, 1, 2, 3, 4] rfl ?_
  exact WJ_Mo_hidden_199 C R t0 (hK94) (hK109) (hK250) (hK292) hD
def DJ_Mo_hidden_198 (r : TR) (l0 : Nat) (l1 : Int32) (l2 : Int32) (l4 : Int32) (l5 : Int32) (h : TH) (K94 : Int32 → TH → Prop) (K109 : Int32 → Int32 → TH → Prop) (K250 : Int32 → TH → Prop) (K292 : TH → Prop) (Q : Int32 → TH → Prop) : Prop :=
  DJ_Mo_hidden_199 r l0 l1 l2 l4 l5 0 h (K94) (K109) (K250) (K292) Q
set_option maxRecDepth 100000 in
set_option maxHeartbeats 4000000 in
theorem WJ_Mo_hidden_198 {Y : CG} {X : CX} {r : TR} {l0 : Nat} {l1 : Int32} {l2 : Int32} {l4 : Int32} {l5 : Int32} {h : TH} {K94 : Int32 → TH → Prop} {K109 : Int32 → Int32 → TH → Prop} {K250 : Int32 → TH → Prop} {K292 : TH → Prop} {Q : Int32 → TH → Prop} (C : Gd Y X cX8_hidden 6 RX8 6) (R : Ri Y r X .int Q) (t0 : TO Y l0 8) (hK94 : ∀ (k2 : Int32) (hh : TH), K94 k2 hh → G Y X 6 94 [(0, .ref l0), (1, .int l1), (2, .int k2)] [] r hh) (hK109 : ∀ (k3 : Int32) (k4 : Int32) (hh : TH), K109 k3 k4 hh → G Y X 6 109 [(0, .ref l0), (1, .int l1), (2, .int l2), (3, .int k3), (4, .int k4)] [] r hh) (hK250 : ∀ (k3 : Int32) (hh : TH), K250 k3 hh → G Y X 6 250 [(0, .ref l0), (1, .int l1), (2, .int l2), (3, .int k3)] [] r hh) (hK292 : ∀ (hh : TH), K292 hh → G Y X 6 292 [] [] r hh) (hD : DJ_Mo_hidden_198 r l0 l1 l2 l4 l5 h K94 K109 K250 K292 Q) : G Y X 6 198 [(0, .ref l0), (1, .int l1), (2, .int l2), (4, .int l4), (5, .int l5)] [] r h := by
  unfold DJ_Mo_hidden_198 at hD
  refine g_wt (fun hw => ?_)
  refine g_iconst (pc := 198) (v := 0) (by decide) C dX8_hidden_198 ?_
  refine g_sub [0, 1, 2, 3, 4] rfl ?_
  exact WJ_Mo_hidden_199 C R t0 (hK94) (hK109) (hK250) (hK292) hD
def DJ_Mo_hidden_165 (r : TR) (l0 : Nat) (l1 : Int32) (l2 : Int32) (l3 : Int32) (l4 : Int32) (s0 : Int32) (h : TH) (K94 : Int32 → TH → Prop) (K109 : Int32 → Int32 → TH → Prop) (K250 : Int32 → TH → Prop) (K292 : TH → Prop) (Q : Int32 → TH → Prop) : Prop :=
  ((¬ l3 = 0 → DJ_Mo_hidden_194 r l0 l1 l2 l4 s0 h (K94) (K109) (K250) (K292) Q) ∧ (l3 = 0 → ((s0 = 0 → DJ_Mo_hidden_198 r l0 l1 l2 l4 s0 h (K94) (K109) (K250) (K292) Q) ∧ (¬ s0 = 0 → D_Mo_sortAt r l0 (jrem l4 8) (l4 / 8) h (fun x58 h57 => ((¬ x58 = 2 → DJ_Mo_hidden_198 r l0 l1 l2 l4 s0 h57 (K94) (K109) (K250) (K292) Q) ∧ (x58 = 2 → DJ_Mo_hidden_194 r l0 l1 l2 l4 s0 h57 (K94) (K109) (K250) (K292) Q)))))))
set_option maxRecDepth 100000 in
set_option maxHeartbeats 4000000 in
theorem WJ_Mo_hidden_165 {Y : CG} {X : CX} {r : TR} {l0 : Nat} {l1 : Int32} {l2 : Int32} {l3 : Int32} {l4 : Int32} {s0 : Int32} {h : TH} {K94 : Int32 → TH → Prop} {K109 : Int32 → Int32 → TH → Prop} {K250 : Int32 → TH → Prop} {K292 : TH → Prop} {Q : Int32 → TH → Prop} (C : Gd Y X cX8_hidden 6 RX8 6) (R : Ri Y r X .int Q) (t0 : TO Y l0 8) (hK94 : ∀ (k2 : Int32) (hh : TH), K94 k2 hh → G Y X 6 94 [(0, .ref l0), (1, .int l1), (2, .int k2)] [] r hh) (hK109 : ∀ (k3 : Int32) (k4 : Int32) (hh : TH), K109 k3 k4 hh → G Y X 6 109 [(0, .ref l0), (1, .int l1), (2, .int l2), (3, .int k3), (4, .int k4)] [] r hh) (hK250 : ∀ (k3 : Int32) (hh : TH), K250 k3 hh → G Y X 6 250 [(0, .ref l0), (1, .int l1), (2, .int l2), (3, .int k3)] [] r hh) (hK292 : ∀ (hh : TH), K292 hh → G Y X 6 292 [] [] r hh) (hD : DJ_Mo_hidden_165 r l0 l1 l2 l3 l4 s0 h K94 K109 K250 K292 Q) : G Y X 6 165 [(0, .ref l0), (1, .int l1), (2, .int l2), (3, .int l3), (4, .int l4)] [.int s0] r h := by
  unfold DJ_Mo_hidden_165 at hD
  refine g_wt (fun hw => ?_)
  refine g_istore (pc := 165) (fun _ => [(5, .int s0), (0, .ref l0), (1, .int l1), (2, .int l2), (3, .int l3), (4, .int l4)]) C dX8_hidden_165 (by decide) rfl (fun _ _ => ?_)
  refine g_iload_n (pc := 167) rfl 4 rfl C dX8_hidden_167 ?_
  refine g_if_ne (pc := 168) 194 C dX8_hidden_168 (by decide) (fun c38 => ?_) (fun c38 => ?_)
  · have hD := hD.1 c38
    refine g_sub [1, 2, 3, 5, 0] rfl ?_
    exact WJ_Mo_hidden_194 C R t0 (hK94) (hK109) (hK250) (hK292) hD
  · have hD := hD.2 c38
    refine g_iload (pc := 171) 0 rfl C dX8_hidden_171 ?_
    refine g_if_eq (pc := 173) 198 C dX8_hidden_173 (by decide) (fun c56 => ?_) (fun c56 => ?_)
    · have hD := hD.1 c56
      refine g_sub [1, 2, 3, 5, 0] rfl ?_
      exact WJ_Mo_hidden_198 C R t0 (hK94) (hK109) (hK250) (hK292) hD
    · have hD := hD.2 c56
      refine g_aload_n (pc := 176) rfl 1 rfl C dX8_hidden_176 ?_
      refine g_iload (pc := 177) 5 rfl C dX8_hidden_177 ?_
      refine g_bipush (pc := 179) (v := 8) (by decide) C dX8_hidden_179 ?_
      refine g_irem (pc := 181) (by decide) C dX8_hidden_181 ?_
      refine g_iload (pc := 182) 5 rfl C dX8_hidden_182 ?_
      refine g_bipush (pc := 184) (v := 8) (by decide) C dX8_hidden_184 ?_
      refine g_idiv (pc := 186) (by decide) C dX8_hidden_186 ?_
      refine g_callVi (pc := 187) (As := [.int (jrem l4 8), .int (l4 / 8)]) C mv_RX8_319 (M_Mo_sortAt t0 hD) t0 (by decide) rfl rfl (Nat.le_of_ble_eq_true rfl) dX8_hidden_187 (fun x58 h57 hD => ?_)
      refine g_iconst (pc := 190) (v := 2) (by decide) C dX8_hidden_190 ?_
      refine g_icmp_ne (pc := 191) 198 C dX8_hidden_191 (by decide) (fun c59 => ?_) (fun c59 => ?_)
      · have hD := hD.1 c59
        refine g_sub [1, 2, 3, 5, 0] rfl ?_
        exact WJ_Mo_hidden_198 C R t0 (hK94) (hK109) (hK250) (hK292) hD
      · have hD := hD.2 c59
        refine g_sub [1, 2, 3, 5, 0] rfl ?_
        exact WJ_Mo_hidden_194 C R t0 (hK94) (hK109) (hK250) (hK292) hD
def DJ_Mo_hidden_164 (r : TR) (l0 : Nat) (l1 : Int32) (l2 : Int32) (l3 : Int32) (l4 : Int32) (h : TH) (K94 : Int32 → TH → Prop) (K109 : Int32 → Int32 → TH → Prop) (K250 : Int32 → TH → Prop) (K292 : TH → Prop) (Q : Int32 → TH → Prop) : Prop :=
  DJ_Mo_hidden_165 r l0 l1 l2 l3 l4 0 h (K94) (K109) (K250) (K292) Q
set_option maxRecDepth 100000 in
set_option maxHeartbeats 4000000 in
theorem WJ_Mo_hidden_164 {Y : CG} {X : CX} {r : TR} {l0 : Nat} {l1 : Int32} {l2 : Int32} {l3 : Int32} {l4 : Int32} {h : TH} {K94 : Int32 → TH → Prop} {K109 : Int32 → Int32 → TH → Prop} {K250 : Int32 → TH → Prop} {K292 : TH → Prop} {Q : Int32 → TH → Prop} (C : Gd Y X cX8_hidden 6 RX8 6) (R : Ri Y r X .int Q) (t0 : TO Y l0 8) (hK94 : ∀ (k2 : Int32) (hh : TH), K94 k2 hh → G Y X 6 94 [(0, .ref l0), (1, .int l1), (2, .int k2)] [] r hh) (hK109 : ∀ (k3 : Int32) (k4 : Int32) (hh : TH), K109 k3 k4 hh → G Y X 6 109 [(0, .ref l0), (1, .int l1), (2, .int l2), (3, .int k3), (4, .int k4)] [] r hh) (hK250 : ∀ (k3 : Int32) (hh : TH), K250 k3 hh → G Y X 6 250 [(0, .ref l0), (1, .int l1), (2, .int l2), (3, .int k3)] [] r hh) (hK292 : ∀ (hh : TH), K292 hh → G Y X 6 292 [] [] r hh) (hD : DJ_Mo_hidden_164 r l0 l1 l2 l3 l4 h K94 K109 K250 K292 Q) : G Y X 6 164 [(0, .ref l0), (1, .int l1), (2, .int l2), (3, .int l3), (4, .int l4)] [] r h := by
  unfold DJ_Mo_hidden_164 at hD
  refine g_wt (fun hw => ?_)
  refine g_iconst (pc := 164) (v := 0) (by decide) C dX8_hidden_164 ?_
  refine g_sub [0, 1, 2, 3, 4] rfl ?_
  exact WJ_Mo_hidden_165 C R t0 (hK94) (hK109) (hK250) (hK292) hD
def DB_Mo_hidden_109 (r : TR) (l0 : Nat) (l1 : Int32) (l2 : Int32) (l3 : Int32) (l4 : Int32) (h : TH) (K94 : Int32 → TH → Prop) (K109 : Int32 → Int32 → TH → Prop) (K250 : Int32 → TH → Prop) (K292 : TH → Prop) (Q : Int32 → TH → Prop) : Prop :=
  ((40 ≤ l4 → K250 l3 h) ∧ (¬ 40 ≤ l4 → D_Mo_isCell r l0 (jrem l4 8) (l4 / 8) h (fun x35 h34 => ((x35 = 0 → DJ_Mo_hidden_164 r l0 l1 l2 l3 l4 h34 (K94) (K109) (K250) (K292) Q) ∧ (¬ x35 = 0 → D_Mo_sortAt r l0 (jrem l4 8) (l4 / 8) h34 (fun x61 h60 => ((x61 = 1 → DJ_Mo_hidden_164 r l0 l1 l2 l3 l4 h60 (K94) (K109) (K250) (K292) Q) ∧ (¬ x61 = 1 → D_Mo_comesTo r l0 l4 h60 (fun x64 h63 => ((x64 = 0 → DJ_Mo_hidden_164 r l0 l1 l2 l3 l4 h63 (K94) (K109) (K250) (K292) Q) ∧ (¬ x64 = 0 → DJ_Mo_hidden_165 r l0 l1 l2 l3 l4 1 h63 (K94) (K109) (K250) (K292) Q)))))))))))
set_option maxRecDepth 100000 in
set_option maxHeartbeats 4000000 in
theorem WB_Mo_hidden_109 {Y : CG} {X : CX} {r : TR} {l0 : Nat} {l1 : Int32} {l2 : Int32} {l3 : Int32} {l4 : Int32} {h : TH} {K94 : Int32 → TH → Prop} {K109 : Int32 → Int32 → TH → Prop} {K250 : Int32 → TH → Prop} {K292 : TH → Prop} {Q : Int32 → TH → Prop} (C : Gd Y X cX8_hidden 6 RX8 6) (R : Ri Y r X .int Q) (t0 : TO Y l0 8) (hK94 : ∀ (k2 : Int32) (hh : TH), K94 k2 hh → G Y X 6 94 [(0, .ref l0), (1, .int l1), (2, .int k2)] [] r hh) (hK109 : ∀ (k3 : Int32) (k4 : Int32) (hh : TH), K109 k3 k4 hh → G Y X 6 109 [(0, .ref l0), (1, .int l1), (2, .int l2), (3, .int k3), (4, .int k4)] [] r hh) (hK250 : ∀ (k3 : Int32) (hh : TH), K250 k3 hh → G Y X 6 250 [(0, .ref l0), (1, .int l1), (2, .int l2), (3, .int k3)] [] r hh) (hK292 : ∀ (hh : TH), K292 hh → G Y X 6 292 [] [] r hh) (hD : DB_Mo_hidden_109 r l0 l1 l2 l3 l4 h K94 K109 K250 K292 Q) : G Y X 6 109 [(0, .ref l0), (1, .int l1), (2, .int l2), (3, .int l3), (4, .int l4)] [] r h := by
  unfold DB_Mo_hidden_109 at hD
  refine g_wt (fun hw => ?_)
  refine g_iload (pc := 109) 4 rfl C dX8_hidden_109 ?_
  refine g_bipush (pc := 111) (v := 40) (by decide) C dX8_hidden_111 ?_
  refine g_icmp_ge (pc := 113) 250 C dX8_hidden_113 (by decide) (fun c33 => ?_) (fun c33 => ?_)
  · have hD := hD.1 c33
    refine g_sub [0, 1, 2, 3] rfl ?_
    exact hK250 l3 h hD
  · have hD := hD.2 c33
    refine g_aload_n (pc := 116) rfl 0 rfl C dX8_hidden_116 ?_
    refine g_iload (pc := 117) 4 rfl C dX8_hidden_117 ?_
    refine g_bipush (pc := 119) (v := 8) (by decide) C dX8_hidden_119 ?_
    refine g_irem (pc := 121) (by decide) C dX8_hidden_121 ?_
    refine g_iload (pc := 122) 4 rfl C dX8_hidden_122 ?_
    refine g_bipush (pc := 124) (v := 8) (by decide) C dX8_hidden_124 ?_
    refine g_idiv (pc := 126) (by decide) C dX8_hidden_126 ?_
    refine g_callVi (pc := 127) (As := [.int (jrem l4 8), .int (l4 / 8)]) C mv_RX8_360 (M_Mo_isCell t0 hD) t0 (by decide) rfl rfl (Nat.le_of_ble_eq_true rfl) dX8_hidden_127 (fun x35 h34 hD => ?_)
    refine g_if_eq (pc := 130) 164 C dX8_hidden_130 (by decide) (fun c36 => ?_) (fun c36 => ?_)
    · have hD := hD.1 c36
      refine g_sub [0, 1, 2, 3, 4] rfl ?_
      exact WJ_Mo_hidden_164 C R t0 (hK94) (hK109) (hK250) (hK292) hD
    · have hD := hD.2 c36
      refine g_aload_n (pc := 133) rfl 0 rfl C dX8_hidden_133 ?_
      refine g_iload (pc := 134) 4 rfl C dX8_hidden_134 ?_
      refine g_bipush (pc := 136) (v := 8) (by decide) C dX8_hidden_136 ?_
      refine g_irem (pc := 138) (by decide) C dX8_hidden_138 ?_
      refine g_iload (pc := 139) 4 rfl C dX8_hidden_139 ?_
      refine g_bipush (pc := 141) (v := 8) (by decide) C dX8_hidden_141 ?_
      refine g_idiv (pc := 143) (by decide) C dX8_hidden_143 ?_
      refine g_callVi (pc := 144) (As := [.int (jrem l4 8), .int (l4 / 8)]) C mv_RX8_319 (M_Mo_sortAt t0 hD) t0 (by decide) rfl rfl (Nat.le_of_ble_eq_true rfl) dX8_hidden_144 (fun x61 h60 hD => ?_)
      refine g_iconst (pc := 147) (v := 1) (by decide) C dX8_hidden_147 ?_
      refine g_icmp_eq (pc := 148) 164 C dX8_hidden_148 (by decide) (fun c62 => ?_) (fun c62 => ?_)
      · have hD := hD.1 c62
        refine g_sub [0, 1, 2, 3, 4] rfl ?_
        exact WJ_Mo_hidden_164 C R t0 (hK94) (hK109) (hK250) (hK292) hD
      · have hD := hD.2 c62
        refine g_aload_n (pc := 151) rfl 0 rfl C dX8_hidden_151 ?_
        refine g_iload (pc := 152) 4 rfl C dX8_hidden_152 ?_
        refine g_callVi (pc := 154) (As := [.int l4]) C mv_RX8_431 (M_Mo_comesTo t0 hD) t0 (by decide) rfl rfl (Nat.le_of_ble_eq_true rfl) dX8_hidden_154 (fun x64 h63 hD => ?_)
        refine g_if_eq (pc := 157) 164 C dX8_hidden_157 (by decide) (fun c65 => ?_) (fun c65 => ?_)
        · have hD := hD.1 c65
          refine g_sub [0, 1, 2, 3, 4] rfl ?_
          exact WJ_Mo_hidden_164 C R t0 (hK94) (hK109) (hK250) (hK292) hD
        · have hD := hD.2 c65
          refine g_iconst (pc := 160) (v := 1) (by decide) C dX8_hidden_160 ?_
          refine g_goto (pc := 161) 165 C dX8_hidden_161 (by decide) ?_
          refine g_sub [0, 1, 2, 3, 4] rfl ?_
          exact WJ_Mo_hidden_165 C R t0 (hK94) (hK109) (hK250) (hK292) hD
def DB_Mo_hidden_259 (r : TR) (l0 : Nat) (l1 : Int32) (l2 : Int32) (l4 : Int32) (h : TH) (K94 : Int32 → TH → Prop) (K259 : Int32 → TH → Prop) (K286 : TH → Prop) (K292 : TH → Prop) (Q : Int32 → TH → Prop) : Prop :=
  ((40 ≤ l4 → K286 h) ∧ (¬ 40 ≤ l4 → vp_in l4 40 ∧ vp_in l4 40 ∧ ∀ h76, h76 = pI h (r l0 57) l4.toNatClampNeg (vp_nar .boolean (h.1 (r l0 58) l4.toNatClampNeg)) → ∀ x77 : Int32, x77 = l4 + 1 → K259 x77 h76))
set_option maxRecDepth 100000 in
set_option maxHeartbeats 4000000 in
theorem WB_Mo_hidden_259 {Y : CG} {X : CX} {r : TR} {l0 : Nat} {l1 : Int32} {l2 : Int32} {l4 : Int32} {h : TH} {K94 : Int32 → TH → Prop} {K259 : Int32 → TH → Prop} {K286 : TH → Prop} {K292 : TH → Prop} {Q : Int32 → TH → Prop} (C : Gd Y X cX8_hidden 6 RX8 6) (R : Ri Y r X .int Q) (t0 : TO Y l0 8) (hK94 : ∀ (k2 : Int32) (hh : TH), K94 k2 hh → G Y X 6 94 [(0, .ref l0), (1, .int l1), (2, .int k2)] [] r hh) (hK259 : ∀ (k4 : Int32) (hh : TH), K259 k4 hh → G Y X 6 259 [(0, .ref l0), (1, .int l1), (2, .int l2), (4, .int k4)] [] r hh) (hK286 : ∀ (hh : TH), K286 hh → G Y X 6 286 [(0, .ref l0), (1, .int l1), (2, .int l2)] [] r hh) (hK292 : ∀ (hh : TH), K292 hh → G Y X 6 292 [] [] r hh) (hD : DB_Mo_hidden_259 r l0 l1 l2 l4 h K94 K259 K286 K292 Q) : G Y X 6 259 [(0, .ref l0), (1, .int l1), (2, .int l2), (4, .int l4)] [] r h := by
  unfold DB_Mo_hidden_259 at hD
  refine g_wt (fun hw => ?_)
  refine g_iload (pc := 259) 3 rfl C dX8_hidden_259 ?_
  refine g_bipush (pc := 261) (v := 40) (by decide) C dX8_hidden_261 ?_
  refine g_icmp_ge (pc := 263) 286 C dX8_hidden_263 (by decide) (fun c73 => ?_) (fun c73 => ?_)
  · have hD := hD.1 c73
    refine g_sub [0, 1, 2] rfl ?_
    exact hK286 h hD
  · have hD := hD.2 c73
    refine g_aload_n (pc := 266) rfl 0 rfl C dX8_hidden_266 ?_
    have u74 : TA Y (r l0 57) 12 40 := wt_a hw t0 (by decide) (by decide) rfl
    refine g_getR (pc := 267) C fl_RX8_125 t0 rfl dX8_hidden_267 ?_
    refine g_iload (pc := 270) 3 rfl C dX8_hidden_270 ?_
    refine g_aload_n (pc := 272) rfl 0 rfl C dX8_hidden_272 ?_
    have u75 : TA Y (r l0 58) 12 40 := wt_a hw t0 (by decide) (by decide) rfl
    refine g_getR (pc := 273) C fl_RX8_128 t0 rfl dX8_hidden_273 ?_
    refine g_iload (pc := 276) 3 rfl C dX8_hidden_276 ?_
    obtain ⟨hb, hD⟩ := hD
    refine g_zald (pc := 278) C u75 hb dX8_hidden_278 ?_
    obtain ⟨hb, hD⟩ := hD
    refine g_zast (pc := 279) C u74 hb dX8_hidden_279 (fun h76 eh76 => ?_)
    have hD := hD h76 eh76
    refine g_iinc (pc := 280) (q := 3) (c := 1) (fun x77 => [(4, .int x77), (0, .ref l0), (1, .int l1), (2, .int l2)]) C dX8_hidden_280 rfl (by decide) (by decide) rfl (fun x77 ex77 => ?_)
    have hD := hD x77 ex77
    refine g_goto (pc := 283) 259 C dX8_hidden_283 (by decide) ?_
    refine g_sub [1, 2, 3, 0] rfl ?_
    exact hK259 x77 h76 hD
def DB_Mo_hidden_94 (r : TR) (l0 : Nat) (l1 : Int32) (l2 : Int32) (h : TH) (K94 : Int32 → TH → Prop) (K292 : TH → Prop) (Q : Int32 → TH → Prop) : Prop :=
  ((40 < l2 → K292 h) ∧ (¬ 40 < l2 → D_Mo_hourGoes r l0 h (fun h29 => ∃ n, lp (fun (K : Int32 × Int32 × TH → Prop) (s : Int32 × Int32 × TH) => DB_Mo_hidden_109 r l0 l1 l2 s.1 s.2.1 s.2.2 K94 (fun y66 y67 h68 => K (y66, y67, h68)) (fun x69 h70 => ((x69 = 0 → ∃ n, lp (fun (K : Int32 × TH → Prop) (s : Int32 × TH) => DB_Mo_hidden_259 r l0 l1 l2 s.1 s.2 K94 (fun y78 h79 => K (y78, h79)) (fun h80 => ∀ x81 : Int32, x81 = l2 + 1 → K94 x81 h80) K292 Q) n (0, h70)) ∧ (¬ x69 = 0 → Q l2 h70))) K292 Q) n (0, 0, h29))))
set_option maxRecDepth 100000 in
set_option maxHeartbeats 4000000 in
theorem WB_Mo_hidden_94 {Y : CG} {X : CX} {r : TR} {l0 : Nat} {l1 : Int32} {l2 : Int32} {h : TH} {K94 : Int32 → TH → Prop} {K292 : TH → Prop} {Q : Int32 → TH → Prop} (C : Gd Y X cX8_hidden 6 RX8 6) (R : Ri Y r X .int Q) (t0 : TO Y l0 8) (hK94 : ∀ (k2 : Int32) (hh : TH), K94 k2 hh → G Y X 6 94 [(0, .ref l0), (1, .int l1), (2, .int k2)] [] r hh) (hK292 : ∀ (hh : TH), K292 hh → G Y X 6 292 [] [] r hh) (hD : DB_Mo_hidden_94 r l0 l1 l2 h K94 K292 Q) : G Y X 6 94 [(0, .ref l0), (1, .int l1), (2, .int l2)] [] r h := by
  unfold DB_Mo_hidden_94 at hD
  refine g_wt (fun hw => ?_)
  refine g_iload_n (pc := 94) rfl 2 rfl C dX8_hidden_94 ?_
  refine g_bipush (pc := 95) (v := 40) (by decide) C dX8_hidden_95 ?_
  refine g_icmp_gt (pc := 97) 292 C dX8_hidden_97 (by decide) (fun c28 => ?_) (fun c28 => ?_)
  · have hD := hD.1 c28
    refine g_sub [] rfl ?_
    exact hK292 h hD
  · have hD := hD.2 c28
    refine g_aload_n (pc := 100) rfl 0 rfl C dX8_hidden_100 ?_
    refine g_callVv (pc := 101) (As := []) C mv_RX8_382 (M_Mo_hourGoes t0 hD) t0 (by decide) rfl rfl (Nat.le_of_ble_eq_true rfl) dX8_hidden_101 (fun h29 hD => ?_)
    refine g_iconst (pc := 104) (v := 0) (by decide) C dX8_hidden_104 ?_
    refine g_istore_n (pc := 105) (fun _ => [(3, .int 0), (0, .ref l0), (1, .int l1), (2, .int l2)]) C dX8_hidden_105 rfl (by decide) rfl (fun _ _ => ?_)
    refine g_iconst (pc := 106) (v := 0) (by decide) C dX8_hidden_106 ?_
    refine g_istore (pc := 107) (fun _ => [(4, .int 0), (3, .int 0), (0, .ref l0), (1, .int l1), (2, .int l2)]) C dX8_hidden_107 (by decide) rfl (fun _ _ => ?_)
    obtain ⟨n, hD⟩ := hD
    refine g_sub [2, 3, 4, 1, 0] rfl ?_
    refine lp_run (fun s : Int32 × Int32 × TH => G Y X 6 109 [(0, .ref l0), (1, .int l1), (2, .int l2), (3, .int s.1), (4, .int s.2.1)] [] r s.2.2) (fun K s hB hK => ?_) n (0, 0, h29) hD
    refine WB_Mo_hidden_109 C R t0 hK94 (fun y66 y67 h68 hk => hK _ hk) (fun x69 h70 hD => ?_) hK292 hB
    · refine g_iload_n (pc := 250) rfl 3 rfl C dX8_hidden_250 ?_
      refine g_if_eq (pc := 251) 256 C dX8_hidden_251 (by decide) (fun c71 => ?_) (fun c71 => ?_)
      · have hD := hD.1 c71
        refine g_iconst (pc := 256) (v := 0) (by decide) C dX8_hidden_256 ?_
        refine g_istore (pc := 257) (fun _ => [(4, .int 0), (0, .ref l0), (1, .int l1), (2, .int l2), (3, .int x69)]) C dX8_hidden_257 (by decide) rfl (fun _ _ => ?_)
        obtain ⟨n, hD⟩ := hD
        refine g_sub [1, 2, 3, 0] rfl ?_
        refine lp_run (fun s : Int32 × TH => G Y X 6 259 [(0, .ref l0), (1, .int l1), (2, .int l2), (4, .int s.1)] [] r s.2) (fun K s hB hK => ?_) n (0, h70) hD
        refine WB_Mo_hidden_259 C R t0 hK94 (fun y78 h79 hk => hK _ hk) (fun h80 hD => ?_) hK292 hB
        · refine g_iinc (pc := 286) (q := 2) (c := 1) (fun x81 => [(2, .int x81), (0, .ref l0), (1, .int l1)]) C dX8_hidden_286 rfl (by decide) (by decide) rfl (fun x81 ex81 => ?_)
          have hD := hD x81 ex81
          refine g_goto (pc := 289) 94 C dX8_hidden_289 (by decide) ?_
          refine g_sub [1, 2, 0] rfl ?_
          exact hK94 x81 h80 hD
      · have hD := hD.2 c71
        refine g_iload_n (pc := 254) rfl 2 rfl C dX8_hidden_254 ?_
        exact g_iret (pc := 255) C R dX8_hidden_255 hD
def D_Mo_hidden (r : TR) (o : Nat) (a1 : Int32) (h : TH) (Q : Int32 → TH → Prop) : Prop :=
  D_Mo_isBoat r o a1 h (fun x2 h1 => ((¬ x2 = 0 → D_Mo_copies r o h1 (fun h4 => D_Mo_isLost r o a1 h4 (fun x7 h6 => ((x7 = 0 → ∀ i10 : Int32, i10 = 12 + a1 → vp_in i10 512 ∧ (((h6.1 (r o 49) i10.toNatClampNeg) ≤ 0 → ∃ n, lp (fun (K : Int32 × TH → Prop) (s : Int32 × TH) => DB_Mo_hidden_41 r o a1 s.1 s.2 (fun y23 h24 => K (y23, h24)) (fun h25 => ∀ h26, h26 = pI h25 o 51 a1 → ∃ n, lp (fun (K : Int32 × TH → Prop) (s : Int32 × TH) => DB_Mo_hidden_94 r o a1 s.1 s.2 (fun y82 h83 => K (y82, h83)) (fun h84 => Q (-2) h84) Q) n (1, h26)) Q) n (0, h6)) ∧ (¬ (h6.1 (r o 49) i10.toNatClampNeg) ≤ 0 → Q 0 h6))) ∧ (¬ x7 = 0 → Q (-2) h6))))) ∧ (x2 = 0 → Q (-1) h1)))
set_option maxRecDepth 100000 in
set_option maxHeartbeats 4000000 in
theorem M_Mo_hidden {Y : CG} {r : TR} {l : Launch} {o : Nat} {a1 : Int32} {h : TH} {Q : Int32 → TH → Prop} (t0 : TO Y o 8) (hD : D_Mo_hidden r o a1 h Q) : Mi Y r l yX8_hidden cX8_hidden 6 .int 6 [.ref o, .int a1] h Q := by
  unfold D_Mo_hidden at hD
  refine Mi.of RX8 rfl (by decide) (by simp [lg_sl, Value.category]) [(0, .ref o), (1, .int a1)] rfl (fun X hXl C R => ?_)
  subst hXl
  refine g_wt (fun hw => ?_)
  refine g_aload_n (pc := 0) rfl 0 rfl C dX8_hidden_0 ?_
  refine g_iload_n (pc := 1) rfl 1 rfl C dX8_hidden_1 ?_
  refine g_callVi (pc := 2) (As := [.int a1]) C mv_RX8_394 (M_Mo_isBoat t0 hD) t0 (by decide) rfl rfl (Nat.le_of_ble_eq_true rfl) dX8_hidden_2 (fun x2 h1 hD => ?_)
  refine g_if_ne (pc := 5) 10 C dX8_hidden_5 (by decide) (fun c3 => ?_) (fun c3 => ?_)
  · have hD := hD.1 c3
    refine g_aload_n (pc := 10) rfl 0 rfl C dX8_hidden_10 ?_
    refine g_callVv (pc := 11) (As := []) C mv_RX8_397 (M_Mo_copies t0 hD) t0 (by decide) rfl rfl (Nat.le_of_ble_eq_true rfl) dX8_hidden_11 (fun h4 hD => ?_)
    refine g_aload_n (pc := 14) rfl 0 rfl C dX8_hidden_14 ?_
    refine g_iload_n (pc := 15) rfl 1 rfl C dX8_hidden_15 ?_
    refine g_callVi (pc := 16) (As := [.int a1]) C mv_RX8_385 (M_Mo_isLost t0 hD) t0 (by decide) rfl rfl (Nat.le_of_ble_eq_true rfl) dX8_hidden_16 (fun x7 h6 hD => ?_)
    refine g_if_eq (pc := 19) 25 C dX8_hidden_19 (by decide) (fun c8 => ?_) (fun c8 => ?_)
    · have hD := hD.1 c8
      refine g_aload_n (pc := 25) rfl 0 rfl C dX8_hidden_25 ?_
      have u9 : TA Y (r o 49) 10 512 := wt_a hw t0 (by decide) (by decide) rfl
      refine g_getR (pc := 26) C fl_RX8_113 t0 rfl dX8_hidden_26 ?_
      refine g_bipush (pc := 29) (v := 12) (by decide) C dX8_hidden_29 ?_
      refine g_iload_n (pc := 31) rfl 1 rfl C dX8_hidden_31 ?_
      refine g_iadd (pc := 32) C dX8_hidden_32 ?_
      refine g_topi (fun i10 ei10 => ?_)
      have hD := hD i10 ei10
      obtain ⟨hb, hD⟩ := hD
      refine g_iald (pc := 33) C u9 hb dX8_hidden_33 ?_
      refine g_if_le (pc := 34) 39 C dX8_hidden_34 (by decide) (fun c11 => ?_) (fun c11 => ?_)
      · have hD := hD.1 c11
        refine g_iconst (pc := 39) (v := 0) (by decide) C dX8_hidden_39 ?_
        refine g_istore_n (pc := 40) (fun _ => [(2, .int 0), (0, .ref o), (1, .int a1)]) C dX8_hidden_40 rfl (by decide) rfl (fun _ _ => ?_)
        obtain ⟨n, hD⟩ := hD
        refine g_sub [1, 2, 0] rfl ?_
        refine lp_run (fun s : Int32 × TH => G Y X 6 41 [(0, .ref o), (1, .int a1), (2, .int s.1)] [] r s.2) (fun K s hB hK => ?_) n (0, h6) hD
        refine WB_Mo_hidden_41 C R t0 (fun y23 h24 hk => hK _ hk) (fun h25 hD => ?_) hB
        · refine g_aload_n (pc := 87) rfl 0 rfl C dX8_hidden_87 ?_
          refine g_iload_n (pc := 88) rfl 1 rfl C dX8_hidden_88 ?_
          refine g_putI (pc := 89) C fl_RX8_310 t0 rfl rfl rfl dX8_hidden_89 (fun h26 eh26 => ?_)
          have hD := hD h26 eh26
          refine g_iconst (pc := 92) (v := 1) (by decide) C dX8_hidden_92 ?_
          refine g_istore_n (pc := 93) (fun _ => [(2, .int 1), (0, .ref o), (1, .int a1)]) C dX8_hidden_93 rfl (by decide) rfl (fun _ _ => ?_)
          obtain ⟨n, hD⟩ := hD
          refine g_sub [1, 2, 0] rfl ?_
          refine lp_run (fun s : Int32 × TH => G Y X 6 94 [(0, .ref o), (1, .int a1), (2, .int s.1)] [] r s.2) (fun K s hB hK => ?_) n (1, h26) hD
          refine WB_Mo_hidden_94 C R t0 (fun y82 h83 hk => hK _ hk) (fun h84 hD => ?_) hB
          · refine g_bipush (pc := 292) (v := (-2)) (by decide) C dX8_hidden_292 ?_
            exact g_iret (pc := 294) C R dX8_hidden_294 hD
      · have hD := hD.2 c11
        refine g_iconst (pc := 37) (v := 0) (by decide) C dX8_hidden_37 ?_
        exact g_iret (pc := 38) C R dX8_hidden_38 hD
    · have hD := hD.2 c8
      refine g_bipush (pc := 22) (v := (-2)) (by decide) C dX8_hidden_22 ?_
      exact g_iret (pc := 24) C R dX8_hidden_24 hD
  · have hD := hD.2 c3
    refine g_iconst (pc := 8) (v := (-1)) (by decide) C dX8_hidden_8 ?_
    exact g_iret (pc := 9) C R dX8_hidden_9 hD
def DB_Mo_hold_20 (r : TR) (l0 : Nat) (l1 : Int32) (l2 : Int32) (h : TH) (K20 : Int32 → TH → Prop) (K51 : TH → Prop) (Q : Int32 → TH → Prop) : Prop :=
  ((512 ≤ l2 → K51 h) ∧ (¬ 512 ≤ l2 → vp_in l2 512 ∧ vp_in ((512 * l1) + l2) 1536 ∧ ∀ h10, h10 = pI h (r l0 65) (((512 * l1) + l2).toNatClampNeg) (h.1 (r l0 48) l2.toNatClampNeg) → ∀ x11 : Int32, x11 = l2 + 1 → K20 x11 h10))
set_option maxRecDepth 100000 in
set_option maxHeartbeats 4000000 in
theorem WB_Mo_hold_20 {Y : CG} {X : CX} {r : TR} {l0 : Nat} {l1 : Int32} {l2 : Int32} {h : TH} {K20 : Int32 → TH → Prop} {K51 : TH → Prop} {Q : Int32 → TH → Prop} (C : Gd Y X cX8_hold 3 RX8 2) (R : Ri Y r X .boolean Q) (t0 : TO Y l0 8) (hK20 : ∀ (k2 : Int32) (hh : TH), K20 k2 hh → G Y X 3 20 [(0, .ref l0), (1, .int l1), (2, .int k2)] [] r hh) (hK51 : ∀ (hh : TH), K51 hh → G Y X 3 51 [] [] r hh) (hD : DB_Mo_hold_20 r l0 l1 l2 h K20 K51 Q) : G Y X 3 20 [(0, .ref l0), (1, .int l1), (2, .int l2)] [] r h := by
  unfold DB_Mo_hold_20 at hD
  refine g_wt (fun hw => ?_)
  refine g_iload_n (pc := 20) rfl 2 rfl C dX8_hold_20 ?_
  refine g_sipush (pc := 21) (v := 512) (by decide) C dX8_hold_21 ?_
  refine g_icmp_ge (pc := 24) 51 C dX8_hold_24 (by decide) (fun c7 => ?_) (fun c7 => ?_)
  · have hD := hD.1 c7
    refine g_sub [] rfl ?_
    exact hK51 h hD
  · have hD := hD.2 c7
    refine g_aload_n (pc := 27) rfl 0 rfl C dX8_hold_27 ?_
    have u8 : TA Y (r l0 65) 10 1536 := wt_a hw t0 (by decide) (by decide) rfl
    refine g_getR (pc := 28) C fl_RX8_146 t0 rfl dX8_hold_28 ?_
    refine g_sipush (pc := 31) (v := 512) (by decide) C dX8_hold_31 ?_
    refine g_iload_n (pc := 34) rfl 1 rfl C dX8_hold_34 ?_
    refine g_imul (pc := 35) C dX8_hold_35 ?_
    refine g_iload_n (pc := 36) rfl 2 rfl C dX8_hold_36 ?_
    refine g_iadd (pc := 37) C dX8_hold_37 ?_
    refine g_aload_n (pc := 38) rfl 0 rfl C dX8_hold_38 ?_
    have u9 : TA Y (r l0 48) 10 512 := wt_a hw t0 (by decide) (by decide) rfl
    refine g_getR (pc := 39) C fl_RX8_110 t0 rfl dX8_hold_39 ?_
    refine g_iload_n (pc := 42) rfl 2 rfl C dX8_hold_42 ?_
    obtain ⟨hb, hD⟩ := hD
    refine g_iald (pc := 43) C u9 hb dX8_hold_43 ?_
    obtain ⟨hb, hD⟩ := hD
    refine g_iast (pc := 44) C u8 hb dX8_hold_44 (fun h10 eh10 => ?_)
    have hD := hD h10 eh10
    refine g_iinc (pc := 45) (q := 2) (c := 1) (fun x11 => [(2, .int x11), (0, .ref l0), (1, .int l1)]) C dX8_hold_45 rfl (by decide) (by decide) rfl (fun x11 ex11 => ?_)
    have hD := hD x11 ex11
    refine g_goto (pc := 48) 20 C dX8_hold_48 (by decide) ?_
    refine g_sub [1, 2, 0] rfl ?_
    exact hK20 x11 h10 hD
def D_Mo_hold (r : TR) (o : Nat) (a1 : Int32) (h : TH) (Q : Int32 → TH → Prop) : Prop :=
  D_Mo_in r a1 0 2 h (fun x2 h1 => ((¬ x2 = 0 → vp_in a1 3 ∧ ∀ h5, h5 = pI h1 (r o 64) a1.toNatClampNeg (vp_nar .boolean 1) → ∃ n, lp (fun (K : Int32 × TH → Prop) (s : Int32 × TH) => DB_Mo_hold_20 r o a1 s.1 s.2 (fun y12 h13 => K (y12, h13)) (fun h14 => Q 1 h14) Q) n (0, h5)) ∧ (x2 = 0 → Q 0 h1)))
set_option maxRecDepth 100000 in
set_option maxHeartbeats 4000000 in
theorem M_Mo_hold {Y : CG} {r : TR} {l : Launch} {o : Nat} {a1 : Int32} {h : TH} {Q : Int32 → TH → Prop} (t0 : TO Y o 8) (hD : D_Mo_hold r o a1 h Q) : Mi Y r l yX8_hold cX8_hold 3 .boolean 2 [.ref o, .int a1] h Q := by
  unfold D_Mo_hold at hD
  refine Mi.of RX8 rfl (by decide) (by simp [lg_sl, Value.category]) [(0, .ref o), (1, .int a1)] rfl (fun X hXl C R => ?_)
  subst hXl
  refine g_wt (fun hw => ?_)
  refine g_iload_n (pc := 0) rfl 1 rfl C dX8_hold_0 ?_
  refine g_iconst (pc := 1) (v := 0) (by decide) C dX8_hold_1 ?_
  refine g_iconst (pc := 2) (v := 2) (by decide) C dX8_hold_2 ?_
  refine g_callSi (pc := 3) (As := [.int a1, .int 0, .int 2]) C ms_RX8_303 (M_Mo_in  hD) (by decide) rfl rfl (Nat.le_of_ble_eq_true rfl) dX8_hold_3 (fun x2 h1 hD => ?_)
  refine g_if_ne (pc := 6) 11 C dX8_hold_6 (by decide) (fun c3 => ?_) (fun c3 => ?_)
  · have hD := hD.1 c3
    refine g_aload_n (pc := 11) rfl 0 rfl C dX8_hold_11 ?_
    have u4 : TA Y (r o 64) 12 3 := wt_a hw t0 (by decide) (by decide) rfl
    refine g_getR (pc := 12) C fl_RX8_143 t0 rfl dX8_hold_12 ?_
    refine g_iload_n (pc := 15) rfl 1 rfl C dX8_hold_15 ?_
    refine g_iconst (pc := 16) (v := 1) (by decide) C dX8_hold_16 ?_
    obtain ⟨hb, hD⟩ := hD
    refine g_zast (pc := 17) C u4 hb dX8_hold_17 (fun h5 eh5 => ?_)
    have hD := hD h5 eh5
    refine g_iconst (pc := 18) (v := 0) (by decide) C dX8_hold_18 ?_
    refine g_istore_n (pc := 19) (fun _ => [(2, .int 0), (0, .ref o), (1, .int a1)]) C dX8_hold_19 rfl (by decide) rfl (fun _ _ => ?_)
    obtain ⟨n, hD⟩ := hD
    refine g_sub [1, 2, 0] rfl ?_
    refine lp_run (fun s : Int32 × TH => G Y X 3 20 [(0, .ref o), (1, .int a1), (2, .int s.1)] [] r s.2) (fun K s hB hK => ?_) n (0, h5) hD
    refine WB_Mo_hold_20 C R t0 (fun y12 h13 hk => hK _ hk) (fun h14 hD => ?_) hB
    · refine g_iconst (pc := 51) (v := 1) (by decide) C dX8_hold_51 ?_
      exact g_zret (pc := 52) C R nz_1 dX8_hold_52 hD
  · have hD := hD.2 c3
    refine g_iconst (pc := 9) (v := 0) (by decide) C dX8_hold_9 ?_
    exact g_zret (pc := 10) C R nz_0 dX8_hold_10 hD
def DB_Mo_homeAhead_5 (r : TR) (l0 : Nat) (l1 : Int32) (l2 : Int32) (l3 : Int32) (l4 : Int32) (h : TH) (K5 : Int32 → Int32 → TH → Prop) (K67 : Int32 → TH → Prop) (Q : Int32 → TH → Prop) : Prop :=
  ∀ i4 : Int32, i4 = h.1 l0 18 → vp_in i4 2 ∧ (((h.1 (r l0 25) i4.toNatClampNeg) ≤ l4 → K67 l3 h) ∧ (¬ (h.1 (r l0 25) i4.toNatClampNeg) ≤ l4 → ((l4 = l1 → ∀ x7 : Int32, x7 = l4 + 1 → K5 l3 x7 h) ∧ (¬ l4 = l1 → ∀ i9 : Int32, i9 = 12 + l4 → vp_in i9 512 ∧ (((h.1 (r l0 49) i9.toNatClampNeg) ≤ 0 → ∀ x11 : Int32, x11 = l4 + 1 → K5 l3 x11 h) ∧ (¬ (h.1 (r l0 49) i9.toNatClampNeg) ≤ 0 → ∀ i13 : Int32, i13 = 12 + l4 → vp_in i13 512 ∧ (((h.1 (r l0 49) i13.toNatClampNeg) ≤ l2 → ∀ x15 : Int32, x15 = l3 + 1 → ∀ x16 : Int32, x16 = l4 + 1 → K5 x15 x16 h) ∧ (¬ (h.1 (r l0 49) i13.toNatClampNeg) ≤ l2 → ((l1 ≤ l4 → ∀ x18 : Int32, x18 = l4 + 1 → K5 l3 x18 h) ∧ (¬ l1 ≤ l4 → ∀ x19 : Int32, x19 = l3 + 1 → ∀ x20 : Int32, x20 = l4 + 1 → K5 x19 x20 h))))))))))
set_option maxRecDepth 100000 in
set_option maxHeartbeats 4000000 in
theorem WB_Mo_homeAhead_5 {Y : CG} {X : CX} {r : TR} {l0 : Nat} {l1 : Int32} {l2 : Int32} {l3 : Int32} {l4 : Int32} {h : TH} {K5 : Int32 → Int32 → TH → Prop} {K67 : Int32 → TH → Prop} {Q : Int32 → TH → Prop} (C : Gd Y X cX8_homeAhead 5 RX8 1) (R : Ri Y r X .int Q) (t0 : TO Y l0 8) (hK5 : ∀ (k3 : Int32) (k4 : Int32) (hh : TH), K5 k3 k4 hh → G Y X 5 5 [(0, .ref l0), (1, .int l1), (2, .int l2), (3, .int k3), (4, .int k4)] [] r hh) (hK67 : ∀ (k3 : Int32) (hh : TH), K67 k3 hh → G Y X 5 67 [(3, .int k3)] [] r hh) (hD : DB_Mo_homeAhead_5 r l0 l1 l2 l3 l4 h K5 K67 Q) : G Y X 5 5 [(0, .ref l0), (1, .int l1), (2, .int l2), (3, .int l3), (4, .int l4)] [] r h := by
  unfold DB_Mo_homeAhead_5 at hD
  refine g_wt (fun hw => ?_)
  refine g_iload (pc := 5) 4 rfl C dX8_homeAhead_5 ?_
  refine g_aload_n (pc := 7) rfl 0 rfl C dX8_homeAhead_7 ?_
  have u3 : TA Y (r l0 25) 10 2 := wt_a hw t0 (by decide) (by decide) rfl
  refine g_getR (pc := 8) C fl_RX8_52 t0 rfl dX8_homeAhead_8 ?_
  refine g_aload_n (pc := 11) rfl 0 rfl C dX8_homeAhead_11 ?_
  refine g_getI (pc := 12) C fl_RX8_230 t0 rfl dX8_homeAhead_12 ?_
  refine g_topi (fun i4 ei4 => ?_)
  have hD := hD i4 ei4
  obtain ⟨hb, hD⟩ := hD
  refine g_iald (pc := 15) C u3 hb dX8_homeAhead_15 ?_
  refine g_icmp_ge (pc := 16) 67 C dX8_homeAhead_16 (by decide) (fun c5 => ?_) (fun c5 => ?_)
  · have hD := hD.1 c5
    refine g_sub [3] rfl ?_
    exact hK67 l3 h hD
  · have hD := hD.2 c5
    refine g_iload (pc := 19) 4 rfl C dX8_homeAhead_19 ?_
    refine g_iload_n (pc := 21) rfl 1 rfl C dX8_homeAhead_21 ?_
    refine g_icmp_eq (pc := 22) 61 C dX8_homeAhead_22 (by decide) (fun c6 => ?_) (fun c6 => ?_)
    · have hD := hD.1 c6
      refine g_iinc (pc := 61) (q := 4) (c := 1) (fun x7 => [(4, .int x7), (0, .ref l0), (1, .int l1), (2, .int l2), (3, .int l3)]) C dX8_homeAhead_61 rfl (by decide) (by decide) rfl (fun x7 ex7 => ?_)
      have hD := hD x7 ex7
      refine g_goto (pc := 64) 5 C dX8_homeAhead_64 (by decide) ?_
      refine g_sub [1, 2, 3, 4, 0] rfl ?_
      exact hK5 l3 x7 h hD
    · have hD := hD.2 c6
      refine g_aload_n (pc := 25) rfl 0 rfl C dX8_homeAhead_25 ?_
      have u8 : TA Y (r l0 49) 10 512 := wt_a hw t0 (by decide) (by decide) rfl
      refine g_getR (pc := 26) C fl_RX8_113 t0 rfl dX8_homeAhead_26 ?_
      refine g_bipush (pc := 29) (v := 12) (by decide) C dX8_homeAhead_29 ?_
      refine g_iload (pc := 31) 4 rfl C dX8_homeAhead_31 ?_
      refine g_iadd (pc := 33) C dX8_homeAhead_33 ?_
      refine g_topi (fun i9 ei9 => ?_)
      have hD := hD i9 ei9
      obtain ⟨hb, hD⟩ := hD
      refine g_iald (pc := 34) C u8 hb dX8_homeAhead_34 ?_
      refine g_if_le (pc := 35) 61 C dX8_homeAhead_35 (by decide) (fun c10 => ?_) (fun c10 => ?_)
      · have hD := hD.1 c10
        refine g_iinc (pc := 61) (q := 4) (c := 1) (fun x11 => [(4, .int x11), (0, .ref l0), (1, .int l1), (2, .int l2), (3, .int l3)]) C dX8_homeAhead_61 rfl (by decide) (by decide) rfl (fun x11 ex11 => ?_)
        have hD := hD x11 ex11
        refine g_goto (pc := 64) 5 C dX8_homeAhead_64 (by decide) ?_
        refine g_sub [1, 2, 3, 4, 0] rfl ?_
        exact hK5 l3 x11 h hD
      · have hD := hD.2 c10
        refine g_aload_n (pc := 38) rfl 0 rfl C dX8_homeAhead_38 ?_
        have u12 : TA Y (r l0 49) 10 512 := wt_a hw t0 (by decide) (by decide) rfl
        refine g_getR (pc := 39) C fl_RX8_113 t0 rfl dX8_homeAhead_39 ?_
        refine g_bipush (pc := 42) (v := 12) (by decide) C dX8_homeAhead_42 ?_
        refine g_iload (pc := 44) 4 rfl C dX8_homeAhead_44 ?_
        refine g_iadd (pc := 46) C dX8_homeAhead_46 ?_
        refine g_topi (fun i13 ei13 => ?_)
        have hD := hD i13 ei13
        obtain ⟨hb, hD⟩ := hD
        refine g_iald (pc := 47) C u12 hb dX8_homeAhead_47 ?_
        refine g_iload_n (pc := 48) rfl 2 rfl C dX8_homeAhead_48 ?_
        refine g_icmp_le (pc := 49) 58 C dX8_homeAhead_49 (by decide) (fun c14 => ?_) (fun c14 => ?_)
        · have hD := hD.1 c14
          refine g_iinc (pc := 58) (q := 3) (c := 1) (fun x15 => [(3, .int x15), (0, .ref l0), (1, .int l1), (2, .int l2), (4, .int l4)]) C dX8_homeAhead_58 rfl (by decide) (by decide) rfl (fun x15 ex15 => ?_)
          have hD := hD x15 ex15
          refine g_iinc (pc := 61) (q := 4) (c := 1) (fun x16 => [(4, .int x16), (3, .int x15), (0, .ref l0), (1, .int l1), (2, .int l2)]) C dX8_homeAhead_61 rfl (by decide) (by decide) rfl (fun x16 ex16 => ?_)
          have hD := hD x16 ex16
          refine g_goto (pc := 64) 5 C dX8_homeAhead_64 (by decide) ?_
          refine g_sub [2, 3, 4, 1, 0] rfl ?_
          exact hK5 x15 x16 h hD
        · have hD := hD.2 c14
          refine g_iload (pc := 52) 4 rfl C dX8_homeAhead_52 ?_
          refine g_iload_n (pc := 54) rfl 1 rfl C dX8_homeAhead_54 ?_
          refine g_icmp_ge (pc := 55) 61 C dX8_homeAhead_55 (by decide) (fun c17 => ?_) (fun c17 => ?_)
          · have hD := hD.1 c17
            refine g_iinc (pc := 61) (q := 4) (c := 1) (fun x18 => [(4, .int x18), (0, .ref l0), (1, .int l1), (2, .int l2), (3, .int l3)]) C dX8_homeAhead_61 rfl (by decide) (by decide) rfl (fun x18 ex18 => ?_)
            have hD := hD x18 ex18
            refine g_goto (pc := 64) 5 C dX8_homeAhead_64 (by decide) ?_
            refine g_sub [1, 2, 3, 4, 0] rfl ?_
            exact hK5 l3 x18 h hD
          · have hD := hD.2 c17
            refine g_iinc (pc := 58) (q := 3) (c := 1) (fun x19 => [(3, .int x19), (0, .ref l0), (1, .int l1), (2, .int l2), (4, .int l4)]) C dX8_homeAhead_58 rfl (by decide) (by decide) rfl (fun x19 ex19 => ?_)
            have hD := hD x19 ex19
            refine g_iinc (pc := 61) (q := 4) (c := 1) (fun x20 => [(4, .int x20), (3, .int x19), (0, .ref l0), (1, .int l1), (2, .int l2)]) C dX8_homeAhead_61 rfl (by decide) (by decide) rfl (fun x20 ex20 => ?_)
            have hD := hD x20 ex20
            refine g_goto (pc := 64) 5 C dX8_homeAhead_64 (by decide) ?_
            refine g_sub [2, 3, 4, 1, 0] rfl ?_
            exact hK5 x19 x20 h hD
def D_Mo_homeAhead (r : TR) (o : Nat) (a1 : Int32) (a2 : Int32) (h : TH) (Q : Int32 → TH → Prop) : Prop :=
  ∃ n, lp (fun (K : Int32 × Int32 × TH → Prop) (s : Int32 × Int32 × TH) => DB_Mo_homeAhead_5 r o a1 a2 s.1 s.2.1 s.2.2 (fun y21 y22 h23 => K (y21, y22, h23)) (fun x24 h25 => Q x24 h25) Q) n (0, 0, h)
set_option maxRecDepth 100000 in
set_option maxHeartbeats 4000000 in
theorem M_Mo_homeAhead {Y : CG} {r : TR} {l : Launch} {o : Nat} {a1 : Int32} {a2 : Int32} {h : TH} {Q : Int32 → TH → Prop} (t0 : TO Y o 8) (hD : D_Mo_homeAhead r o a1 a2 h Q) : Mi Y r l yX8_homeAhead cX8_homeAhead 5 .int 1 [.ref o, .int a1, .int a2] h Q := by
  unfold D_Mo_homeAhead at hD
  refine Mi.of RX8 rfl (by decide) (by simp [lg_sl, Value.category]) [(0, .ref o), (1, .int a1), (2, .int a2)] rfl (fun X hXl C R => ?_)
  subst hXl
  refine g_wt (fun hw => ?_)
  refine g_iconst (pc := 0) (v := 0) (by decide) C dX8_homeAhead_0 ?_
  refine g_istore_n (pc := 1) (fun _ => [(3, .int 0), (0, .ref o), (1, .int a1), (2, .int a2)]) C dX8_homeAhead_1 rfl (by decide) rfl (fun _ _ => ?_)
  refine g_iconst (pc := 2) (v := 0) (by decide) C dX8_homeAhead_2 ?_
  refine g_istore (pc := 3) (fun _ => [(4, .int 0), (3, .int 0), (0, .ref o), (1, .int a1), (2, .int a2)]) C dX8_homeAhead_3 (by decide) rfl (fun _ _ => ?_)
  obtain ⟨n, hD⟩ := hD
  refine g_sub [2, 3, 4, 1, 0] rfl ?_
  refine lp_run (fun s : Int32 × Int32 × TH => G Y X 5 5 [(0, .ref o), (1, .int a1), (2, .int a2), (3, .int s.1), (4, .int s.2.1)] [] r s.2.2) (fun K s hB hK => ?_) n (0, 0, h) hD
  refine WB_Mo_homeAhead_5 C R t0 (fun y21 y22 h23 hk => hK _ hk) (fun x24 h25 hD => ?_) hB
  · refine g_iload_n (pc := 67) rfl 0 rfl C dX8_homeAhead_67 ?_
    exact g_iret (pc := 68) C R dX8_homeAhead_68 hD
def D_Mo_hours (r : TR) (o : Nat) (a1 : Int32) (h : TH) (Q : Int32 → TH → Prop) : Prop :=
  D_Mo_in r a1 0 100 h (fun x2 h1 => ((¬ x2 = 0 → ((¬ a1 = 0 → D_Mo_copies r o h1 (fun h5 => D_Mo_goes r o a1 h5 (fun h7 => D_Mo_keeps r o h7 (fun h9 => Q (h9.1 (r o 48) ((30 : Int32).toNatClampNeg)) h9)))) ∧ (a1 = 0 → Q (h1.1 (r o 48) ((30 : Int32).toNatClampNeg)) h1))) ∧ (x2 = 0 → Q (-1) h1)))
set_option maxRecDepth 100000 in
set_option maxHeartbeats 4000000 in
theorem M_Mo_hours {Y : CG} {r : TR} {l : Launch} {o : Nat} {a1 : Int32} {h : TH} {Q : Int32 → TH → Prop} (t0 : TO Y o 8) (hD : D_Mo_hours r o a1 h Q) : Mi Y r l yX8_hours cX8_hours 2 .int 7 [.ref o, .int a1] h Q := by
  unfold D_Mo_hours at hD
  refine Mi.of RX8 rfl (by decide) (by simp [lg_sl, Value.category]) [(0, .ref o), (1, .int a1)] rfl (fun X hXl C R => ?_)
  subst hXl
  refine g_wt (fun hw => ?_)
  refine g_iload_n (pc := 0) rfl 1 rfl C dX8_hours_0 ?_
  refine g_iconst (pc := 1) (v := 0) (by decide) C dX8_hours_1 ?_
  refine g_bipush (pc := 2) (v := 100) (by decide) C dX8_hours_2 ?_
  refine g_callSi (pc := 4) (As := [.int a1, .int 0, .int 100]) C ms_RX8_303 (M_Mo_in  hD) (by decide) rfl rfl (Nat.le_of_ble_eq_true rfl) dX8_hours_4 (fun x2 h1 hD => ?_)
  refine g_if_ne (pc := 7) 12 C dX8_hours_7 (by decide) (fun c3 => ?_) (fun c3 => ?_)
  · have hD := hD.1 c3
    refine g_iload_n (pc := 12) rfl 1 rfl C dX8_hours_12 ?_
    refine g_if_ne (pc := 13) 24 C dX8_hours_13 (by decide) (fun c4 => ?_) (fun c4 => ?_)
    · have hD := hD.1 c4
      refine g_aload_n (pc := 24) rfl 0 rfl C dX8_hours_24 ?_
      refine g_callVv (pc := 25) (As := []) C mv_RX8_397 (M_Mo_copies t0 hD) t0 (by decide) rfl rfl (Nat.le_of_ble_eq_true rfl) dX8_hours_25 (fun h5 hD => ?_)
      refine g_aload_n (pc := 28) rfl 0 rfl C dX8_hours_28 ?_
      refine g_iload_n (pc := 29) rfl 1 rfl C dX8_hours_29 ?_
      refine g_callVv (pc := 30) (As := [.int a1]) C mv_RX8_403 (M_Mo_goes t0 hD) t0 (by decide) rfl rfl (Nat.le_of_ble_eq_true rfl) dX8_hours_30 (fun h7 hD => ?_)
      refine g_aload_n (pc := 33) rfl 0 rfl C dX8_hours_33 ?_
      refine g_callVv (pc := 34) (As := []) C mv_RX8_406 (M_Mo_keeps t0 hD) t0 (by decide) rfl rfl (Nat.le_of_ble_eq_true rfl) dX8_hours_34 (fun h9 hD => ?_)
      refine g_aload_n (pc := 37) rfl 0 rfl C dX8_hours_37 ?_
      have u11 : TA Y (r o 48) 10 512 := wt_a hw t0 (by decide) (by decide) rfl
      refine g_getR (pc := 38) C fl_RX8_110 t0 rfl dX8_hours_38 ?_
      refine g_bipush (pc := 41) (v := 30) (by decide) C dX8_hours_41 ?_
      refine g_iald (pc := 43) C u11 (by unfold vp_in; decide) dX8_hours_43 ?_
      exact g_iret (pc := 44) C R dX8_hours_44 hD
    · have hD := hD.2 c4
      refine g_aload_n (pc := 16) rfl 0 rfl C dX8_hours_16 ?_
      have u12 : TA Y (r o 48) 10 512 := wt_a hw t0 (by decide) (by decide) rfl
      refine g_getR (pc := 17) C fl_RX8_110 t0 rfl dX8_hours_17 ?_
      refine g_bipush (pc := 20) (v := 30) (by decide) C dX8_hours_20 ?_
      refine g_iald (pc := 22) C u12 (by unfold vp_in; decide) dX8_hours_22 ?_
      exact g_iret (pc := 23) C R dX8_hours_23 hD
  · have hD := hD.2 c3
    refine g_iconst (pc := 10) (v := (-1)) (by decide) C dX8_hours_10 ?_
    exact g_iret (pc := 11) C R dX8_hours_11 hD
def D_Mo_soonestOf (r : TR) (o : Nat) (a1 : Int32) (h : TH) (Q : Int32 → TH → Prop) : Prop :=
  D_Mo_copies r o h (fun h1 => D_Mo_isLost r o a1 h1 (fun x4 h3 => ((x4 = 0 → D_Mo_fillsFar r o h3 (fun h6 => vp_in a1 512 ∧ ∀ i10 : Int32, i10 = 6 + a1 → vp_in i10 512 ∧ D_Mo_farAt r o (h6.1 (r o 49) a1.toNatClampNeg) (h6.1 (r o 49) i10.toNatClampNeg) h6 (fun x12 h11 => ((0 ≤ x12 → Q x12 h11) ∧ (¬ 0 ≤ x12 → Q (-2) h11))))) ∧ (¬ x4 = 0 → Q (-2) h3))))
set_option maxRecDepth 100000 in
set_option maxHeartbeats 4000000 in
theorem M_Mo_soonestOf {Y : CG} {r : TR} {l : Launch} {o : Nat} {a1 : Int32} {h : TH} {Q : Int32 → TH → Prop} (t0 : TO Y o 8) (hD : D_Mo_soonestOf r o a1 h Q) : Mi Y r l yX8_soonestOf cX8_soonestOf 3 .int 6 [.ref o, .int a1] h Q := by
  unfold D_Mo_soonestOf at hD
  refine Mi.of RX8 rfl (by decide) (by simp [lg_sl, Value.category]) [(0, .ref o), (1, .int a1)] rfl (fun X hXl C R => ?_)
  subst hXl
  refine g_wt (fun hw => ?_)
  refine g_aload_n (pc := 0) rfl 0 rfl C dX8_soonestOf_0 ?_
  refine g_callVv (pc := 1) (As := []) C mv_RX8_397 (M_Mo_copies t0 hD) t0 (by decide) rfl rfl (Nat.le_of_ble_eq_true rfl) dX8_soonestOf_1 (fun h1 hD => ?_)
  refine g_aload_n (pc := 4) rfl 0 rfl C dX8_soonestOf_4 ?_
  refine g_iload_n (pc := 5) rfl 1 rfl C dX8_soonestOf_5 ?_
  refine g_callVi (pc := 6) (As := [.int a1]) C mv_RX8_385 (M_Mo_isLost t0 hD) t0 (by decide) rfl rfl (Nat.le_of_ble_eq_true rfl) dX8_soonestOf_6 (fun x4 h3 hD => ?_)
  refine g_if_eq (pc := 9) 15 C dX8_soonestOf_9 (by decide) (fun c5 => ?_) (fun c5 => ?_)
  · have hD := hD.1 c5
    refine g_aload_n (pc := 15) rfl 0 rfl C dX8_soonestOf_15 ?_
    refine g_callVv (pc := 16) (As := []) C mv_RX8_425 (M_Mo_fillsFar t0 hD) t0 (by decide) rfl rfl (Nat.le_of_ble_eq_true rfl) dX8_soonestOf_16 (fun h6 hD => ?_)
    refine g_aload_n (pc := 19) rfl 0 rfl C dX8_soonestOf_19 ?_
    refine g_aload_n (pc := 20) rfl 0 rfl C dX8_soonestOf_20 ?_
    have u8 : TA Y (r o 49) 10 512 := wt_a hw t0 (by decide) (by decide) rfl
    refine g_getR (pc := 21) C fl_RX8_113 t0 rfl dX8_soonestOf_21 ?_
    refine g_iload_n (pc := 24) rfl 1 rfl C dX8_soonestOf_24 ?_
    obtain ⟨hb, hD⟩ := hD
    refine g_iald (pc := 25) C u8 hb dX8_soonestOf_25 ?_
    refine g_aload_n (pc := 26) rfl 0 rfl C dX8_soonestOf_26 ?_
    have u9 : TA Y (r o 49) 10 512 := wt_a hw t0 (by decide) (by decide) rfl
    refine g_getR (pc := 27) C fl_RX8_113 t0 rfl dX8_soonestOf_27 ?_
    refine g_bipush (pc := 30) (v := 6) (by decide) C dX8_soonestOf_30 ?_
    refine g_iload_n (pc := 32) rfl 1 rfl C dX8_soonestOf_32 ?_
    refine g_iadd (pc := 33) C dX8_soonestOf_33 ?_
    refine g_topi (fun i10 ei10 => ?_)
    have hD := hD i10 ei10
    obtain ⟨hb, hD⟩ := hD
    refine g_iald (pc := 34) C u9 hb dX8_soonestOf_34 ?_
    refine g_callVi (pc := 35) (As := [.int (h6.1 (r o 49) a1.toNatClampNeg), .int (h6.1 (r o 49) i10.toNatClampNeg)]) C mv_RX8_419 (M_Mo_farAt t0 hD) t0 (by decide) rfl rfl (Nat.le_of_ble_eq_true rfl) dX8_soonestOf_35 (fun x12 h11 hD => ?_)
    refine g_istore_n (pc := 38) (fun _ => [(2, .int x12), (0, .ref o), (1, .int a1)]) C dX8_soonestOf_38 rfl (by decide) rfl (fun _ _ => ?_)
    refine g_iload_n (pc := 39) rfl 0 rfl C dX8_soonestOf_39 ?_
    refine g_if_ge (pc := 40) 48 C dX8_soonestOf_40 (by decide) (fun c14 => ?_) (fun c14 => ?_)
    · have hD := hD.1 c14
      refine g_iload_n (pc := 48) rfl 0 rfl C dX8_soonestOf_48 ?_
      exact g_iret (pc := 49) C R dX8_soonestOf_49 hD
    · have hD := hD.2 c14
      refine g_bipush (pc := 43) (v := (-2)) (by decide) C dX8_soonestOf_43 ?_
      refine g_goto (pc := 45) 49 C dX8_soonestOf_45 (by decide) ?_
      exact g_iret (pc := 49) C R dX8_soonestOf_49 hD
  · have hD := hD.2 c5
    refine g_bipush (pc := 12) (v := (-2)) (by decide) C dX8_soonestOf_12 ?_
    exact g_iret (pc := 14) C R dX8_soonestOf_14 hD
def DB_Mo_inPlace_42 (r : TR) (l0 : Nat) (l1 : Int32) (l2 : Int32) (l3 : Int32) (l4 : Int32) (h : TH) (K42 : Int32 → TH → Prop) (K90 : TH → Prop) (Q : Int32 → TH → Prop) : Prop :=
  ((40 < l4 → K90 h) ∧ (¬ 40 < l4 → ∀ x15 : Int32, x15 = h.1 (r l0 49) ((31 : Int32).toNatClampNeg) → D_Mo_hourGoes r l0 h (fun h16 => ((l4 < l3 → ∀ x19 : Int32, x19 = l4 + 1 → K42 x19 h16) ∧ (¬ l4 < l3 → D_Mo_homeAhead r l0 l1 x15 h16 (fun x21 h20 => ((¬ x21 = (l2 - 1) → ∀ x23 : Int32, x23 = l4 + 1 → K42 x23 h20) ∧ (x21 = (l2 - 1) → Q l4 h20))))))))
set_option maxRecDepth 100000 in
set_option maxHeartbeats 4000000 in
theorem WB_Mo_inPlace_42 {Y : CG} {X : CX} {r : TR} {l0 : Nat} {l1 : Int32} {l2 : Int32} {l3 : Int32} {l4 : Int32} {h : TH} {K42 : Int32 → TH → Prop} {K90 : TH → Prop} {Q : Int32 → TH → Prop} (C : Gd Y X cX8_inPlace 6 RX8 7) (R : Ri Y r X .int Q) (t0 : TO Y l0 8) (hK42 : ∀ (k4 : Int32) (hh : TH), K42 k4 hh → G Y X 6 42 [(0, .ref l0), (1, .int l1), (2, .int l2), (3, .int l3), (4, .int k4)] [] r hh) (hK90 : ∀ (hh : TH), K90 hh → G Y X 6 90 [] [] r hh) (hD : DB_Mo_inPlace_42 r l0 l1 l2 l3 l4 h K42 K90 Q) : G Y X 6 42 [(0, .ref l0), (1, .int l1), (2, .int l2), (3, .int l3), (4, .int l4)] [] r h := by
  unfold DB_Mo_inPlace_42 at hD
  refine g_wt (fun hw => ?_)
  refine g_iload (pc := 42) 4 rfl C dX8_inPlace_42 ?_
  refine g_bipush (pc := 44) (v := 40) (by decide) C dX8_inPlace_44 ?_
  refine g_icmp_gt (pc := 46) 90 C dX8_inPlace_46 (by decide) (fun c13 => ?_) (fun c13 => ?_)
  · have hD := hD.1 c13
    refine g_sub [] rfl ?_
    exact hK90 h hD
  · have hD := hD.2 c13
    refine g_aload_n (pc := 49) rfl 0 rfl C dX8_inPlace_49 ?_
    have u14 : TA Y (r l0 49) 10 512 := wt_a hw t0 (by decide) (by decide) rfl
    refine g_getR (pc := 50) C fl_RX8_113 t0 rfl dX8_inPlace_50 ?_
    refine g_bipush (pc := 53) (v := 31) (by decide) C dX8_inPlace_53 ?_
    refine g_iald (pc := 55) C u14 (by unfold vp_in; decide) dX8_inPlace_55 ?_
    refine g_istore (pc := 56) (fun x15 => [(5, .int x15), (0, .ref l0), (1, .int l1), (2, .int l2), (3, .int l3), (4, .int l4)]) C dX8_inPlace_56 (by decide) rfl (fun x15 ex15 => ?_)
    have hD := hD x15 ex15
    refine g_aload_n (pc := 58) rfl 1 rfl C dX8_inPlace_58 ?_
    refine g_callVv (pc := 59) (As := []) C mv_RX8_382 (M_Mo_hourGoes t0 hD) t0 (by decide) rfl rfl (Nat.le_of_ble_eq_true rfl) dX8_inPlace_59 (fun h16 hD => ?_)
    refine g_iload (pc := 62) 5 rfl C dX8_inPlace_62 ?_
    refine g_iload_n (pc := 64) rfl 4 rfl C dX8_inPlace_64 ?_
    refine g_icmp_lt (pc := 65) 84 C dX8_inPlace_65 (by decide) (fun c18 => ?_) (fun c18 => ?_)
    · have hD := hD.1 c18
      refine g_iinc (pc := 84) (q := 5) (c := 1) (fun x19 => [(4, .int x19), (5, .int x15), (0, .ref l0), (1, .int l1), (2, .int l2), (3, .int l3)]) C dX8_inPlace_84 rfl (by decide) (by decide) rfl (fun x19 ex19 => ?_)
      have hD := hD x19 ex19
      refine g_goto (pc := 87) 42 C dX8_inPlace_87 (by decide) ?_
      refine g_sub [2, 3, 4, 5, 0] rfl ?_
      exact hK42 x19 h16 hD
    · have hD := hD.2 c18
      refine g_aload_n (pc := 68) rfl 1 rfl C dX8_inPlace_68 ?_
      refine g_iload_n (pc := 69) rfl 2 rfl C dX8_inPlace_69 ?_
      refine g_iload (pc := 70) 0 rfl C dX8_inPlace_70 ?_
      refine g_callVi (pc := 72) (As := [.int l1, .int x15]) C mv_RX8_437 (M_Mo_homeAhead t0 hD) t0 (by decide) rfl rfl (Nat.le_of_ble_eq_true rfl) dX8_inPlace_72 (fun x21 h20 hD => ?_)
      refine g_iload_n (pc := 75) rfl 3 rfl C dX8_inPlace_75 ?_
      refine g_iconst (pc := 76) (v := 1) (by decide) C dX8_inPlace_76 ?_
      refine g_isub (pc := 77) C dX8_inPlace_77 ?_
      refine g_icmp_ne (pc := 78) 84 C dX8_inPlace_78 (by decide) (fun c22 => ?_) (fun c22 => ?_)
      · have hD := hD.1 c22
        refine g_iinc (pc := 84) (q := 5) (c := 1) (fun x23 => [(4, .int x23), (5, .int x15), (0, .ref l0), (1, .int l1), (2, .int l2), (3, .int l3)]) C dX8_inPlace_84 rfl (by decide) (by decide) rfl (fun x23 ex23 => ?_)
        have hD := hD x23 ex23
        refine g_goto (pc := 87) 42 C dX8_inPlace_87 (by decide) ?_
        refine g_sub [2, 3, 4, 5, 0] rfl ?_
        exact hK42 x23 h20 hD
      · have hD := hD.2 c22
        refine g_iload (pc := 81) 5 rfl C dX8_inPlace_81 ?_
        exact g_iret (pc := 83) C R dX8_inPlace_83 hD
def D_Mo_inPlace (r : TR) (o : Nat) (a1 : Int32) (a2 : Int32) (h : TH) (Q : Int32 → TH → Prop) : Prop :=
  D_Mo_isBoat r o a1 h (fun x2 h1 => ((x2 = 0 → Q (-1) h1) ∧ (¬ x2 = 0 → D_Mo_in r a2 1 6 h1 (fun x5 h4 => ((¬ x5 = 0 → D_Mo_soonestOf r o a1 h4 (fun x8 h7 => ((1 ≤ x8 → ∀ h11, h11 = pI h7 o 51 a1 → ∃ n, lp (fun (K : Int32 × TH → Prop) (s : Int32 × TH) => DB_Mo_inPlace_42 r o a1 a2 x8 s.1 s.2 (fun y24 h25 => K (y24, h25)) (fun h26 => Q (-2) h26) Q) n (1, h11)) ∧ (¬ 1 ≤ x8 → Q (-2) h7)))) ∧ (x5 = 0 → Q (-1) h4))))))
set_option maxRecDepth 100000 in
set_option maxHeartbeats 4000000 in
theorem M_Mo_inPlace {Y : CG} {r : TR} {l : Launch} {o : Nat} {a1 : Int32} {a2 : Int32} {h : TH} {Q : Int32 → TH → Prop} (t0 : TO Y o 8) (hD : D_Mo_inPlace r o a1 a2 h Q) : Mi Y r l yX8_inPlace cX8_inPlace 6 .int 7 [.ref o, .int a1, .int a2] h Q := by
  unfold D_Mo_inPlace at hD
  refine Mi.of RX8 rfl (by decide) (by simp [lg_sl, Value.category]) [(0, .ref o), (1, .int a1), (2, .int a2)] rfl (fun X hXl C R => ?_)
  subst hXl
  refine g_wt (fun hw => ?_)
  refine g_aload_n (pc := 0) rfl 0 rfl C dX8_inPlace_0 ?_
  refine g_iload_n (pc := 1) rfl 1 rfl C dX8_inPlace_1 ?_
  refine g_callVi (pc := 2) (As := [.int a1]) C mv_RX8_394 (M_Mo_isBoat t0 hD) t0 (by decide) rfl rfl (Nat.le_of_ble_eq_true rfl) dX8_inPlace_2 (fun x2 h1 hD => ?_)
  refine g_if_eq (pc := 5) 18 C dX8_inPlace_5 (by decide) (fun c3 => ?_) (fun c3 => ?_)
  · have hD := hD.1 c3
    refine g_iconst (pc := 18) (v := (-1)) (by decide) C dX8_inPlace_18 ?_
    exact g_iret (pc := 19) C R dX8_inPlace_19 hD
  · have hD := hD.2 c3
    refine g_iload_n (pc := 8) rfl 2 rfl C dX8_inPlace_8 ?_
    refine g_iconst (pc := 9) (v := 1) (by decide) C dX8_inPlace_9 ?_
    refine g_bipush (pc := 10) (v := 6) (by decide) C dX8_inPlace_10 ?_
    refine g_callSi (pc := 12) (As := [.int a2, .int 1, .int 6]) C ms_RX8_303 (M_Mo_in  hD) (by decide) rfl rfl (Nat.le_of_ble_eq_true rfl) dX8_inPlace_12 (fun x5 h4 hD => ?_)
    refine g_if_ne (pc := 15) 20 C dX8_inPlace_15 (by decide) (fun c6 => ?_) (fun c6 => ?_)
    · have hD := hD.1 c6
      refine g_aload_n (pc := 20) rfl 0 rfl C dX8_inPlace_20 ?_
      refine g_iload_n (pc := 21) rfl 1 rfl C dX8_inPlace_21 ?_
      refine g_callVi (pc := 22) (As := [.int a1]) C mv_RX8_428 (M_Mo_soonestOf t0 hD) t0 (by decide) rfl rfl (Nat.le_of_ble_eq_true rfl) dX8_inPlace_22 (fun x8 h7 hD => ?_)
      refine g_istore_n (pc := 25) (fun _ => [(3, .int x8), (0, .ref o), (1, .int a1), (2, .int a2)]) C dX8_inPlace_25 rfl (by decide) rfl (fun _ _ => ?_)
      refine g_iload_n (pc := 26) rfl 0 rfl C dX8_inPlace_26 ?_
      refine g_iconst (pc := 27) (v := 1) (by decide) C dX8_inPlace_27 ?_
      refine g_icmp_ge (pc := 28) 34 C dX8_inPlace_28 (by decide) (fun c10 => ?_) (fun c10 => ?_)
      · have hD := hD.1 c10
        refine g_aload_n (pc := 34) rfl 1 rfl C dX8_inPlace_34 ?_
        refine g_iload_n (pc := 35) rfl 2 rfl C dX8_inPlace_35 ?_
        refine g_putI (pc := 36) C fl_RX8_310 t0 rfl rfl rfl dX8_inPlace_36 (fun h11 eh11 => ?_)
        have hD := hD h11 eh11
        refine g_iconst (pc := 39) (v := 1) (by decide) C dX8_inPlace_39 ?_
        refine g_istore (pc := 40) (fun _ => [(4, .int 1), (3, .int x8), (0, .ref o), (1, .int a1), (2, .int a2)]) C dX8_inPlace_40 (by decide) rfl (fun _ _ => ?_)
        obtain ⟨n, hD⟩ := hD
        refine g_sub [2, 3, 4, 1, 0] rfl ?_
        refine lp_run (fun s : Int32 × TH => G Y X 6 42 [(0, .ref o), (1, .int a1), (2, .int a2), (3, .int x8), (4, .int s.1)] [] r s.2) (fun K s hB hK => ?_) n (1, h11) hD
        refine WB_Mo_inPlace_42 C R t0 (fun y24 h25 hk => hK _ hk) (fun h26 hD => ?_) hB
        · refine g_bipush (pc := 90) (v := (-2)) (by decide) C dX8_inPlace_90 ?_
          exact g_iret (pc := 92) C R dX8_inPlace_92 hD
      · have hD := hD.2 c10
        refine g_bipush (pc := 31) (v := (-2)) (by decide) C dX8_inPlace_31 ?_
        exact g_iret (pc := 33) C R dX8_inPlace_33 hD
    · have hD := hD.2 c6
      refine g_iconst (pc := 18) (v := (-1)) (by decide) C dX8_inPlace_18 ?_
      exact g_iret (pc := 19) C R dX8_inPlace_19 hD
def D_Mo_isAfloat (r : TR) (o : Nat) (a1 : Int32) (h : TH) (Q : Int32 → TH → Prop) : Prop :=
  ∀ i2 : Int32, i2 = (6 * (h.1 o 19)) + a1 → vp_in i2 12 ∧ ∀ x3 : Int32, x3 = h.1 (r o 26) i2.toNatClampNeg → ∀ i5 : Int32, i5 = (6 * (h.1 o 19)) + a1 → vp_in i5 12 ∧ ∀ x6 : Int32, x6 = h.1 (r o 27) i5.toNatClampNeg → ∀ i8 : Int32, i8 = h.1 o 19 → vp_in i8 2 ∧ (((h.1 (r o 23) i8.toNatClampNeg) ≤ x3 → Q 0 h) ∧ (¬ (h.1 (r o 23) i8.toNatClampNeg) ≤ x3 → ∀ i11 : Int32, i11 = h.1 o 19 → vp_in i11 2 ∧ (((h.1 (r o 22) i11.toNatClampNeg) ≤ x6 → Q 0 h) ∧ (¬ (h.1 (r o 22) i11.toNatClampNeg) ≤ x6 → ∀ i14 : Int32, i14 = ((40 * (h.1 o 19)) + (8 * x6)) + x3 → vp_in i14 80 ∧ (((h.1 (r o 24) i14.toNatClampNeg) = 1 → Q 0 h) ∧ (¬ (h.1 (r o 24) i14.toNatClampNeg) = 1 → Q 1 h))))))
set_option maxRecDepth 100000 in
set_option maxHeartbeats 4000000 in
theorem M_Mo_isAfloat {Y : CG} {r : TR} {l : Launch} {o : Nat} {a1 : Int32} {h : TH} {Q : Int32 → TH → Prop} (t0 : TO Y o 8) (hD : D_Mo_isAfloat r o a1 h Q) : Mi Y r l yX8_isAfloat cX8_isAfloat 4 .boolean 1 [.ref o, .int a1] h Q := by
  unfold D_Mo_isAfloat at hD
  refine Mi.of RX8 rfl (by decide) (by simp [lg_sl, Value.category]) [(0, .ref o), (1, .int a1)] rfl (fun X hXl C R => ?_)
  subst hXl
  refine g_wt (fun hw => ?_)
  refine g_aload_n (pc := 0) rfl 0 rfl C dX8_isAfloat_0 ?_
  have u1 : TA Y (r o 26) 10 12 := wt_a hw t0 (by decide) (by decide) rfl
  refine g_getR (pc := 1) C fl_RX8_55 t0 rfl dX8_isAfloat_1 ?_
  refine g_bipush (pc := 4) (v := 6) (by decide) C dX8_isAfloat_4 ?_
  refine g_aload_n (pc := 6) rfl 0 rfl C dX8_isAfloat_6 ?_
  refine g_getI (pc := 7) C fl_RX8_233 t0 rfl dX8_isAfloat_7 ?_
  refine g_imul (pc := 10) C dX8_isAfloat_10 ?_
  refine g_iload_n (pc := 11) rfl 1 rfl C dX8_isAfloat_11 ?_
  refine g_iadd (pc := 12) C dX8_isAfloat_12 ?_
  refine g_topi (fun i2 ei2 => ?_)
  have hD := hD i2 ei2
  obtain ⟨hb, hD⟩ := hD
  refine g_iald (pc := 13) C u1 hb dX8_isAfloat_13 ?_
  refine g_istore_n (pc := 14) (fun x3 => [(2, .int x3), (0, .ref o), (1, .int a1)]) C dX8_isAfloat_14 rfl (by decide) rfl (fun x3 ex3 => ?_)
  have hD := hD x3 ex3
  refine g_aload_n (pc := 15) rfl 1 rfl C dX8_isAfloat_15 ?_
  have u4 : TA Y (r o 27) 10 12 := wt_a hw t0 (by decide) (by decide) rfl
  refine g_getR (pc := 16) C fl_RX8_58 t0 rfl dX8_isAfloat_16 ?_
  refine g_bipush (pc := 19) (v := 6) (by decide) C dX8_isAfloat_19 ?_
  refine g_aload_n (pc := 21) rfl 1 rfl C dX8_isAfloat_21 ?_
  refine g_getI (pc := 22) C fl_RX8_233 t0 rfl dX8_isAfloat_22 ?_
  refine g_imul (pc := 25) C dX8_isAfloat_25 ?_
  refine g_iload_n (pc := 26) rfl 2 rfl C dX8_isAfloat_26 ?_
  refine g_iadd (pc := 27) C dX8_isAfloat_27 ?_
  refine g_topi (fun i5 ei5 => ?_)
  have hD := hD i5 ei5
  obtain ⟨hb, hD⟩ := hD
  refine g_iald (pc := 28) C u4 hb dX8_isAfloat_28 ?_
  refine g_istore_n (pc := 29) (fun x6 => [(3, .int x6), (2, .int x3), (0, .ref o), (1, .int a1)]) C dX8_isAfloat_29 rfl (by decide) rfl (fun x6 ex6 => ?_)
  have hD := hD x6 ex6
  refine g_iload_n (pc := 30) rfl 1 rfl C dX8_isAfloat_30 ?_
  refine g_aload_n (pc := 31) rfl 2 rfl C dX8_isAfloat_31 ?_
  have u7 : TA Y (r o 23) 10 2 := wt_a hw t0 (by decide) (by decide) rfl
  refine g_getR (pc := 32) C fl_RX8_46 t0 rfl dX8_isAfloat_32 ?_
  refine g_aload_n (pc := 35) rfl 2 rfl C dX8_isAfloat_35 ?_
  refine g_getI (pc := 36) C fl_RX8_233 t0 rfl dX8_isAfloat_36 ?_
  refine g_topi (fun i8 ei8 => ?_)
  have hD := hD i8 ei8
  obtain ⟨hb, hD⟩ := hD
  refine g_iald (pc := 39) C u7 hb dX8_isAfloat_39 ?_
  refine g_icmp_ge (pc := 40) 83 C dX8_isAfloat_40 (by decide) (fun c9 => ?_) (fun c9 => ?_)
  · have hD := hD.1 c9
    refine g_iconst (pc := 83) (v := 0) (by decide) C dX8_isAfloat_83 ?_
    exact g_zret (pc := 84) C R nz_0 dX8_isAfloat_84 hD
  · have hD := hD.2 c9
    refine g_iload_n (pc := 43) rfl 0 rfl C dX8_isAfloat_43 ?_
    refine g_aload_n (pc := 44) rfl 2 rfl C dX8_isAfloat_44 ?_
    have u10 : TA Y (r o 22) 10 2 := wt_a hw t0 (by decide) (by decide) rfl
    refine g_getR (pc := 45) C fl_RX8_43 t0 rfl dX8_isAfloat_45 ?_
    refine g_aload_n (pc := 48) rfl 2 rfl C dX8_isAfloat_48 ?_
    refine g_getI (pc := 49) C fl_RX8_233 t0 rfl dX8_isAfloat_49 ?_
    refine g_topi (fun i11 ei11 => ?_)
    have hD := hD i11 ei11
    obtain ⟨hb, hD⟩ := hD
    refine g_iald (pc := 52) C u10 hb dX8_isAfloat_52 ?_
    refine g_icmp_ge (pc := 53) 83 C dX8_isAfloat_53 (by decide) (fun c12 => ?_) (fun c12 => ?_)
    · have hD := hD.1 c12
      refine g_iconst (pc := 83) (v := 0) (by decide) C dX8_isAfloat_83 ?_
      exact g_zret (pc := 84) C R nz_0 dX8_isAfloat_84 hD
    · have hD := hD.2 c12
      refine g_aload_n (pc := 56) rfl 2 rfl C dX8_isAfloat_56 ?_
      have u13 : TA Y (r o 24) 10 80 := wt_a hw t0 (by decide) (by decide) rfl
      refine g_getR (pc := 57) C fl_RX8_49 t0 rfl dX8_isAfloat_57 ?_
      refine g_bipush (pc := 60) (v := 40) (by decide) C dX8_isAfloat_60 ?_
      refine g_aload_n (pc := 62) rfl 2 rfl C dX8_isAfloat_62 ?_
      refine g_getI (pc := 63) C fl_RX8_233 t0 rfl dX8_isAfloat_63 ?_
      refine g_imul (pc := 66) C dX8_isAfloat_66 ?_
      refine g_bipush (pc := 67) (v := 8) (by decide) C dX8_isAfloat_67 ?_
      refine g_iload_n (pc := 69) rfl 0 rfl C dX8_isAfloat_69 ?_
      refine g_imul (pc := 70) C dX8_isAfloat_70 ?_
      refine g_iadd (pc := 71) C dX8_isAfloat_71 ?_
      refine g_iload_n (pc := 72) rfl 1 rfl C dX8_isAfloat_72 ?_
      refine g_iadd (pc := 73) C dX8_isAfloat_73 ?_
      refine g_topi (fun i14 ei14 => ?_)
      have hD := hD i14 ei14
      obtain ⟨hb, hD⟩ := hD
      refine g_iald (pc := 74) C u13 hb dX8_isAfloat_74 ?_
      refine g_iconst (pc := 75) (v := 1) (by decide) C dX8_isAfloat_75 ?_
      refine g_icmp_eq (pc := 76) 83 C dX8_isAfloat_76 (by decide) (fun c15 => ?_) (fun c15 => ?_)
      · have hD := hD.1 c15
        refine g_iconst (pc := 83) (v := 0) (by decide) C dX8_isAfloat_83 ?_
        exact g_zret (pc := 84) C R nz_0 dX8_isAfloat_84 hD
      · have hD := hD.2 c15
        refine g_iconst (pc := 79) (v := 1) (by decide) C dX8_isAfloat_79 ?_
        refine g_goto (pc := 80) 84 C dX8_isAfloat_80 (by decide) ?_
        exact g_zret (pc := 84) C R nz_1 dX8_isAfloat_84 hD
def DB_Mo_isFree_36 (r : TR) (l0 : Nat) (l1 : Int32) (l2 : Int32) (h : TH) (K36 : Int32 → TH → Prop) (K93 : TH → Prop) (Q : Int32 → TH → Prop) : Prop :=
  ∀ i9 : Int32, i9 = h.1 l0 18 → vp_in i9 2 ∧ (((h.1 (r l0 25) i9.toNatClampNeg) ≤ l2 → K93 h) ∧ (¬ (h.1 (r l0 25) i9.toNatClampNeg) ≤ l2 → ∀ i12 : Int32, i12 = (6 * (h.1 l0 18)) + l2 → vp_in i12 12 ∧ ∀ i14 : Int32, i14 = (6 * (h.1 l0 18)) + l2 → vp_in i14 12 ∧ ((¬ ((8 * (h.1 (r l0 27) i12.toNatClampNeg)) + (h.1 (r l0 26) i14.toNatClampNeg)) = l1 → ∀ x16 : Int32, x16 = l2 + 1 → K36 x16 h) ∧ (((8 * (h.1 (r l0 27) i12.toNatClampNeg)) + (h.1 (r l0 26) i14.toNatClampNeg)) = l1 → Q 0 h))))
set_option maxRecDepth 100000 in
set_option maxHeartbeats 4000000 in
theorem WB_Mo_isFree_36 {Y : CG} {X : CX} {r : TR} {l0 : Nat} {l1 : Int32} {l2 : Int32} {h : TH} {K36 : Int32 → TH → Prop} {K93 : TH → Prop} {Q : Int32 → TH → Prop} (C : Gd Y X cX8_isFree 3 RX8 3) (R : Ri Y r X .boolean Q) (t0 : TO Y l0 8) (hK36 : ∀ (k2 : Int32) (hh : TH), K36 k2 hh → G Y X 3 36 [(0, .ref l0), (1, .int l1), (2, .int k2)] [] r hh) (hK93 : ∀ (hh : TH), K93 hh → G Y X 3 93 [] [] r hh) (hD : DB_Mo_isFree_36 r l0 l1 l2 h K36 K93 Q) : G Y X 3 36 [(0, .ref l0), (1, .int l1), (2, .int l2)] [] r h := by
  unfold DB_Mo_isFree_36 at hD
  refine g_wt (fun hw => ?_)
  refine g_iload_n (pc := 36) rfl 2 rfl C dX8_isFree_36 ?_
  refine g_aload_n (pc := 37) rfl 0 rfl C dX8_isFree_37 ?_
  have u8 : TA Y (r l0 25) 10 2 := wt_a hw t0 (by decide) (by decide) rfl
  refine g_getR (pc := 38) C fl_RX8_52 t0 rfl dX8_isFree_38 ?_
  refine g_aload_n (pc := 41) rfl 0 rfl C dX8_isFree_41 ?_
  refine g_getI (pc := 42) C fl_RX8_230 t0 rfl dX8_isFree_42 ?_
  refine g_topi (fun i9 ei9 => ?_)
  have hD := hD i9 ei9
  obtain ⟨hb, hD⟩ := hD
  refine g_iald (pc := 45) C u8 hb dX8_isFree_45 ?_
  refine g_icmp_ge (pc := 46) 93 C dX8_isFree_46 (by decide) (fun c10 => ?_) (fun c10 => ?_)
  · have hD := hD.1 c10
    refine g_sub [] rfl ?_
    exact hK93 h hD
  · have hD := hD.2 c10
    refine g_bipush (pc := 49) (v := 8) (by decide) C dX8_isFree_49 ?_
    refine g_aload_n (pc := 51) rfl 0 rfl C dX8_isFree_51 ?_
    have u11 : TA Y (r l0 27) 10 12 := wt_a hw t0 (by decide) (by decide) rfl
    refine g_getR (pc := 52) C fl_RX8_58 t0 rfl dX8_isFree_52 ?_
    refine g_bipush (pc := 55) (v := 6) (by decide) C dX8_isFree_55 ?_
    refine g_aload_n (pc := 57) rfl 0 rfl C dX8_isFree_57 ?_
    refine g_getI (pc := 58) C fl_RX8_230 t0 rfl dX8_isFree_58 ?_
    refine g_imul (pc := 61) C dX8_isFree_61 ?_
    refine g_iload_n (pc := 62) rfl 2 rfl C dX8_isFree_62 ?_
    refine g_iadd (pc := 63) C dX8_isFree_63 ?_
    refine g_topi (fun i12 ei12 => ?_)
    have hD := hD i12 ei12
    obtain ⟨hb, hD⟩ := hD
    refine g_iald (pc := 64) C u11 hb dX8_isFree_64 ?_
    refine g_imul (pc := 65) C dX8_isFree_65 ?_
    refine g_aload_n (pc := 66) rfl 0 rfl C dX8_isFree_66 ?_
    have u13 : TA Y (r l0 26) 10 12 := wt_a hw t0 (by decide) (by decide) rfl
    refine g_getR (pc := 67) C fl_RX8_55 t0 rfl dX8_isFree_67 ?_
    refine g_bipush (pc := 70) (v := 6) (by decide) C dX8_isFree_70 ?_
    refine g_aload_n (pc := 72) rfl 0 rfl C dX8_isFree_72 ?_
    refine g_getI (pc := 73) C fl_RX8_230 t0 rfl dX8_isFree_73 ?_
    refine g_imul (pc := 76) C dX8_isFree_76 ?_
    refine g_iload_n (pc := 77) rfl 2 rfl C dX8_isFree_77 ?_
    refine g_iadd (pc := 78) C dX8_isFree_78 ?_
    refine g_topi (fun i14 ei14 => ?_)
    have hD := hD i14 ei14
    obtain ⟨hb, hD⟩ := hD
    refine g_iald (pc := 79) C u13 hb dX8_isFree_79 ?_
    refine g_iadd (pc := 80) C dX8_isFree_80 ?_
    refine g_iload_n (pc := 81) rfl 1 rfl C dX8_isFree_81 ?_
    refine g_icmp_ne (pc := 82) 87 C dX8_isFree_82 (by decide) (fun c15 => ?_) (fun c15 => ?_)
    · have hD := hD.1 c15
      refine g_iinc (pc := 87) (q := 2) (c := 1) (fun x16 => [(2, .int x16), (0, .ref l0), (1, .int l1)]) C dX8_isFree_87 rfl (by decide) (by decide) rfl (fun x16 ex16 => ?_)
      have hD := hD x16 ex16
      refine g_goto (pc := 90) 36 C dX8_isFree_90 (by decide) ?_
      refine g_sub [1, 2, 0] rfl ?_
      exact hK36 x16 h hD
    · have hD := hD.2 c15
      refine g_iconst (pc := 85) (v := 0) (by decide) C dX8_isFree_85 ?_
      exact g_zret (pc := 86) C R nz_0 dX8_isFree_86 hD
def D_Mo_isFree (r : TR) (o : Nat) (a1 : Int32) (h : TH) (Q : Int32 → TH → Prop) : Prop :=
  D_Mo_isCell r o (jrem a1 8) (a1 / 8) h (fun x2 h1 => ((x2 = 0 → Q 0 h1) ∧ (¬ x2 = 0 → ∀ i5 : Int32, i5 = (40 * (h1.1 o 18)) + a1 → vp_in i5 80 ∧ (((h1.1 (r o 24) i5.toNatClampNeg) = 0 → ∃ n, lp (fun (K : Int32 × TH → Prop) (s : Int32 × TH) => DB_Mo_isFree_36 r o a1 s.1 s.2 (fun y17 h18 => K (y17, h18)) (fun h19 => Q 1 h19) Q) n (0, h1)) ∧ (¬ (h1.1 (r o 24) i5.toNatClampNeg) = 0 → Q 0 h1)))))
set_option maxRecDepth 100000 in
set_option maxHeartbeats 4000000 in
theorem M_Mo_isFree {Y : CG} {r : TR} {l : Launch} {o : Nat} {a1 : Int32} {h : TH} {Q : Int32 → TH → Prop} (t0 : TO Y o 8) (hD : D_Mo_isFree r o a1 h Q) : Mi Y r l yX8_isFree cX8_isFree 3 .boolean 3 [.ref o, .int a1] h Q := by
  unfold D_Mo_isFree at hD
  refine Mi.of RX8 rfl (by decide) (by simp [lg_sl, Value.category]) [(0, .ref o), (1, .int a1)] rfl (fun X hXl C R => ?_)
  subst hXl
  refine g_wt (fun hw => ?_)
  refine g_aload_n (pc := 0) rfl 0 rfl C dX8_isFree_0 ?_
  refine g_iload_n (pc := 1) rfl 1 rfl C dX8_isFree_1 ?_
  refine g_bipush (pc := 2) (v := 8) (by decide) C dX8_isFree_2 ?_
  refine g_irem (pc := 4) (by decide) C dX8_isFree_4 ?_
  refine g_iload_n (pc := 5) rfl 1 rfl C dX8_isFree_5 ?_
  refine g_bipush (pc := 6) (v := 8) (by decide) C dX8_isFree_6 ?_
  refine g_idiv (pc := 8) (by decide) C dX8_isFree_8 ?_
  refine g_callVi (pc := 9) (As := [.int (jrem a1 8), .int (a1 / 8)]) C mv_RX8_360 (M_Mo_isCell t0 hD) t0 (by decide) rfl rfl (Nat.le_of_ble_eq_true rfl) dX8_isFree_9 (fun x2 h1 hD => ?_)
  refine g_if_eq (pc := 12) 32 C dX8_isFree_12 (by decide) (fun c3 => ?_) (fun c3 => ?_)
  · have hD := hD.1 c3
    refine g_iconst (pc := 32) (v := 0) (by decide) C dX8_isFree_32 ?_
    exact g_zret (pc := 33) C R nz_0 dX8_isFree_33 hD
  · have hD := hD.2 c3
    refine g_aload_n (pc := 15) rfl 0 rfl C dX8_isFree_15 ?_
    have u4 : TA Y (r o 24) 10 80 := wt_a hw t0 (by decide) (by decide) rfl
    refine g_getR (pc := 16) C fl_RX8_49 t0 rfl dX8_isFree_16 ?_
    refine g_bipush (pc := 19) (v := 40) (by decide) C dX8_isFree_19 ?_
    refine g_aload_n (pc := 21) rfl 0 rfl C dX8_isFree_21 ?_
    refine g_getI (pc := 22) C fl_RX8_230 t0 rfl dX8_isFree_22 ?_
    refine g_imul (pc := 25) C dX8_isFree_25 ?_
    refine g_iload_n (pc := 26) rfl 1 rfl C dX8_isFree_26 ?_
    refine g_iadd (pc := 27) C dX8_isFree_27 ?_
    refine g_topi (fun i5 ei5 => ?_)
    have hD := hD i5 ei5
    obtain ⟨hb, hD⟩ := hD
    refine g_iald (pc := 28) C u4 hb dX8_isFree_28 ?_
    refine g_if_eq (pc := 29) 34 C dX8_isFree_29 (by decide) (fun c6 => ?_) (fun c6 => ?_)
    · have hD := hD.1 c6
      refine g_iconst (pc := 34) (v := 0) (by decide) C dX8_isFree_34 ?_
      refine g_istore_n (pc := 35) (fun _ => [(2, .int 0), (0, .ref o), (1, .int a1)]) C dX8_isFree_35 rfl (by decide) rfl (fun _ _ => ?_)
      obtain ⟨n, hD⟩ := hD
      refine g_sub [1, 2, 0] rfl ?_
      refine lp_run (fun s : Int32 × TH => G Y X 3 36 [(0, .ref o), (1, .int a1), (2, .int s.1)] [] r s.2) (fun K s hB hK => ?_) n (0, h1) hD
      refine WB_Mo_isFree_36 C R t0 (fun y17 h18 hk => hK _ hk) (fun h19 hD => ?_) hB
      · refine g_iconst (pc := 93) (v := 1) (by decide) C dX8_isFree_93 ?_
        exact g_zret (pc := 94) C R nz_1 dX8_isFree_94 hD
    · have hD := hD.2 c6
      refine g_iconst (pc := 32) (v := 0) (by decide) C dX8_isFree_32 ?_
      exact g_zret (pc := 33) C R nz_0 dX8_isFree_33 hD
def DB_Mo_isResting_2 (r : TR) (l0 : Nat) (l1 : Int32) (l2 : Int32) (l3 : Int32) (h : TH) (K2 : Int32 → TH → Prop) (K61 : TH → Prop) (Q : Int32 → TH → Prop) : Prop :=
  ∀ i3 : Int32, i3 = h.1 l0 18 → vp_in i3 2 ∧ (((h.1 (r l0 25) i3.toNatClampNeg) ≤ l3 → K61 h) ∧ (¬ (h.1 (r l0 25) i3.toNatClampNeg) ≤ l3 → ((¬ ((l2 >>> (l3 &&& 31)) &&& 1) = 1 → ∀ x6 : Int32, x6 = l3 + 1 → K2 x6 h) ∧ (((l2 >>> (l3 &&& 31)) &&& 1) = 1 → ∀ i8 : Int32, i8 = (6 * (l1 ^^^ ((1 : Int32) <<< (l3 &&& 31)))) + l3 → vp_in i8 384 ∧ ∀ i10 : Int32, i10 = (6 * l1) + l3 → vp_in i10 384 ∧ (((h.1 (r l0 59) i8.toNatClampNeg) ≤ (h.1 (r l0 59) i10.toNatClampNeg) → ∀ x12 : Int32, x12 = l3 + 1 → K2 x12 h) ∧ (¬ (h.1 (r l0 59) i8.toNatClampNeg) ≤ (h.1 (r l0 59) i10.toNatClampNeg) → Q 0 h))))))
set_option maxRecDepth 100000 in
set_option maxHeartbeats 4000000 in
theorem WB_Mo_isResting_2 {Y : CG} {X : CX} {r : TR} {l0 : Nat} {l1 : Int32} {l2 : Int32} {l3 : Int32} {h : TH} {K2 : Int32 → TH → Prop} {K61 : TH → Prop} {Q : Int32 → TH → Prop} (C : Gd Y X cX8_isResting 4 RX8 1) (R : Ri Y r X .boolean Q) (t0 : TO Y l0 8) (hK2 : ∀ (k3 : Int32) (hh : TH), K2 k3 hh → G Y X 4 2 [(0, .ref l0), (1, .int l1), (2, .int l2), (3, .int k3)] [] r hh) (hK61 : ∀ (hh : TH), K61 hh → G Y X 4 61 [] [] r hh) (hD : DB_Mo_isResting_2 r l0 l1 l2 l3 h K2 K61 Q) : G Y X 4 2 [(0, .ref l0), (1, .int l1), (2, .int l2), (3, .int l3)] [] r h := by
  unfold DB_Mo_isResting_2 at hD
  refine g_wt (fun hw => ?_)
  refine g_iload_n (pc := 2) rfl 3 rfl C dX8_isResting_2 ?_
  refine g_aload_n (pc := 3) rfl 0 rfl C dX8_isResting_3 ?_
  have u2 : TA Y (r l0 25) 10 2 := wt_a hw t0 (by decide) (by decide) rfl
  refine g_getR (pc := 4) C fl_RX8_52 t0 rfl dX8_isResting_4 ?_
  refine g_aload_n (pc := 7) rfl 0 rfl C dX8_isResting_7 ?_
  refine g_getI (pc := 8) C fl_RX8_230 t0 rfl dX8_isResting_8 ?_
  refine g_topi (fun i3 ei3 => ?_)
  have hD := hD i3 ei3
  obtain ⟨hb, hD⟩ := hD
  refine g_iald (pc := 11) C u2 hb dX8_isResting_11 ?_
  refine g_icmp_ge (pc := 12) 61 C dX8_isResting_12 (by decide) (fun c4 => ?_) (fun c4 => ?_)
  · have hD := hD.1 c4
    refine g_sub [] rfl ?_
    exact hK61 h hD
  · have hD := hD.2 c4
    refine g_iload_n (pc := 15) rfl 2 rfl C dX8_isResting_15 ?_
    refine g_iload_n (pc := 16) rfl 3 rfl C dX8_isResting_16 ?_
    refine g_ishr (pc := 17) C dX8_isResting_17 ?_
    refine g_iconst (pc := 18) (v := 1) (by decide) C dX8_isResting_18 ?_
    refine g_iand (pc := 19) C dX8_isResting_19 ?_
    refine g_iconst (pc := 20) (v := 1) (by decide) C dX8_isResting_20 ?_
    refine g_icmp_ne (pc := 21) 55 C dX8_isResting_21 (by decide) (fun c5 => ?_) (fun c5 => ?_)
    · have hD := hD.1 c5
      refine g_iinc (pc := 55) (q := 3) (c := 1) (fun x6 => [(3, .int x6), (0, .ref l0), (1, .int l1), (2, .int l2)]) C dX8_isResting_55 rfl (by decide) (by decide) rfl (fun x6 ex6 => ?_)
      have hD := hD x6 ex6
      refine g_goto (pc := 58) 2 C dX8_isResting_58 (by decide) ?_
      refine g_sub [1, 2, 3, 0] rfl ?_
      exact hK2 x6 h hD
    · have hD := hD.2 c5
      refine g_aload_n (pc := 24) rfl 0 rfl C dX8_isResting_24 ?_
      have u7 : TA Y (r l0 59) 10 384 := wt_a hw t0 (by decide) (by decide) rfl
      refine g_getR (pc := 25) C fl_RX8_131 t0 rfl dX8_isResting_25 ?_
      refine g_bipush (pc := 28) (v := 6) (by decide) C dX8_isResting_28 ?_
      refine g_iload_n (pc := 30) rfl 1 rfl C dX8_isResting_30 ?_
      refine g_iconst (pc := 31) (v := 1) (by decide) C dX8_isResting_31 ?_
      refine g_iload_n (pc := 32) rfl 3 rfl C dX8_isResting_32 ?_
      refine g_ishl (pc := 33) C dX8_isResting_33 ?_
      refine g_ixor (pc := 34) C dX8_isResting_34 ?_
      refine g_imul (pc := 35) C dX8_isResting_35 ?_
      refine g_iload_n (pc := 36) rfl 3 rfl C dX8_isResting_36 ?_
      refine g_iadd (pc := 37) C dX8_isResting_37 ?_
      refine g_topi (fun i8 ei8 => ?_)
      have hD := hD i8 ei8
      obtain ⟨hb, hD⟩ := hD
      refine g_iald (pc := 38) C u7 hb dX8_isResting_38 ?_
      refine g_aload_n (pc := 39) rfl 0 rfl C dX8_isResting_39 ?_
      have u9 : TA Y (r l0 59) 10 384 := wt_a hw t0 (by decide) (by decide) rfl
      refine g_getR (pc := 40) C fl_RX8_131 t0 rfl dX8_isResting_40 ?_
      refine g_bipush (pc := 43) (v := 6) (by decide) C dX8_isResting_43 ?_
      refine g_iload_n (pc := 45) rfl 1 rfl C dX8_isResting_45 ?_
      refine g_imul (pc := 46) C dX8_isResting_46 ?_
      refine g_iload_n (pc := 47) rfl 3 rfl C dX8_isResting_47 ?_
      refine g_iadd (pc := 48) C dX8_isResting_48 ?_
      refine g_topi (fun i10 ei10 => ?_)
      have hD := hD i10 ei10
      obtain ⟨hb, hD⟩ := hD
      refine g_iald (pc := 49) C u9 hb dX8_isResting_49 ?_
      refine g_icmp_le (pc := 50) 55 C dX8_isResting_50 (by decide) (fun c11 => ?_) (fun c11 => ?_)
      · have hD := hD.1 c11
        refine g_iinc (pc := 55) (q := 3) (c := 1) (fun x12 => [(3, .int x12), (0, .ref l0), (1, .int l1), (2, .int l2)]) C dX8_isResting_55 rfl (by decide) (by decide) rfl (fun x12 ex12 => ?_)
        have hD := hD x12 ex12
        refine g_goto (pc := 58) 2 C dX8_isResting_58 (by decide) ?_
        refine g_sub [1, 2, 3, 0] rfl ?_
        exact hK2 x12 h hD
      · have hD := hD.2 c11
        refine g_iconst (pc := 53) (v := 0) (by decide) C dX8_isResting_53 ?_
        exact g_zret (pc := 54) C R nz_0 dX8_isResting_54 hD
def D_Mo_isResting (r : TR) (o : Nat) (a1 : Int32) (a2 : Int32) (h : TH) (Q : Int32 → TH → Prop) : Prop :=
  ∃ n, lp (fun (K : Int32 × TH → Prop) (s : Int32 × TH) => DB_Mo_isResting_2 r o a1 a2 s.1 s.2 (fun y13 h14 => K (y13, h14)) (fun h15 => Q 1 h15) Q) n (0, h)
set_option maxRecDepth 100000 in
set_option maxHeartbeats 4000000 in
theorem M_Mo_isResting {Y : CG} {r : TR} {l : Launch} {o : Nat} {a1 : Int32} {a2 : Int32} {h : TH} {Q : Int32 → TH → Prop} (t0 : TO Y o 8) (hD : D_Mo_isResting r o a1 a2 h Q) : Mi Y r l yX8_isResting cX8_isResting 4 .boolean 1 [.ref o, .int a1, .int a2] h Q := by
  unfold D_Mo_isResting at hD
  refine Mi.of RX8 rfl (by decide) (by simp [lg_sl, Value.category]) [(0, .ref o), (1, .int a1), (2, .int a2)] rfl (fun X hXl C R => ?_)
  subst hXl
  refine g_wt (fun hw => ?_)
  refine g_iconst (pc := 0) (v := 0) (by decide) C dX8_isResting_0 ?_
  refine g_istore_n (pc := 1) (fun _ => [(3, .int 0), (0, .ref o), (1, .int a1), (2, .int a2)]) C dX8_isResting_1 rfl (by decide) rfl (fun _ _ => ?_)
  obtain ⟨n, hD⟩ := hD
  refine g_sub [1, 2, 3, 0] rfl ?_
  refine lp_run (fun s : Int32 × TH => G Y X 4 2 [(0, .ref o), (1, .int a1), (2, .int a2), (3, .int s.1)] [] r s.2) (fun K s hB hK => ?_) n (0, h) hD
  refine WB_Mo_isResting_2 C R t0 (fun y13 h14 hk => hK _ hk) (fun h15 hD => ?_) hB
  · refine g_iconst (pc := 61) (v := 1) (by decide) C dX8_isResting_61 ?_
    exact g_zret (pc := 62) C R nz_1 dX8_isResting_62 hD
def DJ_Mo_laid_36 (r : TR) (l1 : Int32) (l2 : Int32) (l3 : Int32) (s0 : Int32) (s1 : Nat) (h : TH) (Q : Int32 → TH → Prop) : Prop :=
  ∀ i9 : Int32, i9 = (s0 + (6 * ((8 * l2) + l1))) + l3 → vp_in i9 512 ∧ Q (h.1 s1 i9.toNatClampNeg) h
set_option maxRecDepth 100000 in
set_option maxHeartbeats 4000000 in
theorem WJ_Mo_laid_36 {Y : CG} {X : CX} {r : TR} {l1 : Int32} {l2 : Int32} {l3 : Int32} {s0 : Int32} {s1 : Nat} {h : TH} {Q : Int32 → TH → Prop} (C : Gd Y X cX8_laid 5 RX8 3) (R : Ri Y r X .int Q) (ts1 : TA Y s1 10 512) (hD : DJ_Mo_laid_36 r l1 l2 l3 s0 s1 h  Q) : G Y X 5 36 [(1, .int l1), (2, .int l2), (3, .int l3)] [.int s0, .ref s1] r h := by
  unfold DJ_Mo_laid_36 at hD
  refine g_wt (fun hw => ?_)
  refine g_bipush (pc := 36) (v := 6) (by decide) C dX8_laid_36 ?_
  refine g_bipush (pc := 38) (v := 8) (by decide) C dX8_laid_38 ?_
  refine g_iload_n (pc := 40) rfl 1 rfl C dX8_laid_40 ?_
  refine g_imul (pc := 41) C dX8_laid_41 ?_
  refine g_iload_n (pc := 42) rfl 0 rfl C dX8_laid_42 ?_
  refine g_iadd (pc := 43) C dX8_laid_43 ?_
  refine g_imul (pc := 44) C dX8_laid_44 ?_
  refine g_iadd (pc := 45) C dX8_laid_45 ?_
  refine g_iload_n (pc := 46) rfl 2 rfl C dX8_laid_46 ?_
  refine g_iadd (pc := 47) C dX8_laid_47 ?_
  refine g_topi (fun i9 ei9 => ?_)
  have hD := hD i9 ei9
  obtain ⟨hb, hD⟩ := hD
  refine g_iald (pc := 48) C ts1 hb dX8_laid_48 ?_
  exact g_iret (pc := 49) C R dX8_laid_49 hD
def D_Mo_laid (r : TR) (o : Nat) (a1 : Int32) (a2 : Int32) (a3 : Int32) (a4 : Int32) (h : TH) (Q : Int32 → TH → Prop) : Prop :=
  D_Mo_isCell r o a1 a2 h (fun x2 h1 => ((x2 = 0 → Q (-1) h1) ∧ (¬ x2 = 0 → D_Mo_isBoat r o a3 h1 (fun x5 h4 => ((¬ x5 = 0 → ((a4 = 0 → DJ_Mo_laid_36 r a1 a2 a3 32 (r o 48) h4 Q) ∧ (¬ a4 = 0 → DJ_Mo_laid_36 r a1 a2 a3 272 (r o 48) h4 Q))) ∧ (x5 = 0 → Q (-1) h4))))))
set_option maxRecDepth 100000 in
set_option maxHeartbeats 4000000 in
theorem M_Mo_laid {Y : CG} {r : TR} {l : Launch} {o : Nat} {a1 : Int32} {a2 : Int32} {a3 : Int32} {a4 : Int32} {h : TH} {Q : Int32 → TH → Prop} (t0 : TO Y o 8) (hD : D_Mo_laid r o a1 a2 a3 a4 h Q) : Mi Y r l yX8_laid cX8_laid 5 .int 3 [.ref o, .int a1, .int a2, .int a3, .int a4] h Q := by
  unfold D_Mo_laid at hD
  refine Mi.of RX8 rfl (by decide) (by simp [lg_sl, Value.category]) [(0, .ref o), (1, .int a1), (2, .int a2), (3, .int a3), (4, .int a4)] rfl (fun X hXl C R => ?_)
  subst hXl
  refine g_wt (fun hw => ?_)
  refine g_aload_n (pc := 0) rfl 0 rfl C dX8_laid_0 ?_
  refine g_iload_n (pc := 1) rfl 1 rfl C dX8_laid_1 ?_
  refine g_iload_n (pc := 2) rfl 2 rfl C dX8_laid_2 ?_
  refine g_callVi (pc := 3) (As := [.int a1, .int a2]) C mv_RX8_360 (M_Mo_isCell t0 hD) t0 (by decide) rfl rfl (Nat.le_of_ble_eq_true rfl) dX8_laid_3 (fun x2 h1 hD => ?_)
  refine g_if_eq (pc := 6) 17 C dX8_laid_6 (by decide) (fun c3 => ?_) (fun c3 => ?_)
  · have hD := hD.1 c3
    refine g_iconst (pc := 17) (v := (-1)) (by decide) C dX8_laid_17 ?_
    exact g_iret (pc := 18) C R dX8_laid_18 hD
  · have hD := hD.2 c3
    refine g_aload_n (pc := 9) rfl 0 rfl C dX8_laid_9 ?_
    refine g_iload_n (pc := 10) rfl 3 rfl C dX8_laid_10 ?_
    refine g_callVi (pc := 11) (As := [.int a3]) C mv_RX8_394 (M_Mo_isBoat t0 hD) t0 (by decide) rfl rfl (Nat.le_of_ble_eq_true rfl) dX8_laid_11 (fun x5 h4 hD => ?_)
    refine g_if_ne (pc := 14) 19 C dX8_laid_14 (by decide) (fun c6 => ?_) (fun c6 => ?_)
    · have hD := hD.1 c6
      refine g_aload_n (pc := 19) rfl 0 rfl C dX8_laid_19 ?_
      have u7 : TA Y (r o 48) 10 512 := wt_a hw t0 (by decide) (by decide) rfl
      refine g_getR (pc := 20) C fl_RX8_110 t0 rfl dX8_laid_20 ?_
      refine g_iload (pc := 23) 4 rfl C dX8_laid_23 ?_
      refine g_if_eq (pc := 25) 34 C dX8_laid_25 (by decide) (fun c8 => ?_) (fun c8 => ?_)
      · have hD := hD.1 c8
        refine g_bipush (pc := 34) (v := 32) (by decide) C dX8_laid_34 ?_
        refine g_sub [1, 2, 3] rfl ?_
        exact WJ_Mo_laid_36 C R u7 hD
      · have hD := hD.2 c8
        refine g_sipush (pc := 28) (v := 272) (by decide) C dX8_laid_28 ?_
        refine g_goto (pc := 31) 36 C dX8_laid_31 (by decide) ?_
        refine g_sub [1, 2, 3] rfl ?_
        exact WJ_Mo_laid_36 C R u7 hD
    · have hD := hD.2 c6
      refine g_iconst (pc := 17) (v := (-1)) (by decide) C dX8_laid_17 ?_
      exact g_iret (pc := 18) C R dX8_laid_18 hD
def DB_Mo_rankedNow_2 (r : TR) (l0 : Nat) (l1 : Int32) (l2 : Int32) (h : TH) (K2 : Int32 → TH → Prop) (K32 : TH → Prop) (Q : Int32 → TH → Prop) : Prop :=
  ∀ i3 : Int32, i3 = h.1 l0 18 → vp_in i3 2 ∧ (((h.1 (r l0 25) i3.toNatClampNeg) ≤ l2 → K32 h) ∧ (¬ (h.1 (r l0 25) i3.toNatClampNeg) ≤ l2 → D_Mo_rankOf r l0 l2 h (fun x6 h5 => ((¬ x6 = l1 → ∀ x8 : Int32, x8 = l2 + 1 → K2 x8 h5) ∧ (x6 = l1 → Q l2 h5)))))
set_option maxRecDepth 100000 in
set_option maxHeartbeats 4000000 in
theorem WB_Mo_rankedNow_2 {Y : CG} {X : CX} {r : TR} {l0 : Nat} {l1 : Int32} {l2 : Int32} {h : TH} {K2 : Int32 → TH → Prop} {K32 : TH → Prop} {Q : Int32 → TH → Prop} (C : Gd Y X cX8_rankedNow 3 RX8 4) (R : Ri Y r X .int Q) (t0 : TO Y l0 8) (hK2 : ∀ (k2 : Int32) (hh : TH), K2 k2 hh → G Y X 3 2 [(0, .ref l0), (1, .int l1), (2, .int k2)] [] r hh) (hK32 : ∀ (hh : TH), K32 hh → G Y X 3 32 [] [] r hh) (hD : DB_Mo_rankedNow_2 r l0 l1 l2 h K2 K32 Q) : G Y X 3 2 [(0, .ref l0), (1, .int l1), (2, .int l2)] [] r h := by
  unfold DB_Mo_rankedNow_2 at hD
  refine g_wt (fun hw => ?_)
  refine g_iload_n (pc := 2) rfl 2 rfl C dX8_rankedNow_2 ?_
  refine g_aload_n (pc := 3) rfl 0 rfl C dX8_rankedNow_3 ?_
  have u2 : TA Y (r l0 25) 10 2 := wt_a hw t0 (by decide) (by decide) rfl
  refine g_getR (pc := 4) C fl_RX8_52 t0 rfl dX8_rankedNow_4 ?_
  refine g_aload_n (pc := 7) rfl 0 rfl C dX8_rankedNow_7 ?_
  refine g_getI (pc := 8) C fl_RX8_230 t0 rfl dX8_rankedNow_8 ?_
  refine g_topi (fun i3 ei3 => ?_)
  have hD := hD i3 ei3
  obtain ⟨hb, hD⟩ := hD
  refine g_iald (pc := 11) C u2 hb dX8_rankedNow_11 ?_
  refine g_icmp_ge (pc := 12) 32 C dX8_rankedNow_12 (by decide) (fun c4 => ?_) (fun c4 => ?_)
  · have hD := hD.1 c4
    refine g_sub [] rfl ?_
    exact hK32 h hD
  · have hD := hD.2 c4
    refine g_aload_n (pc := 15) rfl 0 rfl C dX8_rankedNow_15 ?_
    refine g_iload_n (pc := 16) rfl 2 rfl C dX8_rankedNow_16 ?_
    refine g_callVi (pc := 17) (As := [.int l2]) C mv_RX8_391 (M_Mo_rankOf t0 hD) t0 (by decide) rfl rfl (Nat.le_of_ble_eq_true rfl) dX8_rankedNow_17 (fun x6 h5 hD => ?_)
    refine g_iload_n (pc := 20) rfl 1 rfl C dX8_rankedNow_20 ?_
    refine g_icmp_ne (pc := 21) 26 C dX8_rankedNow_21 (by decide) (fun c7 => ?_) (fun c7 => ?_)
    · have hD := hD.1 c7
      refine g_iinc (pc := 26) (q := 2) (c := 1) (fun x8 => [(2, .int x8), (0, .ref l0), (1, .int l1)]) C dX8_rankedNow_26 rfl (by decide) (by decide) rfl (fun x8 ex8 => ?_)
      have hD := hD x8 ex8
      refine g_goto (pc := 29) 2 C dX8_rankedNow_29 (by decide) ?_
      refine g_sub [1, 2, 0] rfl ?_
      exact hK2 x8 h5 hD
    · have hD := hD.2 c7
      refine g_iload_n (pc := 24) rfl 2 rfl C dX8_rankedNow_24 ?_
      exact g_iret (pc := 25) C R dX8_rankedNow_25 hD
def D_Mo_rankedNow (r : TR) (o : Nat) (a1 : Int32) (h : TH) (Q : Int32 → TH → Prop) : Prop :=
  ∃ n, lp (fun (K : Int32 × TH → Prop) (s : Int32 × TH) => DB_Mo_rankedNow_2 r o a1 s.1 s.2 (fun y9 h10 => K (y9, h10)) (fun h11 => Q (-1) h11) Q) n (0, h)
set_option maxRecDepth 100000 in
set_option maxHeartbeats 4000000 in
theorem M_Mo_rankedNow {Y : CG} {r : TR} {l : Launch} {o : Nat} {a1 : Int32} {h : TH} {Q : Int32 → TH → Prop} (t0 : TO Y o 8) (hD : D_Mo_rankedNow r o a1 h Q) : Mi Y r l yX8_rankedNow cX8_rankedNow 3 .int 4 [.ref o, .int a1] h Q := by
  unfold D_Mo_rankedNow at hD
  refine Mi.of RX8 rfl (by decide) (by simp [lg_sl, Value.category]) [(0, .ref o), (1, .int a1)] rfl (fun X hXl C R => ?_)
  subst hXl
  refine g_wt (fun hw => ?_)
  refine g_iconst (pc := 0) (v := 0) (by decide) C dX8_rankedNow_0 ?_
  refine g_istore_n (pc := 1) (fun _ => [(2, .int 0), (0, .ref o), (1, .int a1)]) C dX8_rankedNow_1 rfl (by decide) rfl (fun _ _ => ?_)
  obtain ⟨n, hD⟩ := hD
  refine g_sub [1, 2, 0] rfl ?_
  refine lp_run (fun s : Int32 × TH => G Y X 3 2 [(0, .ref o), (1, .int a1), (2, .int s.1)] [] r s.2) (fun K s hB hK => ?_) n (0, h) hD
  refine WB_Mo_rankedNow_2 C R t0 (fun y9 h10 hk => hK _ hk) (fun h11 hD => ?_) hB
  · refine g_iconst (pc := 32) (v := (-1)) (by decide) C dX8_rankedNow_32 ?_
    exact g_iret (pc := 33) C R dX8_rankedNow_33 hD
def D_Mo_leader (r : TR) (o : Nat) (a1 : Int32) (h : TH) (Q : Int32 → TH → Prop) : Prop :=
  D_Mo_isLong r a1 h (fun x2 h1 => ((¬ x2 = 0 → ∀ i5 : Int32, i5 = h1.1 o 18 → vp_in i5 2 ∧ ((¬ (h1.1 (r o 25) i5.toNatClampNeg) = 0 → D_Mo_copies r o h1 (fun h7 => D_Mo_goes r o a1 h7 (fun h9 => D_Mo_rankedNow r o 0 h9 (fun x12 h11 => Q x12 h11)))) ∧ ((h1.1 (r o 25) i5.toNatClampNeg) = 0 → Q (-2) h1))) ∧ (x2 = 0 → Q (-1) h1)))
set_option maxRecDepth 100000 in
set_option maxHeartbeats 4000000 in
theorem M_Mo_leader {Y : CG} {r : TR} {l : Launch} {o : Nat} {a1 : Int32} {h : TH} {Q : Int32 → TH → Prop} (t0 : TO Y o 8) (hD : D_Mo_leader r o a1 h Q) : Mi Y r l yX8_leader cX8_leader 2 .int 7 [.ref o, .int a1] h Q := by
  unfold D_Mo_leader at hD
  refine Mi.of RX8 rfl (by decide) (by simp [lg_sl, Value.category]) [(0, .ref o), (1, .int a1)] rfl (fun X hXl C R => ?_)
  subst hXl
  refine g_wt (fun hw => ?_)
  refine g_iload_n (pc := 0) rfl 1 rfl C dX8_leader_0 ?_
  refine g_callSi (pc := 1) (As := [.int a1]) C ms_RX8_409 (M_Mo_isLong  hD) (by decide) rfl rfl (Nat.le_of_ble_eq_true rfl) dX8_leader_1 (fun x2 h1 hD => ?_)
  refine g_if_ne (pc := 4) 9 C dX8_leader_4 (by decide) (fun c3 => ?_) (fun c3 => ?_)
  · have hD := hD.1 c3
    refine g_aload_n (pc := 9) rfl 0 rfl C dX8_leader_9 ?_
    have u4 : TA Y (r o 25) 10 2 := wt_a hw t0 (by decide) (by decide) rfl
    refine g_getR (pc := 10) C fl_RX8_52 t0 rfl dX8_leader_10 ?_
    refine g_aload_n (pc := 13) rfl 0 rfl C dX8_leader_13 ?_
    refine g_getI (pc := 14) C fl_RX8_230 t0 rfl dX8_leader_14 ?_
    refine g_topi (fun i5 ei5 => ?_)
    have hD := hD i5 ei5
    obtain ⟨hb, hD⟩ := hD
    refine g_iald (pc := 17) C u4 hb dX8_leader_17 ?_
    refine g_if_ne (pc := 18) 24 C dX8_leader_18 (by decide) (fun c6 => ?_) (fun c6 => ?_)
    · have hD := hD.1 c6
      refine g_aload_n (pc := 24) rfl 0 rfl C dX8_leader_24 ?_
      refine g_callVv (pc := 25) (As := []) C mv_RX8_397 (M_Mo_copies t0 hD) t0 (by decide) rfl rfl (Nat.le_of_ble_eq_true rfl) dX8_leader_25 (fun h7 hD => ?_)
      refine g_aload_n (pc := 28) rfl 0 rfl C dX8_leader_28 ?_
      refine g_iload_n (pc := 29) rfl 1 rfl C dX8_leader_29 ?_
      refine g_callVv (pc := 30) (As := [.int a1]) C mv_RX8_403 (M_Mo_goes t0 hD) t0 (by decide) rfl rfl (Nat.le_of_ble_eq_true rfl) dX8_leader_30 (fun h9 hD => ?_)
      refine g_aload_n (pc := 33) rfl 0 rfl C dX8_leader_33 ?_
      refine g_iconst (pc := 34) (v := 0) (by decide) C dX8_leader_34 ?_
      refine g_callVi (pc := 35) (As := [.int 0]) C mv_RX8_416 (M_Mo_rankedNow t0 hD) t0 (by decide) rfl rfl (Nat.le_of_ble_eq_true rfl) dX8_leader_35 (fun x12 h11 hD => ?_)
      exact g_iret (pc := 38) C R dX8_leader_38 hD
    · have hD := hD.2 c6
      refine g_bipush (pc := 21) (v := (-2)) (by decide) C dX8_leader_21 ?_
      exact g_iret (pc := 23) C R dX8_leader_23 hD
  · have hD := hD.2 c3
    refine g_iconst (pc := 7) (v := (-1)) (by decide) C dX8_leader_7 ?_
    exact g_iret (pc := 8) C R dX8_leader_8 hD
def DB_Mo_lost_35 (r : TR) (l0 : Nat) (l1 : Int32) (l2 : Int32) (l3 : Int32) (l4 : Int32) (h : TH) (K22 : Int32 → TH → Prop) (K35 : Int32 → TH → Prop) (K84 : TH → Prop) (K90 : TH → Prop) (Q : Int32 → TH → Prop) : Prop :=
  ∀ i15 : Int32, i15 = h.1 l0 18 → vp_in i15 2 ∧ (((h.1 (r l0 25) i15.toNatClampNeg) ≤ l4 → K84 h) ∧ (¬ (h.1 (r l0 25) i15.toNatClampNeg) ≤ l4 → D_Mo_isLost r l0 l4 h (fun x18 h17 => ((x18 = 0 → ∀ x20 : Int32, x20 = l4 + 1 → K35 x20 h17) ∧ (¬ x18 = 0 → ((¬ ((l2 >>> (l4 &&& 31)) &&& 1) = 0 → ∀ x22 : Int32, x22 = l4 + 1 → K35 x22 h17) ∧ (((l2 >>> (l4 &&& 31)) &&& 1) = 0 → ((¬ l1 = 0 → Q l3 h17) ∧ (l1 = 0 → Q l4 h17)))))))))
set_option maxRecDepth 100000 in
set_option maxHeartbeats 4000000 in
theorem WB_Mo_lost_35 {Y : CG} {X : CX} {r : TR} {l0 : Nat} {l1 : Int32} {l2 : Int32} {l3 : Int32} {l4 : Int32} {h : TH} {K22 : Int32 → TH → Prop} {K35 : Int32 → TH → Prop} {K84 : TH → Prop} {K90 : TH → Prop} {Q : Int32 → TH → Prop} (C : Gd Y X cX8_lost 5 RX8 6) (R : Ri Y r X .int Q) (t0 : TO Y l0 8) (hK22 : ∀ (k3 : Int32) (hh : TH), K22 k3 hh → G Y X 5 22 [(0, .ref l0), (1, .int l1), (2, .int l2), (3, .int k3)] [] r hh) (hK35 : ∀ (k4 : Int32) (hh : TH), K35 k4 hh → G Y X 5 35 [(0, .ref l0), (1, .int l1), (2, .int l2), (3, .int l3), (4, .int k4)] [] r hh) (hK84 : ∀ (hh : TH), K84 hh → G Y X 5 84 [(0, .ref l0), (1, .int l1), (2, .int l2), (3, .int l3)] [] r hh) (hK90 : ∀ (hh : TH), K90 hh → G Y X 5 90 [] [] r hh) (hD : DB_Mo_lost_35 r l0 l1 l2 l3 l4 h K22 K35 K84 K90 Q) : G Y X 5 35 [(0, .ref l0), (1, .int l1), (2, .int l2), (3, .int l3), (4, .int l4)] [] r h := by
  unfold DB_Mo_lost_35 at hD
  refine g_wt (fun hw => ?_)
  refine g_iload (pc := 35) 4 rfl C dX8_lost_35 ?_
  refine g_aload_n (pc := 37) rfl 0 rfl C dX8_lost_37 ?_
  have u14 : TA Y (r l0 25) 10 2 := wt_a hw t0 (by decide) (by decide) rfl
  refine g_getR (pc := 38) C fl_RX8_52 t0 rfl dX8_lost_38 ?_
  refine g_aload_n (pc := 41) rfl 0 rfl C dX8_lost_41 ?_
  refine g_getI (pc := 42) C fl_RX8_230 t0 rfl dX8_lost_42 ?_
  refine g_topi (fun i15 ei15 => ?_)
  have hD := hD i15 ei15
  obtain ⟨hb, hD⟩ := hD
  refine g_iald (pc := 45) C u14 hb dX8_lost_45 ?_
  refine g_icmp_ge (pc := 46) 84 C dX8_lost_46 (by decide) (fun c16 => ?_) (fun c16 => ?_)
  · have hD := hD.1 c16
    refine g_sub [0, 1, 2, 3] rfl ?_
    exact hK84 h hD
  · have hD := hD.2 c16
    refine g_aload_n (pc := 49) rfl 0 rfl C dX8_lost_49 ?_
    refine g_iload (pc := 50) 4 rfl C dX8_lost_50 ?_
    refine g_callVi (pc := 52) (As := [.int l4]) C mv_RX8_385 (M_Mo_isLost t0 hD) t0 (by decide) rfl rfl (Nat.le_of_ble_eq_true rfl) dX8_lost_52 (fun x18 h17 hD => ?_)
    refine g_if_eq (pc := 55) 78 C dX8_lost_55 (by decide) (fun c19 => ?_) (fun c19 => ?_)
    · have hD := hD.1 c19
      refine g_iinc (pc := 78) (q := 4) (c := 1) (fun x20 => [(4, .int x20), (0, .ref l0), (1, .int l1), (2, .int l2), (3, .int l3)]) C dX8_lost_78 rfl (by decide) (by decide) rfl (fun x20 ex20 => ?_)
      have hD := hD x20 ex20
      refine g_goto (pc := 81) 35 C dX8_lost_81 (by decide) ?_
      refine g_sub [1, 2, 3, 4, 0] rfl ?_
      exact hK35 x20 h17 hD
    · have hD := hD.2 c19
      refine g_iload_n (pc := 58) rfl 2 rfl C dX8_lost_58 ?_
      refine g_iload (pc := 59) 4 rfl C dX8_lost_59 ?_
      refine g_ishr (pc := 61) C dX8_lost_61 ?_
      refine g_iconst (pc := 62) (v := 1) (by decide) C dX8_lost_62 ?_
      refine g_iand (pc := 63) C dX8_lost_63 ?_
      refine g_if_ne (pc := 64) 78 C dX8_lost_64 (by decide) (fun c21 => ?_) (fun c21 => ?_)
      · have hD := hD.1 c21
        refine g_iinc (pc := 78) (q := 4) (c := 1) (fun x22 => [(4, .int x22), (0, .ref l0), (1, .int l1), (2, .int l2), (3, .int l3)]) C dX8_lost_78 rfl (by decide) (by decide) rfl (fun x22 ex22 => ?_)
        have hD := hD x22 ex22
        refine g_goto (pc := 81) 35 C dX8_lost_81 (by decide) ?_
        refine g_sub [1, 2, 3, 4, 0] rfl ?_
        exact hK35 x22 h17 hD
      · have hD := hD.2 c21
        refine g_iload_n (pc := 67) rfl 1 rfl C dX8_lost_67 ?_
        refine g_if_ne (pc := 68) 76 C dX8_lost_68 (by decide) (fun c23 => ?_) (fun c23 => ?_)
        · have hD := hD.1 c23
          refine g_iload_n (pc := 76) rfl 3 rfl C dX8_lost_76 ?_
          exact g_iret (pc := 77) C R dX8_lost_77 hD
        · have hD := hD.2 c23
          refine g_iload (pc := 71) 4 rfl C dX8_lost_71 ?_
          refine g_goto (pc := 73) 77 C dX8_lost_73 (by decide) ?_
          exact g_iret (pc := 77) C R dX8_lost_77 hD
def DB_Mo_lost_22 (r : TR) (l0 : Nat) (l1 : Int32) (l2 : Int32) (l3 : Int32) (h : TH) (K22 : Int32 → TH → Prop) (K90 : TH → Prop) (Q : Int32 → TH → Prop) : Prop :=
  ((100 < l3 → K90 h) ∧ (¬ 100 < l3 → D_Mo_hourGoes r l0 h (fun h11 => ∃ n, lp (fun (K : Int32 × TH → Prop) (s : Int32 × TH) => DB_Mo_lost_35 r l0 l1 l2 l3 s.1 s.2 K22 (fun y24 h25 => K (y24, h25)) (fun h26 => ∀ x27 : Int32, x27 = l3 + 1 → K22 x27 h26) K90 Q) n (0, h11))))
set_option maxRecDepth 100000 in
set_option maxHeartbeats 4000000 in
theorem WB_Mo_lost_22 {Y : CG} {X : CX} {r : TR} {l0 : Nat} {l1 : Int32} {l2 : Int32} {l3 : Int32} {h : TH} {K22 : Int32 → TH → Prop} {K90 : TH → Prop} {Q : Int32 → TH → Prop} (C : Gd Y X cX8_lost 5 RX8 6) (R : Ri Y r X .int Q) (t0 : TO Y l0 8) (hK22 : ∀ (k3 : Int32) (hh : TH), K22 k3 hh → G Y X 5 22 [(0, .ref l0), (1, .int l1), (2, .int l2), (3, .int k3)] [] r hh) (hK90 : ∀ (hh : TH), K90 hh → G Y X 5 90 [] [] r hh) (hD : DB_Mo_lost_22 r l0 l1 l2 l3 h K22 K90 Q) : G Y X 5 22 [(0, .ref l0), (1, .int l1), (2, .int l2), (3, .int l3)] [] r h := by
  unfold DB_Mo_lost_22 at hD
  refine g_wt (fun hw => ?_)
  refine g_iload_n (pc := 22) rfl 3 rfl C dX8_lost_22 ?_
  refine g_bipush (pc := 23) (v := 100) (by decide) C dX8_lost_23 ?_
  refine g_icmp_gt (pc := 25) 90 C dX8_lost_25 (by decide) (fun c10 => ?_) (fun c10 => ?_)
  · have hD := hD.1 c10
    refine g_sub [] rfl ?_
    exact hK90 h hD
  · have hD := hD.2 c10
    refine g_aload_n (pc := 28) rfl 0 rfl C dX8_lost_28 ?_
    refine g_callVv (pc := 29) (As := []) C mv_RX8_382 (M_Mo_hourGoes t0 hD) t0 (by decide) rfl rfl (Nat.le_of_ble_eq_true rfl) dX8_lost_29 (fun h11 hD => ?_)
    refine g_iconst (pc := 32) (v := 0) (by decide) C dX8_lost_32 ?_
    refine g_istore (pc := 33) (fun _ => [(4, .int 0), (0, .ref l0), (1, .int l1), (2, .int l2), (3, .int l3)]) C dX8_lost_33 (by decide) rfl (fun _ _ => ?_)
    obtain ⟨n, hD⟩ := hD
    refine g_sub [1, 2, 3, 4, 0] rfl ?_
    refine lp_run (fun s : Int32 × TH => G Y X 5 35 [(0, .ref l0), (1, .int l1), (2, .int l2), (3, .int l3), (4, .int s.1)] [] r s.2) (fun K s hB hK => ?_) n (0, h11) hD
    refine WB_Mo_lost_35 C R t0 hK22 (fun y24 h25 hk => hK _ hk) (fun h26 hD => ?_) hK90 hB
    · refine g_iinc (pc := 84) (q := 3) (c := 1) (fun x27 => [(3, .int x27), (0, .ref l0), (1, .int l1), (2, .int l2)]) C dX8_lost_84 rfl (by decide) (by decide) rfl (fun x27 ex27 => ?_)
      have hD := hD x27 ex27
      refine g_goto (pc := 87) 22 C dX8_lost_87 (by decide) ?_
      refine g_sub [1, 2, 3, 0] rfl ?_
      exact hK22 x27 h26 hD
def D_Mo_lost (r : TR) (o : Nat) (a1 : Int32) (h : TH) (Q : Int32 → TH → Prop) : Prop :=
  D_Mo_in r a1 0 1 h (fun x2 h1 => ((¬ x2 = 0 → D_Mo_copies r o h1 (fun h4 => D_Mo_lostNow r o h4 (fun x7 h6 => ∃ n, lp (fun (K : Int32 × TH → Prop) (s : Int32 × TH) => DB_Mo_lost_22 r o a1 x7 s.1 s.2 (fun y28 h29 => K (y28, h29)) (fun h30 => Q (-2) h30) Q) n (1, h6)))) ∧ (x2 = 0 → Q (-1) h1)))
set_option maxRecDepth 100000 in
set_option maxHeartbeats 4000000 in
theorem M_Mo_lost {Y : CG} {r : TR} {l : Launch} {o : Nat} {a1 : Int32} {h : TH} {Q : Int32 → TH → Prop} (t0 : TO Y o 8) (hD : D_Mo_lost r o a1 h Q) : Mi Y r l yX8_lost cX8_lost 5 .int 6 [.ref o, .int a1] h Q := by
  unfold D_Mo_lost at hD
  refine Mi.of RX8 rfl (by decide) (by simp [lg_sl, Value.category]) [(0, .ref o), (1, .int a1)] rfl (fun X hXl C R => ?_)
  subst hXl
  refine g_wt (fun hw => ?_)
  refine g_iload_n (pc := 0) rfl 1 rfl C dX8_lost_0 ?_
  refine g_iconst (pc := 1) (v := 0) (by decide) C dX8_lost_1 ?_
  refine g_iconst (pc := 2) (v := 1) (by decide) C dX8_lost_2 ?_
  refine g_callSi (pc := 3) (As := [.int a1, .int 0, .int 1]) C ms_RX8_303 (M_Mo_in  hD) (by decide) rfl rfl (Nat.le_of_ble_eq_true rfl) dX8_lost_3 (fun x2 h1 hD => ?_)
  refine g_if_ne (pc := 6) 11 C dX8_lost_6 (by decide) (fun c3 => ?_) (fun c3 => ?_)
  · have hD := hD.1 c3
    refine g_aload_n (pc := 11) rfl 0 rfl C dX8_lost_11 ?_
    refine g_callVv (pc := 12) (As := []) C mv_RX8_397 (M_Mo_copies t0 hD) t0 (by decide) rfl rfl (Nat.le_of_ble_eq_true rfl) dX8_lost_12 (fun h4 hD => ?_)
    refine g_aload_n (pc := 15) rfl 0 rfl C dX8_lost_15 ?_
    refine g_callVi (pc := 16) (As := []) C mv_RX8_412 (M_Mo_lostNow t0 hD) t0 (by decide) rfl rfl (Nat.le_of_ble_eq_true rfl) dX8_lost_16 (fun x7 h6 hD => ?_)
    refine g_istore_n (pc := 19) (fun _ => [(2, .int x7), (0, .ref o), (1, .int a1)]) C dX8_lost_19 rfl (by decide) rfl (fun _ _ => ?_)
    refine g_iconst (pc := 20) (v := 1) (by decide) C dX8_lost_20 ?_
    refine g_istore_n (pc := 21) (fun _ => [(3, .int 1), (2, .int x7), (0, .ref o), (1, .int a1)]) C dX8_lost_21 rfl (by decide) rfl (fun _ _ => ?_)
    obtain ⟨n, hD⟩ := hD
    refine g_sub [2, 3, 1, 0] rfl ?_
    refine lp_run (fun s : Int32 × TH => G Y X 5 22 [(0, .ref o), (1, .int a1), (2, .int x7), (3, .int s.1)] [] r s.2) (fun K s hB hK => ?_) n (1, h6) hD
    refine WB_Mo_lost_22 C R t0 (fun y28 h29 hk => hK _ hk) (fun h30 hD => ?_) hB
    · refine g_bipush (pc := 90) (v := (-2)) (by decide) C dX8_lost_90 ?_
      exact g_iret (pc := 92) C R dX8_lost_92 hD
  · have hD := hD.2 c3
    refine g_iconst (pc := 9) (v := (-1)) (by decide) C dX8_lost_9 ?_
    exact g_iret (pc := 10) C R dX8_lost_10 hD
def D_Mo_many (r : TR) (o : Nat) (a1 : Int32) (a2 : Int32) (h : TH) (Q : Int32 → TH → Prop) : Prop :=
  D_Mo_isLong r a1 h (fun x2 h1 => ((¬ x2 = 0 → D_Mo_copies r o h1 (fun h4 => D_Mo_goes r o a1 h4 (fun h6 => ((a2 = 0 → Q (h6.1 (r o 49) ((31 : Int32).toNatClampNeg)) h6) ∧ (¬ a2 = 0 → D_Mo_lostNow r o h6 (fun x11 h10 => D_Mo_bits r x11 h10 (fun x13 h12 => Q x13 h12))))))) ∧ (x2 = 0 → Q (-1) h1)))
set_option maxRecDepth 100000 in
set_option maxHeartbeats 4000000 in
theorem M_Mo_many {Y : CG} {r : TR} {l : Launch} {o : Nat} {a1 : Int32} {a2 : Int32} {h : TH} {Q : Int32 → TH → Prop} (t0 : TO Y o 8) (hD : D_Mo_many r o a1 a2 h Q) : Mi Y r l yX8_many cX8_many 3 .int 7 [.ref o, .int a1, .int a2] h Q := by
  unfold D_Mo_many at hD
  refine Mi.of RX8 rfl (by decide) (by simp [lg_sl, Value.category]) [(0, .ref o), (1, .int a1), (2, .int a2)] rfl (fun X hXl C R => ?_)
  subst hXl
  refine g_wt (fun hw => ?_)
  refine g_iload_n (pc := 0) rfl 1 rfl C dX8_many_0 ?_
  refine g_callSi (pc := 1) (As := [.int a1]) C ms_RX8_409 (M_Mo_isLong  hD) (by decide) rfl rfl (Nat.le_of_ble_eq_true rfl) dX8_many_1 (fun x2 h1 hD => ?_)
  refine g_if_ne (pc := 4) 9 C dX8_many_4 (by decide) (fun c3 => ?_) (fun c3 => ?_)
  · have hD := hD.1 c3
    refine g_aload_n (pc := 9) rfl 0 rfl C dX8_many_9 ?_
    refine g_callVv (pc := 10) (As := []) C mv_RX8_397 (M_Mo_copies t0 hD) t0 (by decide) rfl rfl (Nat.le_of_ble_eq_true rfl) dX8_many_10 (fun h4 hD => ?_)
    refine g_aload_n (pc := 13) rfl 0 rfl C dX8_many_13 ?_
    refine g_iload_n (pc := 14) rfl 1 rfl C dX8_many_14 ?_
    refine g_callVv (pc := 15) (As := [.int a1]) C mv_RX8_403 (M_Mo_goes t0 hD) t0 (by decide) rfl rfl (Nat.le_of_ble_eq_true rfl) dX8_many_15 (fun h6 hD => ?_)
    refine g_iload_n (pc := 18) rfl 2 rfl C dX8_many_18 ?_
    refine g_if_eq (pc := 19) 32 C dX8_many_19 (by decide) (fun c8 => ?_) (fun c8 => ?_)
    · have hD := hD.1 c8
      refine g_aload_n (pc := 32) rfl 0 rfl C dX8_many_32 ?_
      have u9 : TA Y (r o 49) 10 512 := wt_a hw t0 (by decide) (by decide) rfl
      refine g_getR (pc := 33) C fl_RX8_113 t0 rfl dX8_many_33 ?_
      refine g_bipush (pc := 36) (v := 31) (by decide) C dX8_many_36 ?_
      refine g_iald (pc := 38) C u9 (by unfold vp_in; decide) dX8_many_38 ?_
      exact g_iret (pc := 39) C R dX8_many_39 hD
    · have hD := hD.2 c8
      refine g_aload_n (pc := 22) rfl 0 rfl C dX8_many_22 ?_
      refine g_callVi (pc := 23) (As := []) C mv_RX8_412 (M_Mo_lostNow t0 hD) t0 (by decide) rfl rfl (Nat.le_of_ble_eq_true rfl) dX8_many_23 (fun x11 h10 hD => ?_)
      refine g_callSi (pc := 26) (As := [.int x11]) C ms_RX8_373 (M_Mo_bits  hD) (by decide) rfl rfl (Nat.le_of_ble_eq_true rfl) dX8_many_26 (fun x13 h12 hD => ?_)
      refine g_goto (pc := 29) 39 C dX8_many_29 (by decide) ?_
      exact g_iret (pc := 39) C R dX8_many_39 hD
  · have hD := hD.2 c3
    refine g_iconst (pc := 7) (v := (-1)) (by decide) C dX8_many_7 ?_
    exact g_iret (pc := 8) C R dX8_many_8 hD
def DB_Mo_met_43 (r : TR) (l0 : Nat) (l1 : Int32) (l2 : Int32) (l3 : Int32) (l4 : Int32) (l5 : Int32) (h : TH) (K43 : Int32 → Int32 → TH → Prop) (K114 : Int32 → TH → Prop) (Q : Int32 → TH → Prop) : Prop :=
  ((l3 ≤ l5 → K114 l4 h) ∧ (¬ l3 ≤ l5 → D_Mo_hourGoes r l0 h (fun h16 => D_Mo_isSailing r l0 l1 h16 (fun x19 h18 => ((x19 = 0 → ∀ x21 : Int32, x21 = l5 + 1 → K43 l4 x21 h18) ∧ (¬ x19 = 0 → D_Mo_isSailing r l0 l2 h18 (fun x23 h22 => ((x23 = 0 → ∀ x25 : Int32, x25 = l5 + 1 → K43 l4 x25 h22) ∧ (¬ x23 = 0 → vp_in l1 512 ∧ vp_in l2 512 ∧ ((¬ (h22.1 (r l0 49) l1.toNatClampNeg) = (h22.1 (r l0 49) l2.toNatClampNeg) → ∀ x29 : Int32, x29 = l5 + 1 → K43 l4 x29 h22) ∧ ((h22.1 (r l0 49) l1.toNatClampNeg) = (h22.1 (r l0 49) l2.toNatClampNeg) → ∀ i31 : Int32, i31 = 6 + l1 → vp_in i31 512 ∧ ∀ i33 : Int32, i33 = 6 + l2 → vp_in i33 512 ∧ ((¬ (h22.1 (r l0 49) i31.toNatClampNeg) = (h22.1 (r l0 49) i33.toNatClampNeg) → ∀ x35 : Int32, x35 = l5 + 1 → K43 l4 x35 h22) ∧ ((h22.1 (r l0 49) i31.toNatClampNeg) = (h22.1 (r l0 49) i33.toNatClampNeg) → ∀ x36 : Int32, x36 = l4 + 1 → ∀ x37 : Int32, x37 = l5 + 1 → K43 x36 x37 h22)))))))))))))
set_option maxRecDepth 100000 in
set_option maxHeartbeats 4000000 in
theorem WB_Mo_met_43 {Y : CG} {X : CX} {r : TR} {l0 : Nat} {l1 : Int32} {l2 : Int32} {l3 : Int32} {l4 : Int32} {l5 : Int32} {h : TH} {K43 : Int32 → Int32 → TH → Prop} {K114 : Int32 → TH → Prop} {Q : Int32 → TH → Prop} (C : Gd Y X cX8_met 6 RX8 6) (R : Ri Y r X .int Q) (t0 : TO Y l0 8) (hK43 : ∀ (k4 : Int32) (k5 : Int32) (hh : TH), K43 k4 k5 hh → G Y X 6 43 [(0, .ref l0), (1, .int l1), (2, .int l2), (3, .int l3), (4, .int k4), (5, .int k5)] [] r hh) (hK114 : ∀ (k4 : Int32) (hh : TH), K114 k4 hh → G Y X 6 114 [(4, .int k4)] [] r hh) (hD : DB_Mo_met_43 r l0 l1 l2 l3 l4 l5 h K43 K114 Q) : G Y X 6 43 [(0, .ref l0), (1, .int l1), (2, .int l2), (3, .int l3), (4, .int l4), (5, .int l5)] [] r h := by
  unfold DB_Mo_met_43 at hD
  refine g_wt (fun hw => ?_)
  refine g_iload (pc := 43) 5 rfl C dX8_met_43 ?_
  refine g_iload_n (pc := 45) rfl 3 rfl C dX8_met_45 ?_
  refine g_icmp_ge (pc := 46) 114 C dX8_met_46 (by decide) (fun c15 => ?_) (fun c15 => ?_)
  · have hD := hD.1 c15
    refine g_sub [4] rfl ?_
    exact hK114 l4 h hD
  · have hD := hD.2 c15
    refine g_aload_n (pc := 49) rfl 0 rfl C dX8_met_49 ?_
    refine g_callVv (pc := 50) (As := []) C mv_RX8_382 (M_Mo_hourGoes t0 hD) t0 (by decide) rfl rfl (Nat.le_of_ble_eq_true rfl) dX8_met_50 (fun h16 hD => ?_)
    refine g_aload_n (pc := 53) rfl 0 rfl C dX8_met_53 ?_
    refine g_iload_n (pc := 54) rfl 1 rfl C dX8_met_54 ?_
    refine g_callVi (pc := 55) (As := [.int l1]) C mv_RX8_347 (M_Mo_isSailing t0 hD) t0 (by decide) rfl rfl (Nat.le_of_ble_eq_true rfl) dX8_met_55 (fun x19 h18 hD => ?_)
    refine g_if_eq (pc := 58) 108 C dX8_met_58 (by decide) (fun c20 => ?_) (fun c20 => ?_)
    · have hD := hD.1 c20
      refine g_iinc (pc := 108) (q := 5) (c := 1) (fun x21 => [(5, .int x21), (0, .ref l0), (1, .int l1), (2, .int l2), (3, .int l3), (4, .int l4)]) C dX8_met_108 rfl (by decide) (by decide) rfl (fun x21 ex21 => ?_)
      have hD := hD x21 ex21
      refine g_goto (pc := 111) 43 C dX8_met_111 (by decide) ?_
      refine g_sub [1, 2, 3, 4, 5, 0] rfl ?_
      exact hK43 l4 x21 h18 hD
    · have hD := hD.2 c20
      refine g_aload_n (pc := 61) rfl 0 rfl C dX8_met_61 ?_
      refine g_iload_n (pc := 62) rfl 2 rfl C dX8_met_62 ?_
      refine g_callVi (pc := 63) (As := [.int l2]) C mv_RX8_347 (M_Mo_isSailing t0 hD) t0 (by decide) rfl rfl (Nat.le_of_ble_eq_true rfl) dX8_met_63 (fun x23 h22 hD => ?_)
      refine g_if_eq (pc := 66) 108 C dX8_met_66 (by decide) (fun c24 => ?_) (fun c24 => ?_)
      · have hD := hD.1 c24
        refine g_iinc (pc := 108) (q := 5) (c := 1) (fun x25 => [(5, .int x25), (0, .ref l0), (1, .int l1), (2, .int l2), (3, .int l3), (4, .int l4)]) C dX8_met_108 rfl (by decide) (by decide) rfl (fun x25 ex25 => ?_)
        have hD := hD x25 ex25
        refine g_goto (pc := 111) 43 C dX8_met_111 (by decide) ?_
        refine g_sub [1, 2, 3, 4, 5, 0] rfl ?_
        exact hK43 l4 x25 h22 hD
      · have hD := hD.2 c24
        refine g_aload_n (pc := 69) rfl 0 rfl C dX8_met_69 ?_
        have u26 : TA Y (r l0 49) 10 512 := wt_a hw t0 (by decide) (by decide) rfl
        refine g_getR (pc := 70) C fl_RX8_113 t0 rfl dX8_met_70 ?_
        refine g_iload_n (pc := 73) rfl 1 rfl C dX8_met_73 ?_
        obtain ⟨hb, hD⟩ := hD
        refine g_iald (pc := 74) C u26 hb dX8_met_74 ?_
        refine g_aload_n (pc := 75) rfl 0 rfl C dX8_met_75 ?_
        have u27 : TA Y (r l0 49) 10 512 := wt_a hw t0 (by decide) (by decide) rfl
        refine g_getR (pc := 76) C fl_RX8_113 t0 rfl dX8_met_76 ?_
        refine g_iload_n (pc := 79) rfl 2 rfl C dX8_met_79 ?_
        obtain ⟨hb, hD⟩ := hD
        refine g_iald (pc := 80) C u27 hb dX8_met_80 ?_
        refine g_icmp_ne (pc := 81) 108 C dX8_met_81 (by decide) (fun c28 => ?_) (fun c28 => ?_)
        · have hD := hD.1 c28
          refine g_iinc (pc := 108) (q := 5) (c := 1) (fun x29 => [(5, .int x29), (0, .ref l0), (1, .int l1), (2, .int l2), (3, .int l3), (4, .int l4)]) C dX8_met_108 rfl (by decide) (by decide) rfl (fun x29 ex29 => ?_)
          have hD := hD x29 ex29
          refine g_goto (pc := 111) 43 C dX8_met_111 (by decide) ?_
          refine g_sub [1, 2, 3, 4, 5, 0] rfl ?_
          exact hK43 l4 x29 h22 hD
        · have hD := hD.2 c28
          refine g_aload_n (pc := 84) rfl 0 rfl C dX8_met_84 ?_
          have u30 : TA Y (r l0 49) 10 512 := wt_a hw t0 (by decide) (by decide) rfl
          refine g_getR (pc := 85) C fl_RX8_113 t0 rfl dX8_met_85 ?_
          refine g_bipush (pc := 88) (v := 6) (by decide) C dX8_met_88 ?_
          refine g_iload_n (pc := 90) rfl 1 rfl C dX8_met_90 ?_
          refine g_iadd (pc := 91) C dX8_met_91 ?_
          refine g_topi (fun i31 ei31 => ?_)
          have hD := hD i31 ei31
          obtain ⟨hb, hD⟩ := hD
          refine g_iald (pc := 92) C u30 hb dX8_met_92 ?_
          refine g_aload_n (pc := 93) rfl 0 rfl C dX8_met_93 ?_
          have u32 : TA Y (r l0 49) 10 512 := wt_a hw t0 (by decide) (by decide) rfl
          refine g_getR (pc := 94) C fl_RX8_113 t0 rfl dX8_met_94 ?_
          refine g_bipush (pc := 97) (v := 6) (by decide) C dX8_met_97 ?_
          refine g_iload_n (pc := 99) rfl 2 rfl C dX8_met_99 ?_
          refine g_iadd (pc := 100) C dX8_met_100 ?_
          refine g_topi (fun i33 ei33 => ?_)
          have hD := hD i33 ei33
          obtain ⟨hb, hD⟩ := hD
          refine g_iald (pc := 101) C u32 hb dX8_met_101 ?_
          refine g_icmp_ne (pc := 102) 108 C dX8_met_102 (by decide) (fun c34 => ?_) (fun c34 => ?_)
          · have hD := hD.1 c34
            refine g_iinc (pc := 108) (q := 5) (c := 1) (fun x35 => [(5, .int x35), (0, .ref l0), (1, .int l1), (2, .int l2), (3, .int l3), (4, .int l4)]) C dX8_met_108 rfl (by decide) (by decide) rfl (fun x35 ex35 => ?_)
            have hD := hD x35 ex35
            refine g_goto (pc := 111) 43 C dX8_met_111 (by decide) ?_
            refine g_sub [1, 2, 3, 4, 5, 0] rfl ?_
            exact hK43 l4 x35 h22 hD
          · have hD := hD.2 c34
            refine g_iinc (pc := 105) (q := 4) (c := 1) (fun x36 => [(4, .int x36), (0, .ref l0), (1, .int l1), (2, .int l2), (3, .int l3), (5, .int l5)]) C dX8_met_105 rfl (by decide) (by decide) rfl (fun x36 ex36 => ?_)
            have hD := hD x36 ex36
            refine g_iinc (pc := 108) (q := 5) (c := 1) (fun x37 => [(5, .int x37), (4, .int x36), (0, .ref l0), (1, .int l1), (2, .int l2), (3, .int l3)]) C dX8_met_108 rfl (by decide) (by decide) rfl (fun x37 ex37 => ?_)
            have hD := hD x37 ex37
            refine g_goto (pc := 111) 43 C dX8_met_111 (by decide) ?_
            refine g_sub [2, 3, 4, 5, 1, 0] rfl ?_
            exact hK43 x36 x37 h22 hD
def D_Mo_met (r : TR) (o : Nat) (a1 : Int32) (a2 : Int32) (a3 : Int32) (h : TH) (Q : Int32 → TH → Prop) : Prop :=
  D_Mo_isBoat r o a1 h (fun x2 h1 => ((x2 = 0 → Q (-1) h1) ∧ (¬ x2 = 0 → D_Mo_isBoat r o a2 h1 (fun x5 h4 => ((x5 = 0 → Q (-1) h4) ∧ (¬ x5 = 0 → ((a1 = a2 → Q (-1) h4) ∧ (¬ a1 = a2 → D_Mo_in r a3 1 100 h4 (fun x9 h8 => ((¬ x9 = 0 → D_Mo_copies r o h8 (fun h11 => ∃ n, lp (fun (K : Int32 × Int32 × TH → Prop) (s : Int32 × Int32 × TH) => DB_Mo_met_43 r o a1 a2 a3 s.1 s.2.1 s.2.2 (fun y38 y39 h40 => K (y38, y39, h40)) (fun x41 h42 => Q x41 h42) Q) n (0, 0, h11))) ∧ (x9 = 0 → Q (-1) h8)))))))))))
set_option maxRecDepth 100000 in
set_option maxHeartbeats 4000000 in
theorem M_Mo_met {Y : CG} {r : TR} {l : Launch} {o : Nat} {a1 : Int32} {a2 : Int32} {a3 : Int32} {h : TH} {Q : Int32 → TH → Prop} (t0 : TO Y o 8) (hD : D_Mo_met r o a1 a2 a3 h Q) : Mi Y r l yX8_met cX8_met 6 .int 6 [.ref o, .int a1, .int a2, .int a3] h Q := by
  unfold D_Mo_met at hD
  refine Mi.of RX8 rfl (by decide) (by simp [lg_sl, Value.category]) [(0, .ref o), (1, .int a1), (2, .int a2), (3, .int a3)] rfl (fun X hXl C R => ?_)
  subst hXl
  refine g_wt (fun hw => ?_)
  refine g_aload_n (pc := 0) rfl 0 rfl C dX8_met_0 ?_
  refine g_iload_n (pc := 1) rfl 1 rfl C dX8_met_1 ?_
  refine g_callVi (pc := 2) (As := [.int a1]) C mv_RX8_394 (M_Mo_isBoat t0 hD) t0 (by decide) rfl rfl (Nat.le_of_ble_eq_true rfl) dX8_met_2 (fun x2 h1 hD => ?_)
  refine g_if_eq (pc := 5) 31 C dX8_met_5 (by decide) (fun c3 => ?_) (fun c3 => ?_)
  · have hD := hD.1 c3
    refine g_iconst (pc := 31) (v := (-1)) (by decide) C dX8_met_31 ?_
    exact g_iret (pc := 32) C R dX8_met_32 hD
  · have hD := hD.2 c3
    refine g_aload_n (pc := 8) rfl 0 rfl C dX8_met_8 ?_
    refine g_iload_n (pc := 9) rfl 2 rfl C dX8_met_9 ?_
    refine g_callVi (pc := 10) (As := [.int a2]) C mv_RX8_394 (M_Mo_isBoat t0 hD) t0 (by decide) rfl rfl (Nat.le_of_ble_eq_true rfl) dX8_met_10 (fun x5 h4 hD => ?_)
    refine g_if_eq (pc := 13) 31 C dX8_met_13 (by decide) (fun c6 => ?_) (fun c6 => ?_)
    · have hD := hD.1 c6
      refine g_iconst (pc := 31) (v := (-1)) (by decide) C dX8_met_31 ?_
      exact g_iret (pc := 32) C R dX8_met_32 hD
    · have hD := hD.2 c6
      refine g_iload_n (pc := 16) rfl 1 rfl C dX8_met_16 ?_
      refine g_iload_n (pc := 17) rfl 2 rfl C dX8_met_17 ?_
      refine g_icmp_eq (pc := 18) 31 C dX8_met_18 (by decide) (fun c7 => ?_) (fun c7 => ?_)
      · have hD := hD.1 c7
        refine g_iconst (pc := 31) (v := (-1)) (by decide) C dX8_met_31 ?_
        exact g_iret (pc := 32) C R dX8_met_32 hD
      · have hD := hD.2 c7
        refine g_iload_n (pc := 21) rfl 3 rfl C dX8_met_21 ?_
        refine g_iconst (pc := 22) (v := 1) (by decide) C dX8_met_22 ?_
        refine g_bipush (pc := 23) (v := 100) (by decide) C dX8_met_23 ?_
        refine g_callSi (pc := 25) (As := [.int a3, .int 1, .int 100]) C ms_RX8_303 (M_Mo_in  hD) (by decide) rfl rfl (Nat.le_of_ble_eq_true rfl) dX8_met_25 (fun x9 h8 hD => ?_)
        refine g_if_ne (pc := 28) 33 C dX8_met_28 (by decide) (fun c10 => ?_) (fun c10 => ?_)
        · have hD := hD.1 c10
          refine g_aload_n (pc := 33) rfl 0 rfl C dX8_met_33 ?_
          refine g_callVv (pc := 34) (As := []) C mv_RX8_397 (M_Mo_copies t0 hD) t0 (by decide) rfl rfl (Nat.le_of_ble_eq_true rfl) dX8_met_34 (fun h11 hD => ?_)
          refine g_iconst (pc := 37) (v := 0) (by decide) C dX8_met_37 ?_
          refine g_istore (pc := 38) (fun _ => [(4, .int 0), (0, .ref o), (1, .int a1), (2, .int a2), (3, .int a3)]) C dX8_met_38 (by decide) rfl (fun _ _ => ?_)
          refine g_iconst (pc := 40) (v := 0) (by decide) C dX8_met_40 ?_
          refine g_istore (pc := 41) (fun _ => [(5, .int 0), (4, .int 0), (0, .ref o), (1, .int a1), (2, .int a2), (3, .int a3)]) C dX8_met_41 (by decide) rfl (fun _ _ => ?_)
          obtain ⟨n, hD⟩ := hD
          refine g_sub [2, 3, 4, 5, 1, 0] rfl ?_
          refine lp_run (fun s : Int32 × Int32 × TH => G Y X 6 43 [(0, .ref o), (1, .int a1), (2, .int a2), (3, .int a3), (4, .int s.1), (5, .int s.2.1)] [] r s.2.2) (fun K s hB hK => ?_) n (0, 0, h11) hD
          refine WB_Mo_met_43 C R t0 (fun y38 y39 h40 hk => hK _ hk) (fun x41 h42 hD => ?_) hB
          · refine g_iload (pc := 114) 0 rfl C dX8_met_114 ?_
            exact g_iret (pc := 116) C R dX8_met_116 hD
        · have hD := hD.2 c10
          refine g_iconst (pc := 31) (v := (-1)) (by decide) C dX8_met_31 ?_
          exact g_iret (pc := 32) C R dX8_met_32 hD
def D_Mo_must (r : TR) (o : Nat) (a1 : Int32) (h : TH) (Q : TH → Prop) : Prop :=
  D_Mo_is r o a1 h (fun x2 h1 => ((x2 = 0 → D_Mo_fail r o 1 h1 (fun h4 => Q h4)) ∧ (¬ x2 = 0 → D_Mo_goesOn r o h1 (fun h6 => Q h6))))
set_option maxRecDepth 100000 in
set_option maxHeartbeats 4000000 in
theorem M_Mo_must {Y : CG} {r : TR} {l : Launch} {o : Nat} {a1 : Int32} {h : TH} {Q : TH → Prop} (t0 : TO Y o 8) (hD : D_Mo_must r o a1 h Q) : Mv Y r l yX8_must cX8_must 2 3 [.ref o, .int a1] h Q := by
  unfold D_Mo_must at hD
  refine Mv.of RX8 rfl (by decide) (by simp [lg_sl, Value.category]) [(0, .ref o), (1, .int a1)] rfl (fun X hXl C R => ?_)
  subst hXl
  refine g_wt (fun hw => ?_)
  refine g_aload_n (pc := 0) rfl 0 rfl C dX8_must_0 ?_
  refine g_iload_n (pc := 1) rfl 1 rfl C dX8_must_1 ?_
  refine g_callVi (pc := 2) (As := [.int a1]) C mv_RX8_218 (M_Mo_is t0 hD) t0 (by decide) rfl rfl (Nat.le_of_ble_eq_true rfl) dX8_must_2 (fun x2 h1 hD => ?_)
  refine g_if_eq (pc := 5) 15 C dX8_must_5 (by decide) (fun c3 => ?_) (fun c3 => ?_)
  · have hD := hD.1 c3
    refine g_aload_n (pc := 15) rfl 0 rfl C dX8_must_15 ?_
    refine g_iconst (pc := 16) (v := 1) (by decide) C dX8_must_16 ?_
    refine g_callVv (pc := 17) (As := [.int 1]) C mv_RX8_215 (M_Mo_fail t0 hD) t0 (by decide) rfl rfl (Nat.le_of_ble_eq_true rfl) dX8_must_17 (fun h4 hD => ?_)
    exact g_vret (pc := 20) C R dX8_must_20 hD
  · have hD := hD.2 c3
    refine g_aload_n (pc := 8) rfl 0 rfl C dX8_must_8 ?_
    refine g_callVv (pc := 9) (As := []) C mv_RX8_221 (M_Mo_goesOn t0 hD) t0 (by decide) rfl rfl (Nat.le_of_ble_eq_true rfl) dX8_must_9 (fun h6 hD => ?_)
    refine g_goto (pc := 12) 20 C dX8_must_12 (by decide) ?_
    exact g_vret (pc := 20) C R dX8_must_20 hD
