def DB_Mo_odds_33 (r : TR) (l0 : Nat) (l1 : Int32) (l2 : Int32) (l3 : Int32) (l4 : Int32) (l5 : Int32) (h : TH) (K33 : Int32 → Int32 → TH → Prop) (K80 : Int32 → TH → Prop) (Q : Int32 → TH → Prop) : Prop :=
  ((l3 ≤ l5 → K80 l4 h) ∧ (¬ l3 ≤ l5 → D_Mo_copies r l0 h (fun h13 => ∀ h15, h15 = pI h13 l0 50 ((h13.1 l0 50) + l5) → D_Mo_goes r l0 l2 h15 (fun h16 => ∀ i19 : Int32, i19 = 12 + l1 → vp_in i19 512 ∧ (((h16.1 (r l0 49) i19.toNatClampNeg) ≤ 0 → ∀ x21 : Int32, x21 = l5 + 1 → K33 l4 x21 h16) ∧ (¬ (h16.1 (r l0 49) i19.toNatClampNeg) ≤ 0 → ∀ x22 : Int32, x22 = l4 + 1 → ∀ x23 : Int32, x23 = l5 + 1 → K33 x22 x23 h16))))))
set_option maxRecDepth 100000 in
set_option maxHeartbeats 4000000 in
theorem WB_Mo_odds_33 {Y : CG} {X : CX} {r : TR} {l0 : Nat} {l1 : Int32} {l2 : Int32} {l3 : Int32} {l4 : Int32} {l5 : Int32} {h : TH} {K33 : Int32 → Int32 → TH → Prop} {K80 : Int32 → TH → Prop} {Q : Int32 → TH → Prop} (C : Gd Y X cX8_odds 6 RX8 7) (R : Ri Y r X .int Q) (t0 : TO Y l0 8) (hK33 : ∀ (k4 : Int32) (k5 : Int32) (hh : TH), K33 k4 k5 hh → G Y X 6 33 [(0, .ref l0), (1, .int l1), (2, .int l2), (3, .int l3), (4, .int k4), (5, .int k5)] [] r hh) (hK80 : ∀ (k4 : Int32) (hh : TH), K80 k4 hh → G Y X 6 80 [(4, .int k4)] [] r hh) (hD : DB_Mo_odds_33 r l0 l1 l2 l3 l4 l5 h K33 K80 Q) : G Y X 6 33 [(0, .ref l0), (1, .int l1), (2, .int l2), (3, .int l3), (4, .int l4), (5, .int l5)] [] r h := by
  unfold DB_Mo_odds_33 at hD
  refine g_wt (fun hw => ?_)
  refine g_iload (pc := 33) 5 rfl C dX8_odds_33 ?_
  refine g_iload_n (pc := 35) rfl 3 rfl C dX8_odds_35 ?_
  refine g_icmp_ge (pc := 36) 80 C dX8_odds_36 (by decide) (fun c12 => ?_) (fun c12 => ?_)
  · have hD := hD.1 c12
    refine g_sub [4] rfl ?_
    exact hK80 l4 h hD
  · have hD := hD.2 c12
    refine g_aload_n (pc := 39) rfl 0 rfl C dX8_odds_39 ?_
    refine g_callVv (pc := 40) (As := []) C mv_RX8_397 (M_Mo_copies t0 hD) t0 (by decide) rfl rfl (Nat.le_of_ble_eq_true rfl) dX8_odds_40 (fun h13 hD => ?_)
    refine g_aload_n (pc := 43) rfl 0 rfl C dX8_odds_43 ?_
    refine g_dup (pc := 44) rfl C dX8_odds_44 ?_
    refine g_getI (pc := 45) C fl_RX8_313 t0 rfl dX8_odds_45 ?_
    refine g_iload (pc := 48) 5 rfl C dX8_odds_48 ?_
    refine g_iadd (pc := 50) C dX8_odds_50 ?_
    refine g_putI (pc := 51) C fl_RX8_313 t0 rfl rfl rfl dX8_odds_51 (fun h15 eh15 => ?_)
    have hD := hD h15 eh15
    refine g_aload_n (pc := 54) rfl 0 rfl C dX8_odds_54 ?_
    refine g_iload_n (pc := 55) rfl 2 rfl C dX8_odds_55 ?_
    refine g_callVv (pc := 56) (As := [.int l2]) C mv_RX8_403 (M_Mo_goes t0 hD) t0 (by decide) rfl rfl (Nat.le_of_ble_eq_true rfl) dX8_odds_56 (fun h16 hD => ?_)
    refine g_aload_n (pc := 59) rfl 0 rfl C dX8_odds_59 ?_
    have u18 : TA Y (r l0 49) 10 512 := wt_a hw t0 (by decide) (by decide) rfl
    refine g_getR (pc := 60) C fl_RX8_113 t0 rfl dX8_odds_60 ?_
    refine g_bipush (pc := 63) (v := 12) (by decide) C dX8_odds_63 ?_
    refine g_iload_n (pc := 65) rfl 1 rfl C dX8_odds_65 ?_
    refine g_iadd (pc := 66) C dX8_odds_66 ?_
    refine g_topi (fun i19 ei19 => ?_)
    have hD := hD i19 ei19
    obtain ⟨hb, hD⟩ := hD
    refine g_iald (pc := 67) C u18 hb dX8_odds_67 ?_
    refine g_if_le (pc := 68) 74 C dX8_odds_68 (by decide) (fun c20 => ?_) (fun c20 => ?_)
    · have hD := hD.1 c20
      refine g_iinc (pc := 74) (q := 5) (c := 1) (fun x21 => [(5, .int x21), (0, .ref l0), (1, .int l1), (2, .int l2), (3, .int l3), (4, .int l4)]) C dX8_odds_74 rfl (by decide) (by decide) rfl (fun x21 ex21 => ?_)
      have hD := hD x21 ex21
      refine g_goto (pc := 77) 33 C dX8_odds_77 (by decide) ?_
      refine g_sub [1, 2, 3, 4, 5, 0] rfl ?_
      exact hK33 l4 x21 h16 hD
    · have hD := hD.2 c20
      refine g_iinc (pc := 71) (q := 4) (c := 1) (fun x22 => [(4, .int x22), (0, .ref l0), (1, .int l1), (2, .int l2), (3, .int l3), (5, .int l5)]) C dX8_odds_71 rfl (by decide) (by decide) rfl (fun x22 ex22 => ?_)
      have hD := hD x22 ex22
      refine g_iinc (pc := 74) (q := 5) (c := 1) (fun x23 => [(5, .int x23), (4, .int x22), (0, .ref l0), (1, .int l1), (2, .int l2), (3, .int l3)]) C dX8_odds_74 rfl (by decide) (by decide) rfl (fun x23 ex23 => ?_)
      have hD := hD x23 ex23
      refine g_goto (pc := 77) 33 C dX8_odds_77 (by decide) ?_
      refine g_sub [2, 3, 4, 5, 1, 0] rfl ?_
      exact hK33 x22 x23 h16 hD
def D_Mo_odds (r : TR) (o : Nat) (a1 : Int32) (a2 : Int32) (a3 : Int32) (h : TH) (Q : Int32 → TH → Prop) : Prop :=
  D_Mo_isBoat r o a1 h (fun x2 h1 => ((x2 = 0 → Q (-1) h1) ∧ (¬ x2 = 0 → D_Mo_isLong r a2 h1 (fun x5 h4 => ((x5 = 0 → Q (-1) h4) ∧ (¬ x5 = 0 → D_Mo_in r a3 1 20 h4 (fun x8 h7 => ((¬ x8 = 0 → ∃ n, lp (fun (K : Int32 × Int32 × TH → Prop) (s : Int32 × Int32 × TH) => DB_Mo_odds_33 r o a1 a2 a3 s.1 s.2.1 s.2.2 (fun y24 y25 h26 => K (y24, y25, h26)) (fun x27 h28 => Q x27 h28) Q) n (0, 0, h7)) ∧ (x8 = 0 → Q (-1) h7)))))))))
set_option maxRecDepth 100000 in
set_option maxHeartbeats 4000000 in
theorem M_Mo_odds {Y : CG} {r : TR} {l : Launch} {o : Nat} {a1 : Int32} {a2 : Int32} {a3 : Int32} {h : TH} {Q : Int32 → TH → Prop} (t0 : TO Y o 8) (hD : D_Mo_odds r o a1 a2 a3 h Q) : Mi Y r l yX8_odds cX8_odds 6 .int 7 [.ref o, .int a1, .int a2, .int a3] h Q := by
  unfold D_Mo_odds at hD
  refine Mi.of RX8 rfl (by decide) (by simp [lg_sl, Value.category]) [(0, .ref o), (1, .int a1), (2, .int a2), (3, .int a3)] rfl (fun X hXl C R => ?_)
  subst hXl
  refine g_wt (fun hw => ?_)
  refine g_aload_n (pc := 0) rfl 0 rfl C dX8_odds_0 ?_
  refine g_iload_n (pc := 1) rfl 1 rfl C dX8_odds_1 ?_
  refine g_callVi (pc := 2) (As := [.int a1]) C mv_RX8_394 (M_Mo_isBoat t0 hD) t0 (by decide) rfl rfl (Nat.le_of_ble_eq_true rfl) dX8_odds_2 (fun x2 h1 hD => ?_)
  refine g_if_eq (pc := 5) 25 C dX8_odds_5 (by decide) (fun c3 => ?_) (fun c3 => ?_)
  · have hD := hD.1 c3
    refine g_iconst (pc := 25) (v := (-1)) (by decide) C dX8_odds_25 ?_
    exact g_iret (pc := 26) C R dX8_odds_26 hD
  · have hD := hD.2 c3
    refine g_iload_n (pc := 8) rfl 2 rfl C dX8_odds_8 ?_
    refine g_callSi (pc := 9) (As := [.int a2]) C ms_RX8_409 (M_Mo_isLong  hD) (by decide) rfl rfl (Nat.le_of_ble_eq_true rfl) dX8_odds_9 (fun x5 h4 hD => ?_)
    refine g_if_eq (pc := 12) 25 C dX8_odds_12 (by decide) (fun c6 => ?_) (fun c6 => ?_)
    · have hD := hD.1 c6
      refine g_iconst (pc := 25) (v := (-1)) (by decide) C dX8_odds_25 ?_
      exact g_iret (pc := 26) C R dX8_odds_26 hD
    · have hD := hD.2 c6
      refine g_iload_n (pc := 15) rfl 3 rfl C dX8_odds_15 ?_
      refine g_iconst (pc := 16) (v := 1) (by decide) C dX8_odds_16 ?_
      refine g_bipush (pc := 17) (v := 20) (by decide) C dX8_odds_17 ?_
      refine g_callSi (pc := 19) (As := [.int a3, .int 1, .int 20]) C ms_RX8_303 (M_Mo_in  hD) (by decide) rfl rfl (Nat.le_of_ble_eq_true rfl) dX8_odds_19 (fun x8 h7 hD => ?_)
      refine g_if_ne (pc := 22) 27 C dX8_odds_22 (by decide) (fun c9 => ?_) (fun c9 => ?_)
      · have hD := hD.1 c9
        refine g_iconst (pc := 27) (v := 0) (by decide) C dX8_odds_27 ?_
        refine g_istore (pc := 28) (fun _ => [(4, .int 0), (0, .ref o), (1, .int a1), (2, .int a2), (3, .int a3)]) C dX8_odds_28 (by decide) rfl (fun _ _ => ?_)
        refine g_iconst (pc := 30) (v := 0) (by decide) C dX8_odds_30 ?_
        refine g_istore (pc := 31) (fun _ => [(5, .int 0), (4, .int 0), (0, .ref o), (1, .int a1), (2, .int a2), (3, .int a3)]) C dX8_odds_31 (by decide) rfl (fun _ _ => ?_)
        obtain ⟨n, hD⟩ := hD
        refine g_sub [2, 3, 4, 5, 1, 0] rfl ?_
        refine lp_run (fun s : Int32 × Int32 × TH => G Y X 6 33 [(0, .ref o), (1, .int a1), (2, .int a2), (3, .int a3), (4, .int s.1), (5, .int s.2.1)] [] r s.2.2) (fun K s hB hK => ?_) n (0, 0, h7) hD
        refine WB_Mo_odds_33 C R t0 (fun y24 y25 h26 hk => hK _ hk) (fun x27 h28 hD => ?_) hB
        · refine g_iload (pc := 80) 0 rfl C dX8_odds_80 ?_
          exact g_iret (pc := 82) C R dX8_odds_82 hD
      · have hD := hD.2 c9
        refine g_iconst (pc := 25) (v := (-1)) (by decide) C dX8_odds_25 ?_
        exact g_iret (pc := 26) C R dX8_odds_26 hD
def DB_Mo_out_25 (r : TR) (l0 : Nat) (l1 : Int32) (l2 : Int32) (l3 : Int32) (l4 : Int32) (h : TH) (K25 : Int32 → TH → Prop) (K54 : TH → Prop) (Q : Int32 → TH → Prop) : Prop :=
  ((64 ≤ l4 → K54 h) ∧ (¬ 64 ≤ l4 → ((¬ (l4 &&& (l3 ^^^ (-1))) = 0 → ∀ x11 : Int32, x11 = l4 + 1 → K25 x11 h) ∧ ((l4 &&& (l3 ^^^ (-1))) = 0 → D_Mo_fillsEast r l0 l4 l1 h (fun h12 => ∀ x14 : Int32, x14 = l4 + 1 → K25 x14 h12)))))
set_option maxRecDepth 100000 in
set_option maxHeartbeats 4000000 in
theorem WB_Mo_out_25 {Y : CG} {X : CX} {r : TR} {l0 : Nat} {l1 : Int32} {l2 : Int32} {l3 : Int32} {l4 : Int32} {h : TH} {K25 : Int32 → TH → Prop} {K54 : TH → Prop} {Q : Int32 → TH → Prop} (C : Gd Y X cX8_out 6 RX8 8) (R : Ri Y r X .int Q) (t0 : TO Y l0 8) (hK25 : ∀ (k4 : Int32) (hh : TH), K25 k4 hh → G Y X 6 25 [(0, .ref l0), (1, .int l1), (2, .int l2), (3, .int l3), (4, .int k4)] [] r hh) (hK54 : ∀ (hh : TH), K54 hh → G Y X 6 54 [(0, .ref l0), (2, .int l2), (3, .int l3)] [] r hh) (hD : DB_Mo_out_25 r l0 l1 l2 l3 l4 h K25 K54 Q) : G Y X 6 25 [(0, .ref l0), (1, .int l1), (2, .int l2), (3, .int l3), (4, .int l4)] [] r h := by
  unfold DB_Mo_out_25 at hD
  refine g_wt (fun hw => ?_)
  refine g_iload (pc := 25) 4 rfl C dX8_out_25 ?_
  refine g_bipush (pc := 27) (v := 64) (by decide) C dX8_out_27 ?_
  refine g_icmp_ge (pc := 29) 54 C dX8_out_29 (by decide) (fun c9 => ?_) (fun c9 => ?_)
  · have hD := hD.1 c9
    refine g_sub [0, 2, 3] rfl ?_
    exact hK54 h hD
  · have hD := hD.2 c9
    refine g_iload (pc := 32) 4 rfl C dX8_out_32 ?_
    refine g_iload_n (pc := 34) rfl 3 rfl C dX8_out_34 ?_
    refine g_iconst (pc := 35) (v := (-1)) (by decide) C dX8_out_35 ?_
    refine g_ixor (pc := 36) C dX8_out_36 ?_
    refine g_iand (pc := 37) C dX8_out_37 ?_
    refine g_if_ne (pc := 38) 48 C dX8_out_38 (by decide) (fun c10 => ?_) (fun c10 => ?_)
    · have hD := hD.1 c10
      refine g_iinc (pc := 48) (q := 4) (c := 1) (fun x11 => [(4, .int x11), (0, .ref l0), (1, .int l1), (2, .int l2), (3, .int l3)]) C dX8_out_48 rfl (by decide) (by decide) rfl (fun x11 ex11 => ?_)
      have hD := hD x11 ex11
      refine g_goto (pc := 51) 25 C dX8_out_51 (by decide) ?_
      refine g_sub [1, 2, 3, 4, 0] rfl ?_
      exact hK25 x11 h hD
    · have hD := hD.2 c10
      refine g_aload_n (pc := 41) rfl 0 rfl C dX8_out_41 ?_
      refine g_iload (pc := 42) 4 rfl C dX8_out_42 ?_
      refine g_iload_n (pc := 44) rfl 1 rfl C dX8_out_44 ?_
      refine g_callVv (pc := 45) (As := [.int l4, .int l1]) C mv_RX8_449 (M_Mo_fillsEast t0 hD) t0 (by decide) rfl rfl (Nat.le_of_ble_eq_true rfl) dX8_out_45 (fun h12 hD => ?_)
      refine g_iinc (pc := 48) (q := 4) (c := 1) (fun x14 => [(4, .int x14), (0, .ref l0), (1, .int l1), (2, .int l2), (3, .int l3)]) C dX8_out_48 rfl (by decide) (by decide) rfl (fun x14 ex14 => ?_)
      have hD := hD x14 ex14
      refine g_goto (pc := 51) 25 C dX8_out_51 (by decide) ?_
      refine g_sub [1, 2, 3, 4, 0] rfl ?_
      exact hK25 x14 h12 hD
def DB_Mo_out_60 (r : TR) (l0 : Nat) (l2 : Int32) (l3 : Int32) (l4 : Int32) (l5 : Int32) (h : TH) (K60 : Int32 → Int32 → TH → Prop) (K107 : Int32 → TH → Prop) (Q : Int32 → TH → Prop) : Prop :=
  ((64 ≤ l5 → K107 l4 h) ∧ (¬ 64 ≤ l5 → ((¬ (l5 &&& (l3 ^^^ (-1))) = 0 → ∀ x22 : Int32, x22 = l5 + 1 → K60 l4 x22 h) ∧ ((l5 &&& (l3 ^^^ (-1))) = 0 → D_Mo_isResting r l0 l5 l3 h (fun x24 h23 => ((¬ x24 = 0 → ((¬ l4 = l2 → ∀ x27 : Int32, x27 = l4 + 1 → ∀ x28 : Int32, x28 = l5 + 1 → K60 x27 x28 h23) ∧ (l4 = l2 → Q l5 h23))) ∧ (x24 = 0 → ∀ x29 : Int32, x29 = l5 + 1 → K60 l4 x29 h23)))))))
set_option maxRecDepth 100000 in
set_option maxHeartbeats 4000000 in
theorem WB_Mo_out_60 {Y : CG} {X : CX} {r : TR} {l0 : Nat} {l2 : Int32} {l3 : Int32} {l4 : Int32} {l5 : Int32} {h : TH} {K60 : Int32 → Int32 → TH → Prop} {K107 : Int32 → TH → Prop} {Q : Int32 → TH → Prop} (C : Gd Y X cX8_out 6 RX8 8) (R : Ri Y r X .int Q) (t0 : TO Y l0 8) (hK60 : ∀ (k4 : Int32) (k5 : Int32) (hh : TH), K60 k4 k5 hh → G Y X 6 60 [(0, .ref l0), (2, .int l2), (3, .int l3), (4, .int k4), (5, .int k5)] [] r hh) (hK107 : ∀ (k4 : Int32) (hh : TH), K107 k4 hh → G Y X 6 107 [(2, .int l2), (4, .int k4)] [] r hh) (hD : DB_Mo_out_60 r l0 l2 l3 l4 l5 h K60 K107 Q) : G Y X 6 60 [(0, .ref l0), (2, .int l2), (3, .int l3), (4, .int l4), (5, .int l5)] [] r h := by
  unfold DB_Mo_out_60 at hD
  refine g_wt (fun hw => ?_)
  refine g_iload (pc := 60) 4 rfl C dX8_out_60 ?_
  refine g_bipush (pc := 62) (v := 64) (by decide) C dX8_out_62 ?_
  refine g_icmp_ge (pc := 64) 107 C dX8_out_64 (by decide) (fun c20 => ?_) (fun c20 => ?_)
  · have hD := hD.1 c20
    refine g_sub [1, 3] rfl ?_
    exact hK107 l4 h hD
  · have hD := hD.2 c20
    refine g_iload (pc := 67) 4 rfl C dX8_out_67 ?_
    refine g_iload_n (pc := 69) rfl 2 rfl C dX8_out_69 ?_
    refine g_iconst (pc := 70) (v := (-1)) (by decide) C dX8_out_70 ?_
    refine g_ixor (pc := 71) C dX8_out_71 ?_
    refine g_iand (pc := 72) C dX8_out_72 ?_
    refine g_if_ne (pc := 73) 101 C dX8_out_73 (by decide) (fun c21 => ?_) (fun c21 => ?_)
    · have hD := hD.1 c21
      refine g_iinc (pc := 101) (q := 4) (c := 1) (fun x22 => [(5, .int x22), (0, .ref l0), (2, .int l2), (3, .int l3), (4, .int l4)]) C dX8_out_101 rfl (by decide) (by decide) rfl (fun x22 ex22 => ?_)
      have hD := hD x22 ex22
      refine g_goto (pc := 104) 60 C dX8_out_104 (by decide) ?_
      refine g_sub [1, 2, 3, 4, 0] rfl ?_
      exact hK60 l4 x22 h hD
    · have hD := hD.2 c21
      refine g_aload_n (pc := 76) rfl 0 rfl C dX8_out_76 ?_
      refine g_iload (pc := 77) 4 rfl C dX8_out_77 ?_
      refine g_iload_n (pc := 79) rfl 2 rfl C dX8_out_79 ?_
      refine g_callVi (pc := 80) (As := [.int l5, .int l3]) C mv_RX8_452 (M_Mo_isResting t0 hD) t0 (by decide) rfl rfl (Nat.le_of_ble_eq_true rfl) dX8_out_80 (fun x24 h23 hD => ?_)
      refine g_if_ne (pc := 83) 89 C dX8_out_83 (by decide) (fun c25 => ?_) (fun c25 => ?_)
      · have hD := hD.1 c25
        refine g_iload (pc := 89) 3 rfl C dX8_out_89 ?_
        refine g_iload_n (pc := 91) rfl 1 rfl C dX8_out_91 ?_
        refine g_icmp_ne (pc := 92) 98 C dX8_out_92 (by decide) (fun c26 => ?_) (fun c26 => ?_)
        · have hD := hD.1 c26
          refine g_iinc (pc := 98) (q := 3) (c := 1) (fun x27 => [(4, .int x27), (0, .ref l0), (2, .int l2), (3, .int l3), (5, .int l5)]) C dX8_out_98 rfl (by decide) (by decide) rfl (fun x27 ex27 => ?_)
          have hD := hD x27 ex27
          refine g_iinc (pc := 101) (q := 4) (c := 1) (fun x28 => [(5, .int x28), (4, .int x27), (0, .ref l0), (2, .int l2), (3, .int l3)]) C dX8_out_101 rfl (by decide) (by decide) rfl (fun x28 ex28 => ?_)
          have hD := hD x28 ex28
          refine g_goto (pc := 104) 60 C dX8_out_104 (by decide) ?_
          refine g_sub [2, 3, 4, 1, 0] rfl ?_
          exact hK60 x27 x28 h23 hD
        · have hD := hD.2 c26
          refine g_iload (pc := 95) 4 rfl C dX8_out_95 ?_
          exact g_iret (pc := 97) C R dX8_out_97 hD
      · have hD := hD.2 c25
        refine g_goto (pc := 86) 101 C dX8_out_86 (by decide) ?_
        refine g_iinc (pc := 101) (q := 4) (c := 1) (fun x29 => [(5, .int x29), (0, .ref l0), (2, .int l2), (3, .int l3), (4, .int l4)]) C dX8_out_101 rfl (by decide) (by decide) rfl (fun x29 ex29 => ?_)
        have hD := hD x29 ex29
        refine g_goto (pc := 104) 60 C dX8_out_104 (by decide) ?_
        refine g_sub [1, 2, 3, 4, 0] rfl ?_
        exact hK60 l4 x29 h23 hD
def D_Mo_out (r : TR) (o : Nat) (a1 : Int32) (a2 : Int32) (h : TH) (Q : Int32 → TH → Prop) : Prop :=
  D_Mo_in r a1 1 24 h (fun x2 h1 => ((x2 = 0 → Q (-1) h1) ∧ (¬ x2 = 0 → (((-1) ≤ a2 → D_Mo_pansOn r o h1 (fun x6 h5 => ∃ n, lp (fun (K : Int32 × TH → Prop) (s : Int32 × TH) => DB_Mo_out_25 r o a1 a2 x6 s.1 s.2 (fun y15 h16 => K (y15, h16)) (fun h17 => ∃ n, lp (fun (K : Int32 × Int32 × TH → Prop) (s : Int32 × Int32 × TH) => DB_Mo_out_60 r o a2 x6 s.1 s.2.1 s.2.2 (fun y30 y31 h32 => K (y30, y31, h32)) (fun x33 h34 => ((¬ a2 = (-1) → Q (-1) h34) ∧ (a2 = (-1) → Q x33 h34))) Q) n (0, 0, h17)) Q) n (0, h5))) ∧ (¬ (-1) ≤ a2 → Q (-1) h1)))))
set_option maxRecDepth 100000 in
set_option maxHeartbeats 4000000 in
theorem M_Mo_out {Y : CG} {r : TR} {l : Launch} {o : Nat} {a1 : Int32} {a2 : Int32} {h : TH} {Q : Int32 → TH → Prop} (t0 : TO Y o 8) (hD : D_Mo_out r o a1 a2 h Q) : Mi Y r l yX8_out cX8_out 6 .int 8 [.ref o, .int a1, .int a2] h Q := by
  unfold D_Mo_out at hD
  refine Mi.of RX8 rfl (by decide) (by simp [lg_sl, Value.category]) [(0, .ref o), (1, .int a1), (2, .int a2)] rfl (fun X hXl C R => ?_)
  subst hXl
  refine g_wt (fun hw => ?_)
  refine g_iload_n (pc := 0) rfl 1 rfl C dX8_out_0 ?_
  refine g_iconst (pc := 1) (v := 1) (by decide) C dX8_out_1 ?_
  refine g_bipush (pc := 2) (v := 24) (by decide) C dX8_out_2 ?_
  refine g_callSi (pc := 4) (As := [.int a1, .int 1, .int 24]) C ms_RX8_303 (M_Mo_in  hD) (by decide) rfl rfl (Nat.le_of_ble_eq_true rfl) dX8_out_4 (fun x2 h1 hD => ?_)
  refine g_if_eq (pc := 7) 15 C dX8_out_7 (by decide) (fun c3 => ?_) (fun c3 => ?_)
  · have hD := hD.1 c3
    refine g_iconst (pc := 15) (v := (-1)) (by decide) C dX8_out_15 ?_
    exact g_iret (pc := 16) C R dX8_out_16 hD
  · have hD := hD.2 c3
    refine g_iload_n (pc := 10) rfl 2 rfl C dX8_out_10 ?_
    refine g_iconst (pc := 11) (v := (-1)) (by decide) C dX8_out_11 ?_
    refine g_icmp_ge (pc := 12) 17 C dX8_out_12 (by decide) (fun c4 => ?_) (fun c4 => ?_)
    · have hD := hD.1 c4
      refine g_aload_n (pc := 17) rfl 0 rfl C dX8_out_17 ?_
      refine g_callVi (pc := 18) (As := []) C mv_RX8_446 (M_Mo_pansOn t0 hD) t0 (by decide) rfl rfl (Nat.le_of_ble_eq_true rfl) dX8_out_18 (fun x6 h5 hD => ?_)
      refine g_istore_n (pc := 21) (fun _ => [(3, .int x6), (0, .ref o), (1, .int a1), (2, .int a2)]) C dX8_out_21 rfl (by decide) rfl (fun _ _ => ?_)
      refine g_iconst (pc := 22) (v := 0) (by decide) C dX8_out_22 ?_
      refine g_istore (pc := 23) (fun _ => [(4, .int 0), (3, .int x6), (0, .ref o), (1, .int a1), (2, .int a2)]) C dX8_out_23 (by decide) rfl (fun _ _ => ?_)
      obtain ⟨n, hD⟩ := hD
      refine g_sub [2, 3, 4, 1, 0] rfl ?_
      refine lp_run (fun s : Int32 × TH => G Y X 6 25 [(0, .ref o), (1, .int a1), (2, .int a2), (3, .int x6), (4, .int s.1)] [] r s.2) (fun K s hB hK => ?_) n (0, h5) hD
      refine WB_Mo_out_25 C R t0 (fun y15 h16 hk => hK _ hk) (fun h17 hD => ?_) hB
      · refine g_iconst (pc := 54) (v := 0) (by decide) C dX8_out_54 ?_
        refine g_istore (pc := 55) (fun _ => [(4, .int 0), (0, .ref o), (2, .int a2), (3, .int x6)]) C dX8_out_55 (by decide) rfl (fun _ _ => ?_)
        refine g_iconst (pc := 57) (v := 0) (by decide) C dX8_out_57 ?_
        refine g_istore (pc := 58) (fun _ => [(5, .int 0), (4, .int 0), (0, .ref o), (2, .int a2), (3, .int x6)]) C dX8_out_58 (by decide) rfl (fun _ _ => ?_)
        obtain ⟨n, hD⟩ := hD
        refine g_sub [2, 3, 4, 1, 0] rfl ?_
        refine lp_run (fun s : Int32 × Int32 × TH => G Y X 6 60 [(0, .ref o), (2, .int a2), (3, .int x6), (4, .int s.1), (5, .int s.2.1)] [] r s.2.2) (fun K s hB hK => ?_) n (0, 0, h17) hD
        refine WB_Mo_out_60 C R t0 (fun y30 y31 h32 hk => hK _ hk) (fun x33 h34 hD => ?_) hB
        · refine g_iload_n (pc := 107) rfl 0 rfl C dX8_out_107 ?_
          refine g_iconst (pc := 108) (v := (-1)) (by decide) C dX8_out_108 ?_
          refine g_icmp_ne (pc := 109) 117 C dX8_out_109 (by decide) (fun c35 => ?_) (fun c35 => ?_)
          · have hD := hD.1 c35
            refine g_iconst (pc := 117) (v := (-1)) (by decide) C dX8_out_117 ?_
            exact g_iret (pc := 118) C R dX8_out_118 hD
          · have hD := hD.2 c35
            refine g_iload (pc := 112) 1 rfl C dX8_out_112 ?_
            refine g_goto (pc := 114) 118 C dX8_out_114 (by decide) ?_
            exact g_iret (pc := 118) C R dX8_out_118 hD
    · have hD := hD.2 c4
      refine g_iconst (pc := 15) (v := (-1)) (by decide) C dX8_out_15 ?_
      exact g_iret (pc := 16) C R dX8_out_16 hD
def DJ_Mo_pan_26 (r : TR) (l0 : Nat) (l1 : Int32) (l2 : Int32) (s0 : Int32) (h : TH) (Q : Int32 → TH → Prop) : Prop :=
  ((¬ s0 = l2 → D_Mo_copies r l0 h (fun h8 => ((l2 = 0 → vp_in (24 + l1) 512 ∧ ∀ h12, h12 = pI h8 (r l0 49) ((24 + l1).toNatClampNeg) 0 → D_Mo_keeps r l0 h12 (fun h13 => Q 1 h13)) ∧ (¬ l2 = 0 → vp_in (24 + l1) 512 ∧ ∀ h15, h15 = pI h8 (r l0 49) ((24 + l1).toNatClampNeg) 1 → D_Mo_keeps r l0 h15 (fun h16 => Q 1 h16))))) ∧ (s0 = l2 → Q 0 h))
set_option maxRecDepth 100000 in
set_option maxHeartbeats 4000000 in
theorem WJ_Mo_pan_26 {Y : CG} {X : CX} {r : TR} {l0 : Nat} {l1 : Int32} {l2 : Int32} {s0 : Int32} {h : TH} {Q : Int32 → TH → Prop} (C : Gd Y X cX8_pan 3 RX8 3) (R : Ri Y r X .boolean Q) (t0 : TO Y l0 8) (hD : DJ_Mo_pan_26 r l0 l1 l2 s0 h  Q) : G Y X 3 26 [(0, .ref l0), (1, .int l1), (2, .int l2)] [.int s0] r h := by
  unfold DJ_Mo_pan_26 at hD
  refine g_wt (fun hw => ?_)
  refine g_iload_n (pc := 26) rfl 2 rfl C dX8_pan_26 ?_
  refine g_icmp_ne (pc := 27) 32 C dX8_pan_27 (by decide) (fun c7 => ?_) (fun c7 => ?_)
  · have hD := hD.1 c7
    refine g_aload_n (pc := 32) rfl 0 rfl C dX8_pan_32 ?_
    refine g_callVv (pc := 33) (As := []) C mv_RX8_397 (M_Mo_copies t0 hD) t0 (by decide) rfl rfl (Nat.le_of_ble_eq_true rfl) dX8_pan_33 (fun h8 hD => ?_)
    refine g_aload_n (pc := 36) rfl 0 rfl C dX8_pan_36 ?_
    have u10 : TA Y (r l0 49) 10 512 := wt_a hw t0 (by decide) (by decide) rfl
    refine g_getR (pc := 37) C fl_RX8_113 t0 rfl dX8_pan_37 ?_
    refine g_bipush (pc := 40) (v := 24) (by decide) C dX8_pan_40 ?_
    refine g_iload_n (pc := 42) rfl 1 rfl C dX8_pan_42 ?_
    refine g_iadd (pc := 43) C dX8_pan_43 ?_
    refine g_iload_n (pc := 44) rfl 2 rfl C dX8_pan_44 ?_
    refine g_if_eq (pc := 45) 52 C dX8_pan_45 (by decide) (fun c11 => ?_) (fun c11 => ?_)
    · have hD := hD.1 c11
      refine g_iconst (pc := 52) (v := 0) (by decide) C dX8_pan_52 ?_
      obtain ⟨hb, hD⟩ := hD
      refine g_iast (pc := 53) C u10 hb dX8_pan_53 (fun h12 eh12 => ?_)
      have hD := hD h12 eh12
      refine g_aload_n (pc := 54) rfl 0 rfl C dX8_pan_54 ?_
      refine g_callVv (pc := 55) (As := []) C mv_RX8_406 (M_Mo_keeps t0 hD) t0 (by decide) rfl rfl (Nat.le_of_ble_eq_true rfl) dX8_pan_55 (fun h13 hD => ?_)
      refine g_iconst (pc := 58) (v := 1) (by decide) C dX8_pan_58 ?_
      exact g_zret (pc := 59) C R nz_1 dX8_pan_59 hD
    · have hD := hD.2 c11
      refine g_iconst (pc := 48) (v := 1) (by decide) C dX8_pan_48 ?_
      refine g_goto (pc := 49) 53 C dX8_pan_49 (by decide) ?_
      obtain ⟨hb, hD⟩ := hD
      refine g_iast (pc := 53) C u10 hb dX8_pan_53 (fun h15 eh15 => ?_)
      have hD := hD h15 eh15
      refine g_aload_n (pc := 54) rfl 0 rfl C dX8_pan_54 ?_
      refine g_callVv (pc := 55) (As := []) C mv_RX8_406 (M_Mo_keeps t0 hD) t0 (by decide) rfl rfl (Nat.le_of_ble_eq_true rfl) dX8_pan_55 (fun h16 hD => ?_)
      refine g_iconst (pc := 58) (v := 1) (by decide) C dX8_pan_58 ?_
      exact g_zret (pc := 59) C R nz_1 dX8_pan_59 hD
  · have hD := hD.2 c7
    refine g_iconst (pc := 30) (v := 0) (by decide) C dX8_pan_30 ?_
    exact g_zret (pc := 31) C R nz_0 dX8_pan_31 hD
def D_Mo_pan (r : TR) (o : Nat) (a1 : Int32) (a2 : Int32) (h : TH) (Q : Int32 → TH → Prop) : Prop :=
  D_Mo_isBoat r o a1 h (fun x2 h1 => ((x2 = 0 → Q 0 h1) ∧ (¬ x2 = 0 → ∀ i5 : Int32, i5 = 24 + a1 → vp_in i5 512 ∧ ((¬ (h1.1 (r o 48) i5.toNatClampNeg) = 1 → DJ_Mo_pan_26 r o a1 a2 0 h1 Q) ∧ ((h1.1 (r o 48) i5.toNatClampNeg) = 1 → DJ_Mo_pan_26 r o a1 a2 1 h1 Q)))))
set_option maxRecDepth 100000 in
set_option maxHeartbeats 4000000 in
theorem M_Mo_pan {Y : CG} {r : TR} {l : Launch} {o : Nat} {a1 : Int32} {a2 : Int32} {h : TH} {Q : Int32 → TH → Prop} (t0 : TO Y o 8) (hD : D_Mo_pan r o a1 a2 h Q) : Mi Y r l yX8_pan cX8_pan 3 .boolean 3 [.ref o, .int a1, .int a2] h Q := by
  unfold D_Mo_pan at hD
  refine Mi.of RX8 rfl (by decide) (by simp [lg_sl, Value.category]) [(0, .ref o), (1, .int a1), (2, .int a2)] rfl (fun X hXl C R => ?_)
  subst hXl
  refine g_wt (fun hw => ?_)
  refine g_aload_n (pc := 0) rfl 0 rfl C dX8_pan_0 ?_
  refine g_iload_n (pc := 1) rfl 1 rfl C dX8_pan_1 ?_
  refine g_callVi (pc := 2) (As := [.int a1]) C mv_RX8_394 (M_Mo_isBoat t0 hD) t0 (by decide) rfl rfl (Nat.le_of_ble_eq_true rfl) dX8_pan_2 (fun x2 h1 hD => ?_)
  refine g_if_eq (pc := 5) 30 C dX8_pan_5 (by decide) (fun c3 => ?_) (fun c3 => ?_)
  · have hD := hD.1 c3
    refine g_iconst (pc := 30) (v := 0) (by decide) C dX8_pan_30 ?_
    exact g_zret (pc := 31) C R nz_0 dX8_pan_31 hD
  · have hD := hD.2 c3
    refine g_aload_n (pc := 8) rfl 0 rfl C dX8_pan_8 ?_
    have u4 : TA Y (r o 48) 10 512 := wt_a hw t0 (by decide) (by decide) rfl
    refine g_getR (pc := 9) C fl_RX8_110 t0 rfl dX8_pan_9 ?_
    refine g_bipush (pc := 12) (v := 24) (by decide) C dX8_pan_12 ?_
    refine g_iload_n (pc := 14) rfl 1 rfl C dX8_pan_14 ?_
    refine g_iadd (pc := 15) C dX8_pan_15 ?_
    refine g_topi (fun i5 ei5 => ?_)
    have hD := hD i5 ei5
    obtain ⟨hb, hD⟩ := hD
    refine g_iald (pc := 16) C u4 hb dX8_pan_16 ?_
    refine g_iconst (pc := 17) (v := 1) (by decide) C dX8_pan_17 ?_
    refine g_icmp_ne (pc := 18) 25 C dX8_pan_18 (by decide) (fun c6 => ?_) (fun c6 => ?_)
    · have hD := hD.1 c6
      refine g_iconst (pc := 25) (v := 0) (by decide) C dX8_pan_25 ?_
      refine g_sub [0, 1, 2] rfl ?_
      exact WJ_Mo_pan_26 C R t0 hD
    · have hD := hD.2 c6
      refine g_iconst (pc := 21) (v := 1) (by decide) C dX8_pan_21 ?_
      refine g_goto (pc := 22) 26 C dX8_pan_22 (by decide) ?_
      refine g_sub [0, 1, 2] rfl ?_
      exact WJ_Mo_pan_26 C R t0 hD
def D_Mo_place (r : TR) (o : Nat) (h : TH) (Q : Int32 → TH → Prop) : Prop :=
  Q (h.1 o 17) h
set_option maxRecDepth 100000 in
set_option maxHeartbeats 4000000 in
theorem M_Mo_place {Y : CG} {r : TR} {l : Launch} {o : Nat} {h : TH} {Q : Int32 → TH → Prop} (t0 : TO Y o 8) (hD : D_Mo_place r o h Q) : Mi Y r l yX8_place cX8_place 1 .int 1 [.ref o] h Q := by
  unfold D_Mo_place at hD
  refine Mi.of RX8 rfl (by decide) (by simp [lg_sl, Value.category]) [(0, .ref o)] rfl (fun X hXl C R => ?_)
  subst hXl
  refine g_wt (fun hw => ?_)
  refine g_aload_n (pc := 0) rfl 0 rfl C dX8_place_0 ?_
  refine g_getI (pc := 1) C fl_RX8_37 t0 rfl dX8_place_1 ?_
  exact g_iret (pc := 4) C R dX8_place_4 hD
def D_Mo_ranked (r : TR) (o : Nat) (a1 : Int32) (h : TH) (Q : Int32 → TH → Prop) : Prop :=
  D_Mo_isBoat r o a1 h (fun x2 h1 => ((¬ x2 = 0 → D_Mo_copies r o h1 (fun h4 => D_Mo_rankedNow r o a1 h4 (fun x7 h6 => Q x7 h6))) ∧ (x2 = 0 → Q (-1) h1)))
set_option maxRecDepth 100000 in
set_option maxHeartbeats 4000000 in
theorem M_Mo_ranked {Y : CG} {r : TR} {l : Launch} {o : Nat} {a1 : Int32} {h : TH} {Q : Int32 → TH → Prop} (t0 : TO Y o 8) (hD : D_Mo_ranked r o a1 h Q) : Mi Y r l yX8_ranked cX8_ranked 2 .int 5 [.ref o, .int a1] h Q := by
  unfold D_Mo_ranked at hD
  refine Mi.of RX8 rfl (by decide) (by simp [lg_sl, Value.category]) [(0, .ref o), (1, .int a1)] rfl (fun X hXl C R => ?_)
  subst hXl
  refine g_wt (fun hw => ?_)
  refine g_aload_n (pc := 0) rfl 0 rfl C dX8_ranked_0 ?_
  refine g_iload_n (pc := 1) rfl 1 rfl C dX8_ranked_1 ?_
  refine g_callVi (pc := 2) (As := [.int a1]) C mv_RX8_394 (M_Mo_isBoat t0 hD) t0 (by decide) rfl rfl (Nat.le_of_ble_eq_true rfl) dX8_ranked_2 (fun x2 h1 hD => ?_)
  refine g_if_ne (pc := 5) 10 C dX8_ranked_5 (by decide) (fun c3 => ?_) (fun c3 => ?_)
  · have hD := hD.1 c3
    refine g_aload_n (pc := 10) rfl 0 rfl C dX8_ranked_10 ?_
    refine g_callVv (pc := 11) (As := []) C mv_RX8_397 (M_Mo_copies t0 hD) t0 (by decide) rfl rfl (Nat.le_of_ble_eq_true rfl) dX8_ranked_11 (fun h4 hD => ?_)
    refine g_aload_n (pc := 14) rfl 0 rfl C dX8_ranked_14 ?_
    refine g_iload_n (pc := 15) rfl 1 rfl C dX8_ranked_15 ?_
    refine g_callVi (pc := 16) (As := [.int a1]) C mv_RX8_416 (M_Mo_rankedNow t0 hD) t0 (by decide) rfl rfl (Nat.le_of_ble_eq_true rfl) dX8_ranked_16 (fun x7 h6 hD => ?_)
    exact g_iret (pc := 19) C R dX8_ranked_19 hD
  · have hD := hD.2 c3
    refine g_iconst (pc := 8) (v := (-1)) (by decide) C dX8_ranked_8 ?_
    exact g_iret (pc := 9) C R dX8_ranked_9 hD
def DB_Mo_tellBoat_34 (r : TR) (l0 : Nat) (l1 : Int32) (l2 : Int32) (l3 : Int32) (h : TH) (K34 : Int32 → TH → Prop) (K77 : TH → Prop) (Q : TH → Prop) : Prop :=
  (((h.1 l0 20) ≤ l3 → K77 h) ∧ (¬ (h.1 l0 20) ≤ l3 → ((¬ (h.1 l0 13) = 0 → K77 h) ∧ ((h.1 l0 13) = 0 → vp_in l3 6 ∧ vp_in l2 403 ∧ ((¬ (lg_cmp (h.2 (r l0 21) l3.toNatClampNeg) (h.2 (r l0 8) l2.toNatClampNeg)) = 0 → ∀ x15 : Int32, x15 = l3 + 1 → K34 x15 h) ∧ ((lg_cmp (h.2 (r l0 21) l3.toNatClampNeg) (h.2 (r l0 8) l2.toNatClampNeg)) = 0 → D_Mo_wrong r l0 3 l2 h (fun h16 => ∀ x18 : Int32, x18 = l3 + 1 → K34 x18 h16)))))))
set_option maxRecDepth 100000 in
set_option maxHeartbeats 4000000 in
theorem WB_Mo_tellBoat_34 {Y : CG} {X : CX} {r : TR} {l0 : Nat} {l1 : Int32} {l2 : Int32} {l3 : Int32} {h : TH} {K34 : Int32 → TH → Prop} {K77 : TH → Prop} {Q : TH → Prop} (C : Gd Y X cX8_tellBoat 4 RX8 4) (R : Rv Y r X Q) (t0 : TO Y l0 8) (hK34 : ∀ (k3 : Int32) (hh : TH), K34 k3 hh → G Y X 4 34 [(0, .ref l0), (1, .int l1), (2, .int l2), (3, .int k3)] [] r hh) (hK77 : ∀ (hh : TH), K77 hh → G Y X 4 77 [(0, .ref l0), (1, .int l1), (2, .int l2)] [] r hh) (hD : DB_Mo_tellBoat_34 r l0 l1 l2 l3 h K34 K77 Q) : G Y X 4 34 [(0, .ref l0), (1, .int l1), (2, .int l2), (3, .int l3)] [] r h := by
  unfold DB_Mo_tellBoat_34 at hD
  refine g_wt (fun hw => ?_)
  refine g_iload_n (pc := 34) rfl 3 rfl C dX8_tellBoat_34 ?_
  refine g_aload_n (pc := 35) rfl 0 rfl C dX8_tellBoat_35 ?_
  refine g_getI (pc := 36) C fl_RX8_236 t0 rfl dX8_tellBoat_36 ?_
  refine g_icmp_ge (pc := 39) 77 C dX8_tellBoat_39 (by decide) (fun c10 => ?_) (fun c10 => ?_)
  · have hD := hD.1 c10
    refine g_sub [0, 1, 2] rfl ?_
    exact hK77 h hD
  · have hD := hD.2 c10
    refine g_aload_n (pc := 42) rfl 0 rfl C dX8_tellBoat_42 ?_
    refine g_getI (pc := 43) C fl_RX8_200 t0 rfl dX8_tellBoat_43 ?_
    refine g_if_ne (pc := 46) 77 C dX8_tellBoat_46 (by decide) (fun c11 => ?_) (fun c11 => ?_)
    · have hD := hD.1 c11
      refine g_sub [0, 1, 2] rfl ?_
      exact hK77 h hD
    · have hD := hD.2 c11
      refine g_aload_n (pc := 49) rfl 0 rfl C dX8_tellBoat_49 ?_
      have u12 : TA Y (r l0 21) 11 6 := wt_a hw t0 (by decide) (by decide) rfl
      refine g_getR (pc := 50) C fl_RX8_40 t0 rfl dX8_tellBoat_50 ?_
      refine g_iload_n (pc := 53) rfl 3 rfl C dX8_tellBoat_53 ?_
      obtain ⟨hb, hD⟩ := hD
      refine g_lald (pc := 54) C u12 hb dX8_tellBoat_54 ?_
      refine g_aload_n (pc := 55) rfl 0 rfl C dX8_tellBoat_55 ?_
      have u13 : TA Y (r l0 8) 11 403 := wt_a hw t0 (by decide) (by decide) rfl
      refine g_getR (pc := 56) C fl_RX8_30 t0 rfl dX8_tellBoat_56 ?_
      refine g_iload_n (pc := 59) rfl 2 rfl C dX8_tellBoat_59 ?_
      obtain ⟨hb, hD⟩ := hD
      refine g_lald (pc := 60) C u13 hb dX8_tellBoat_60 ?_
      refine g_lcmp (pc := 61) C dX8_tellBoat_61 ?_
      refine g_if_ne (pc := 62) 71 C dX8_tellBoat_62 (by decide) (fun c14 => ?_) (fun c14 => ?_)
      · have hD := hD.1 c14
        refine g_iinc (pc := 71) (q := 3) (c := 1) (fun x15 => [(3, .int x15), (0, .ref l0), (1, .int l1), (2, .int l2)]) C dX8_tellBoat_71 rfl (by decide) (by decide) rfl (fun x15 ex15 => ?_)
        have hD := hD x15 ex15
        refine g_goto (pc := 74) 34 C dX8_tellBoat_74 (by decide) ?_
        refine g_sub [1, 2, 3, 0] rfl ?_
        exact hK34 x15 h hD
      · have hD := hD.2 c14
        refine g_aload_n (pc := 65) rfl 0 rfl C dX8_tellBoat_65 ?_
        refine g_iconst (pc := 66) (v := 3) (by decide) C dX8_tellBoat_66 ?_
        refine g_iload_n (pc := 67) rfl 2 rfl C dX8_tellBoat_67 ?_
        refine g_callVv (pc := 68) (As := [.int 3, .int l2]) C mv_RX8_251 (M_Mo_wrong t0 hD) t0 (by decide) rfl rfl (Nat.le_of_ble_eq_true rfl) dX8_tellBoat_68 (fun h16 hD => ?_)
        refine g_iinc (pc := 71) (q := 3) (c := 1) (fun x18 => [(3, .int x18), (0, .ref l0), (1, .int l1), (2, .int l2)]) C dX8_tellBoat_71 rfl (by decide) (by decide) rfl (fun x18 ex18 => ?_)
        have hD := hD x18 ex18
        refine g_goto (pc := 74) 34 C dX8_tellBoat_74 (by decide) ?_
        refine g_sub [1, 2, 3, 0] rfl ?_
        exact hK34 x18 h16 hD
def DJ_Mo_tellBoat_77 (r : TR) (l0 : Nat) (l1 : Int32) (l2 : Int32) (h : TH) (Q : TH → Prop) : Prop :=
  D_Mo_bounded r l0 0 9 h (fun x24 h23 => vp_in l1 12 ∧ ∀ h25, h25 = pI h23 (r l0 26) l1.toNatClampNeg x24 → D_Mo_bounded r l0 0 9 h25 (fun x28 h27 => vp_in l1 12 ∧ ∀ h29, h29 = pI h27 (r l0 27) l1.toNatClampNeg x28 → D_Mo_bounded r l0 0 9 h29 (fun x32 h31 => vp_in l1 12 ∧ ∀ h33, h33 = pI h31 (r l0 28) l1.toNatClampNeg x32 → D_Mo_bounded r l0 0 9 h33 (fun x36 h35 => vp_in l1 12 ∧ ∀ h37, h37 = pI h35 (r l0 29) l1.toNatClampNeg x36 → D_Mo_must r l0 4 h37 (fun h38 => (((h38.1 l0 13) ≤ 0 → vp_in l2 403 ∧ vp_in (h38.1 l0 20) 6 ∧ ∀ h43, h43 = pL h38 (r l0 21) ((h38.1 l0 20).toNatClampNeg) (h38.2 (r l0 8) l2.toNatClampNeg) → ∀ h44, h44 = pI h43 l0 20 ((h43.1 l0 20) + 1) → ∀ i46 : Int32, i46 = h44.1 l0 19 → vp_in i46 2 ∧ vp_in (h44.1 l0 19) 2 ∧ ∀ h47, h47 = pI h44 (r l0 25) ((h44.1 l0 19).toNatClampNeg) ((h44.1 (r l0 25) i46.toNatClampNeg) + 1) → Q h47) ∧ (¬ (h38.1 l0 13) ≤ 0 → Q h38)))))))
set_option maxRecDepth 100000 in
set_option maxHeartbeats 4000000 in
theorem WJ_Mo_tellBoat_77 {Y : CG} {X : CX} {r : TR} {l0 : Nat} {l1 : Int32} {l2 : Int32} {h : TH} {Q : TH → Prop} (C : Gd Y X cX8_tellBoat 4 RX8 4) (R : Rv Y r X Q) (t0 : TO Y l0 8) (hD : DJ_Mo_tellBoat_77 r l0 l1 l2 h  Q) : G Y X 4 77 [(0, .ref l0), (1, .int l1), (2, .int l2)] [] r h := by
  unfold DJ_Mo_tellBoat_77 at hD
  refine g_wt (fun hw => ?_)
  refine g_aload_n (pc := 77) rfl 0 rfl C dX8_tellBoat_77 ?_
  have u22 : TA Y (r l0 26) 10 12 := wt_a hw t0 (by decide) (by decide) rfl
  refine g_getR (pc := 78) C fl_RX8_55 t0 rfl dX8_tellBoat_78 ?_
  refine g_iload_n (pc := 81) rfl 1 rfl C dX8_tellBoat_81 ?_
  refine g_aload_n (pc := 82) rfl 0 rfl C dX8_tellBoat_82 ?_
  refine g_iconst (pc := 83) (v := 0) (by decide) C dX8_tellBoat_83 ?_
  refine g_bipush (pc := 84) (v := 9) (by decide) C dX8_tellBoat_84 ?_
  refine g_callVi (pc := 86) (As := [.int 0, .int 9]) C mv_RX8_267 (M_Mo_bounded t0 hD) t0 (by decide) rfl rfl (Nat.le_of_ble_eq_true rfl) dX8_tellBoat_86 (fun x24 h23 hD => ?_)
  obtain ⟨hb, hD⟩ := hD
  refine g_iast (pc := 89) C u22 hb dX8_tellBoat_89 (fun h25 eh25 => ?_)
  have hD := hD h25 eh25
  refine g_aload_n (pc := 90) rfl 0 rfl C dX8_tellBoat_90 ?_
  have u26 : TA Y (r l0 27) 10 12 := wt_a hw t0 (by decide) (by decide) rfl
  refine g_getR (pc := 91) C fl_RX8_58 t0 rfl dX8_tellBoat_91 ?_
  refine g_iload_n (pc := 94) rfl 1 rfl C dX8_tellBoat_94 ?_
  refine g_aload_n (pc := 95) rfl 0 rfl C dX8_tellBoat_95 ?_
  refine g_iconst (pc := 96) (v := 0) (by decide) C dX8_tellBoat_96 ?_
  refine g_bipush (pc := 97) (v := 9) (by decide) C dX8_tellBoat_97 ?_
  refine g_callVi (pc := 99) (As := [.int 0, .int 9]) C mv_RX8_267 (M_Mo_bounded t0 hD) t0 (by decide) rfl rfl (Nat.le_of_ble_eq_true rfl) dX8_tellBoat_99 (fun x28 h27 hD => ?_)
  obtain ⟨hb, hD⟩ := hD
  refine g_iast (pc := 102) C u26 hb dX8_tellBoat_102 (fun h29 eh29 => ?_)
  have hD := hD h29 eh29
  refine g_aload_n (pc := 103) rfl 0 rfl C dX8_tellBoat_103 ?_
  have u30 : TA Y (r l0 28) 10 12 := wt_a hw t0 (by decide) (by decide) rfl
  refine g_getR (pc := 104) C fl_RX8_61 t0 rfl dX8_tellBoat_104 ?_
  refine g_iload_n (pc := 107) rfl 1 rfl C dX8_tellBoat_107 ?_
  refine g_aload_n (pc := 108) rfl 0 rfl C dX8_tellBoat_108 ?_
  refine g_iconst (pc := 109) (v := 0) (by decide) C dX8_tellBoat_109 ?_
  refine g_bipush (pc := 110) (v := 9) (by decide) C dX8_tellBoat_110 ?_
  refine g_callVi (pc := 112) (As := [.int 0, .int 9]) C mv_RX8_267 (M_Mo_bounded t0 hD) t0 (by decide) rfl rfl (Nat.le_of_ble_eq_true rfl) dX8_tellBoat_112 (fun x32 h31 hD => ?_)
  obtain ⟨hb, hD⟩ := hD
  refine g_iast (pc := 115) C u30 hb dX8_tellBoat_115 (fun h33 eh33 => ?_)
  have hD := hD h33 eh33
  refine g_aload_n (pc := 116) rfl 0 rfl C dX8_tellBoat_116 ?_
  have u34 : TA Y (r l0 29) 10 12 := wt_a hw t0 (by decide) (by decide) rfl
  refine g_getR (pc := 117) C fl_RX8_64 t0 rfl dX8_tellBoat_117 ?_
  refine g_iload_n (pc := 120) rfl 1 rfl C dX8_tellBoat_120 ?_
  refine g_aload_n (pc := 121) rfl 0 rfl C dX8_tellBoat_121 ?_
  refine g_iconst (pc := 122) (v := 0) (by decide) C dX8_tellBoat_122 ?_
  refine g_bipush (pc := 123) (v := 9) (by decide) C dX8_tellBoat_123 ?_
  refine g_callVi (pc := 125) (As := [.int 0, .int 9]) C mv_RX8_267 (M_Mo_bounded t0 hD) t0 (by decide) rfl rfl (Nat.le_of_ble_eq_true rfl) dX8_tellBoat_125 (fun x36 h35 hD => ?_)
  obtain ⟨hb, hD⟩ := hD
  refine g_iast (pc := 128) C u34 hb dX8_tellBoat_128 (fun h37 eh37 => ?_)
  have hD := hD h37 eh37
  refine g_aload_n (pc := 129) rfl 0 rfl C dX8_tellBoat_129 ?_
  refine g_iconst (pc := 130) (v := 4) (by decide) C dX8_tellBoat_130 ?_
  refine g_callVv (pc := 131) (As := [.int 4]) C mv_RX8_271 (M_Mo_must t0 hD) t0 (by decide) rfl rfl (Nat.le_of_ble_eq_true rfl) dX8_tellBoat_131 (fun h38 hD => ?_)
  refine g_aload_n (pc := 134) rfl 0 rfl C dX8_tellBoat_134 ?_
  refine g_getI (pc := 135) C fl_RX8_200 t0 rfl dX8_tellBoat_135 ?_
  refine g_if_le (pc := 138) 142 C dX8_tellBoat_138 (by decide) (fun c40 => ?_) (fun c40 => ?_)
  · have hD := hD.1 c40
    refine g_aload_n (pc := 142) rfl 0 rfl C dX8_tellBoat_142 ?_
    have u41 : TA Y (r l0 21) 11 6 := wt_a hw t0 (by decide) (by decide) rfl
    refine g_getR (pc := 143) C fl_RX8_40 t0 rfl dX8_tellBoat_143 ?_
    refine g_aload_n (pc := 146) rfl 0 rfl C dX8_tellBoat_146 ?_
    refine g_getI (pc := 147) C fl_RX8_236 t0 rfl dX8_tellBoat_147 ?_
    refine g_aload_n (pc := 150) rfl 0 rfl C dX8_tellBoat_150 ?_
    have u42 : TA Y (r l0 8) 11 403 := wt_a hw t0 (by decide) (by decide) rfl
    refine g_getR (pc := 151) C fl_RX8_30 t0 rfl dX8_tellBoat_151 ?_
    refine g_iload_n (pc := 154) rfl 2 rfl C dX8_tellBoat_154 ?_
    obtain ⟨hb, hD⟩ := hD
    refine g_lald (pc := 155) C u42 hb dX8_tellBoat_155 ?_
    obtain ⟨hb, hD⟩ := hD
    refine g_last (pc := 156) C u41 hb dX8_tellBoat_156 (fun h43 eh43 => ?_)
    have hD := hD h43 eh43
    refine g_aload_n (pc := 157) rfl 0 rfl C dX8_tellBoat_157 ?_
    refine g_dup (pc := 158) rfl C dX8_tellBoat_158 ?_
    refine g_getI (pc := 159) C fl_RX8_236 t0 rfl dX8_tellBoat_159 ?_
    refine g_iconst (pc := 162) (v := 1) (by decide) C dX8_tellBoat_162 ?_
    refine g_iadd (pc := 163) C dX8_tellBoat_163 ?_
    refine g_putI (pc := 164) C fl_RX8_236 t0 rfl rfl rfl dX8_tellBoat_164 (fun h44 eh44 => ?_)
    have hD := hD h44 eh44
    refine g_aload_n (pc := 167) rfl 0 rfl C dX8_tellBoat_167 ?_
    have u45 : TA Y (r l0 25) 10 2 := wt_a hw t0 (by decide) (by decide) rfl
    refine g_getR (pc := 168) C fl_RX8_52 t0 rfl dX8_tellBoat_168 ?_
    refine g_aload_n (pc := 171) rfl 0 rfl C dX8_tellBoat_171 ?_
    refine g_getI (pc := 172) C fl_RX8_233 t0 rfl dX8_tellBoat_172 ?_
    refine g_dup2 (pc := 175) rfl rfl C dX8_tellBoat_175 ?_
    refine g_topi (fun i46 ei46 => ?_)
    have hD := hD i46 ei46
    obtain ⟨hb, hD⟩ := hD
    refine g_iald (pc := 176) C u45 hb dX8_tellBoat_176 ?_
    refine g_iconst (pc := 177) (v := 1) (by decide) C dX8_tellBoat_177 ?_
    refine g_iadd (pc := 178) C dX8_tellBoat_178 ?_
    obtain ⟨hb, hD⟩ := hD
    refine g_iast (pc := 179) C u45 hb dX8_tellBoat_179 (fun h47 eh47 => ?_)
    have hD := hD h47 eh47
    exact g_vret (pc := 180) C R dX8_tellBoat_180 hD
  · have hD := hD.2 c40
    exact g_vret (pc := 141) C R dX8_tellBoat_141 hD
def D_Mo_tellBoat (r : TR) (o : Nat) (h : TH) (Q : TH → Prop) : Prop :=
  D_Mo_goesOn r o h (fun h1 => ∀ i4 : Int32, i4 = h1.1 o 19 → vp_in i4 2 ∧ ∀ x5 : Int32, x5 = (6 * (h1.1 o 19)) + (h1.1 (r o 25) i4.toNatClampNeg) → ∀ x6 : Int32, x6 = h1.1 o 11 → D_Mo_must r o 1 h1 (fun h7 => ∃ n, lp (fun (K : Int32 × TH → Prop) (s : Int32 × TH) => DB_Mo_tellBoat_34 r o x5 x6 s.1 s.2 (fun y19 h20 => K (y19, h20)) (fun h21 => DJ_Mo_tellBoat_77 r o x5 x6 h21 Q) Q) n (0, h7)))
set_option maxRecDepth 100000 in
set_option maxHeartbeats 4000000 in
theorem M_Mo_tellBoat {Y : CG} {r : TR} {l : Launch} {o : Nat} {h : TH} {Q : TH → Prop} (t0 : TO Y o 8) (hD : D_Mo_tellBoat r o h Q) : Mv Y r l yX8_tellBoat cX8_tellBoat 4 4 [.ref o] h Q := by
  unfold D_Mo_tellBoat at hD
  refine Mv.of RX8 rfl (by decide) (by simp [lg_sl, Value.category]) [(0, .ref o)] rfl (fun X hXl C R => ?_)
  subst hXl
  refine g_wt (fun hw => ?_)
  refine g_aload_n (pc := 0) rfl 0 rfl C dX8_tellBoat_0 ?_
  refine g_callVv (pc := 1) (As := []) C mv_RX8_221 (M_Mo_goesOn t0 hD) t0 (by decide) rfl rfl (Nat.le_of_ble_eq_true rfl) dX8_tellBoat_1 (fun h1 hD => ?_)
  refine g_bipush (pc := 4) (v := 6) (by decide) C dX8_tellBoat_4 ?_
  refine g_aload_n (pc := 6) rfl 0 rfl C dX8_tellBoat_6 ?_
  refine g_getI (pc := 7) C fl_RX8_233 t0 rfl dX8_tellBoat_7 ?_
  refine g_imul (pc := 10) C dX8_tellBoat_10 ?_
  refine g_aload_n (pc := 11) rfl 0 rfl C dX8_tellBoat_11 ?_
  have u3 : TA Y (r o 25) 10 2 := wt_a hw t0 (by decide) (by decide) rfl
  refine g_getR (pc := 12) C fl_RX8_52 t0 rfl dX8_tellBoat_12 ?_
  refine g_aload_n (pc := 15) rfl 0 rfl C dX8_tellBoat_15 ?_
  refine g_getI (pc := 16) C fl_RX8_233 t0 rfl dX8_tellBoat_16 ?_
  refine g_topi (fun i4 ei4 => ?_)
  have hD := hD i4 ei4
  obtain ⟨hb, hD⟩ := hD
  refine g_iald (pc := 19) C u3 hb dX8_tellBoat_19 ?_
  refine g_iadd (pc := 20) C dX8_tellBoat_20 ?_
  refine g_istore_n (pc := 21) (fun x5 => [(1, .int x5), (0, .ref o)]) C dX8_tellBoat_21 rfl (by decide) rfl (fun x5 ex5 => ?_)
  have hD := hD x5 ex5
  refine g_aload_n (pc := 22) rfl 1 rfl C dX8_tellBoat_22 ?_
  refine g_getI (pc := 23) C fl_RX8_203 t0 rfl dX8_tellBoat_23 ?_
  refine g_istore_n (pc := 26) (fun x6 => [(2, .int x6), (1, .int x5), (0, .ref o)]) C dX8_tellBoat_26 rfl (by decide) rfl (fun x6 ex6 => ?_)
  have hD := hD x6 ex6
  refine g_aload_n (pc := 27) rfl 2 rfl C dX8_tellBoat_27 ?_
  refine g_iconst (pc := 28) (v := 1) (by decide) C dX8_tellBoat_28 ?_
  refine g_callVv (pc := 29) (As := [.int 1]) C mv_RX8_271 (M_Mo_must t0 hD) t0 (by decide) rfl rfl (Nat.le_of_ble_eq_true rfl) dX8_tellBoat_29 (fun h7 hD => ?_)
  refine g_iconst (pc := 32) (v := 0) (by decide) C dX8_tellBoat_32 ?_
  refine g_istore_n (pc := 33) (fun _ => [(3, .int 0), (2, .int x6), (1, .int x5), (0, .ref o)]) C dX8_tellBoat_33 rfl (by decide) rfl (fun _ _ => ?_)
  obtain ⟨n, hD⟩ := hD
  refine g_sub [3, 2, 1, 0] rfl ?_
  refine lp_run (fun s : Int32 × TH => G Y X 4 34 [(0, .ref o), (1, .int x5), (2, .int x6), (3, .int s.1)] [] r s.2) (fun K s hB hK => ?_) n (0, h7) hD
  refine WB_Mo_tellBoat_34 C R t0 (fun y19 h20 hk => hK _ hk) (fun h21 hD => ?_) hB
  · refine g_sub [0, 1, 2] rfl ?_
    exact WJ_Mo_tellBoat_77 C R t0 hD
def DJ_Mo_term_24 (r : TR) (l0 : Nat) (h : TH) (Q : TH → Prop) : Prop :=
  vp_in (h.1 l0 34) 260 ∧ ∀ h5, h5 = pI h (r l0 39) ((h.1 l0 34).toNatClampNeg) (h.1 l0 40) → ∀ h6, h6 = pI h5 l0 34 ((h5.1 l0 34) + 1) → Q h6
set_option maxRecDepth 100000 in
set_option maxHeartbeats 4000000 in
theorem WJ_Mo_term_24 {Y : CG} {X : CX} {r : TR} {l0 : Nat} {h : TH} {Q : TH → Prop} (C : Gd Y X cX8_term 1 RX8 5) (R : Rv Y r X Q) (t0 : TO Y l0 8) (hD : DJ_Mo_term_24 r l0 h  Q) : G Y X 1 24 [(0, .ref l0)] [] r h := by
  unfold DJ_Mo_term_24 at hD
  refine g_wt (fun hw => ?_)
  refine g_aload_n (pc := 24) rfl 0 rfl C dX8_term_24 ?_
  have u4 : TA Y (r l0 39) 10 260 := wt_a hw t0 (by decide) (by decide) rfl
  refine g_getR (pc := 25) C fl_RX8_92 t0 rfl dX8_term_25 ?_
  refine g_aload_n (pc := 28) rfl 0 rfl C dX8_term_28 ?_
  refine g_getI (pc := 29) C fl_RX8_239 t0 rfl dX8_term_29 ?_
  refine g_aload_n (pc := 32) rfl 0 rfl C dX8_term_32 ?_
  refine g_getI (pc := 33) C fl_RX8_242 t0 rfl dX8_term_33 ?_
  obtain ⟨hb, hD⟩ := hD
  refine g_iast (pc := 36) C u4 hb dX8_term_36 (fun h5 eh5 => ?_)
  have hD := hD h5 eh5
  refine g_aload_n (pc := 37) rfl 0 rfl C dX8_term_37 ?_
  refine g_dup (pc := 38) rfl C dX8_term_38 ?_
  refine g_getI (pc := 39) C fl_RX8_239 t0 rfl dX8_term_39 ?_
  refine g_iconst (pc := 42) (v := 1) (by decide) C dX8_term_42 ?_
  refine g_iadd (pc := 43) C dX8_term_43 ?_
  refine g_putI (pc := 44) C fl_RX8_239 t0 rfl rfl rfl dX8_term_44 (fun h6 eh6 => ?_)
  have hD := hD h6 eh6
  exact g_vret (pc := 47) C R dX8_term_47 hD
def D_Mo_term (r : TR) (o : Nat) (h : TH) (Q : TH → Prop) : Prop :=
  vp_in (h.1 o 34) 260 ∧ ∀ h2, h2 = pI h (r o 38) ((h.1 o 34).toNatClampNeg) (h.1 o 40) → ((¬ (h2.1 o 13) = 0 → DJ_Mo_term_24 r o h2 Q) ∧ ((h2.1 o 13) = 0 → D_Mo_expression r o h2 (fun h7 => DJ_Mo_term_24 r o h7 Q)))
set_option maxRecDepth 100000 in
set_option maxHeartbeats 4000000 in
theorem M_Mo_term {Y : CG} {r : TR} {l : Launch} {o : Nat} {h : TH} {Q : TH → Prop} (t0 : TO Y o 8) (hD : D_Mo_term r o h Q) : Mv Y r l yX8_term cX8_term 1 5 [.ref o] h Q := by
  unfold D_Mo_term at hD
  refine Mv.of RX8 rfl (by decide) (by simp [lg_sl, Value.category]) [(0, .ref o)] rfl (fun X hXl C R => ?_)
  subst hXl
  refine g_wt (fun hw => ?_)
  refine g_aload_n (pc := 0) rfl 0 rfl C dX8_term_0 ?_
  have u1 : TA Y (r o 38) 10 260 := wt_a hw t0 (by decide) (by decide) rfl
  refine g_getR (pc := 1) C fl_RX8_89 t0 rfl dX8_term_1 ?_
  refine g_aload_n (pc := 4) rfl 0 rfl C dX8_term_4 ?_
  refine g_getI (pc := 5) C fl_RX8_239 t0 rfl dX8_term_5 ?_
  refine g_aload_n (pc := 8) rfl 0 rfl C dX8_term_8 ?_
  refine g_getI (pc := 9) C fl_RX8_242 t0 rfl dX8_term_9 ?_
  obtain ⟨hb, hD⟩ := hD
  refine g_iast (pc := 12) C u1 hb dX8_term_12 (fun h2 eh2 => ?_)
  have hD := hD h2 eh2
  refine g_aload_n (pc := 13) rfl 0 rfl C dX8_term_13 ?_
  refine g_getI (pc := 14) C fl_RX8_200 t0 rfl dX8_term_14 ?_
  refine g_if_ne (pc := 17) 24 C dX8_term_17 (by decide) (fun c3 => ?_) (fun c3 => ?_)
  · have hD := hD.1 c3
    refine g_sub [0] rfl ?_
    exact WJ_Mo_term_24 C R t0 hD
  · have hD := hD.2 c3
    refine g_aload_n (pc := 20) rfl 0 rfl C dX8_term_20 ?_
    refine g_callVv (pc := 21) (As := []) C mv_RX8_280 (M_Mo_expression t0 hD) t0 (by decide) rfl rfl (Nat.le_of_ble_eq_true rfl) dX8_term_21 (fun h7 hD => ?_)
    refine g_sub [0] rfl ?_
    exact WJ_Mo_term_24 C R t0 hD
def DJ_Mo_tellLaw_110 (r : TR) (l0 : Nat) (l1 : Int32) (l2 : Int32) (l3 : Int32) (h : TH) (K12 : Int32 → TH → Prop) (K129 : TH → Prop) (Q : TH → Prop) : Prop :=
  D_Mo_must r l0 28 h (fun h25 => D_Mo_term r l0 h25 (fun h27 => D_Mo_must r l0 29 h27 (fun h29 => K12 l3 h29)))
set_option maxRecDepth 100000 in
set_option maxHeartbeats 4000000 in
theorem WJ_Mo_tellLaw_110 {Y : CG} {X : CX} {r : TR} {l0 : Nat} {l1 : Int32} {l2 : Int32} {l3 : Int32} {h : TH} {K12 : Int32 → TH → Prop} {K129 : TH → Prop} {Q : TH → Prop} (C : Gd Y X cX8_tellLaw 4 RX8 6) (R : Rv Y r X Q) (t0 : TO Y l0 8) (hK12 : ∀ (k3 : Int32) (hh : TH), K12 k3 hh → G Y X 4 12 [(0, .ref l0), (1, .int l1), (2, .int l2), (3, .int k3)] [] r hh) (hK129 : ∀ (hh : TH), K129 hh → G Y X 4 129 [(0, .ref l0), (1, .int l1), (2, .int l2)] [] r hh) (hD : DJ_Mo_tellLaw_110 r l0 l1 l2 l3 h K12 K129 Q) : G Y X 4 110 [(0, .ref l0), (1, .int l1), (2, .int l2), (3, .int l3)] [] r h := by
  unfold DJ_Mo_tellLaw_110 at hD
  refine g_wt (fun hw => ?_)
  refine g_aload_n (pc := 110) rfl 0 rfl C dX8_tellLaw_110 ?_
  refine g_bipush (pc := 111) (v := 28) (by decide) C dX8_tellLaw_111 ?_
  refine g_callVv (pc := 113) (As := [.int 28]) C mv_RX8_271 (M_Mo_must t0 hD) t0 (by decide) rfl rfl (Nat.le_of_ble_eq_true rfl) dX8_tellLaw_113 (fun h25 hD => ?_)
  refine g_aload_n (pc := 116) rfl 0 rfl C dX8_tellLaw_116 ?_
  refine g_callVv (pc := 117) (As := []) C mv_RX8_283 (M_Mo_term t0 hD) t0 (by decide) rfl rfl (Nat.le_of_ble_eq_true rfl) dX8_tellLaw_117 (fun h27 hD => ?_)
  refine g_aload_n (pc := 120) rfl 0 rfl C dX8_tellLaw_120 ?_
  refine g_bipush (pc := 121) (v := 29) (by decide) C dX8_tellLaw_121 ?_
  refine g_callVv (pc := 123) (As := [.int 29]) C mv_RX8_271 (M_Mo_must t0 hD) t0 (by decide) rfl rfl (Nat.le_of_ble_eq_true rfl) dX8_tellLaw_123 (fun h29 hD => ?_)
  refine g_goto (pc := 126) 12 C dX8_tellLaw_126 (by decide) ?_
  refine g_sub [0, 1, 2, 3] rfl ?_
  exact hK12 l3 h29 hD
def DJ_Mo_tellLaw_38 (r : TR) (l0 : Nat) (l1 : Int32) (l2 : Int32) (l3 : Int32) (h : TH) (K12 : Int32 → TH → Prop) (K129 : TH → Prop) (Q : TH → Prop) : Prop :=
  (((h.1 l0 13) ≤ 0 → ∀ x11 : Int32, x11 = l3 + 1 → D_Mo_goesOn r l0 h (fun h12 => vp_in (h12.1 l0 34) 260 ∧ ∀ h15, h15 = pI h12 (r l0 35) ((h12.1 l0 34).toNatClampNeg) (vp_nar .boolean 1) → vp_in (h15.1 l0 34) 260 ∧ ∀ h17, h17 = pI h15 (r l0 36) ((h15.1 l0 34).toNatClampNeg) (h15.1 l0 40) → D_Mo_expression r l0 h17 (fun h18 => D_Mo_must r l0 13 h18 (fun h20 => vp_in (h20.1 l0 34) 260 ∧ ∀ h23, h23 = pI h20 (r l0 37) ((h20.1 l0 34).toNatClampNeg) (h20.1 l0 40) → ((¬ (h23.1 l0 13) = 0 → DJ_Mo_tellLaw_110 r l0 l1 l2 x11 h23 (K12) (K129) Q) ∧ ((h23.1 l0 13) = 0 → D_Mo_expression r l0 h23 (fun h31 => DJ_Mo_tellLaw_110 r l0 l1 l2 x11 h31 (K12) (K129) Q))))))) ∧ (¬ (h.1 l0 13) ≤ 0 → Q h))
set_option maxRecDepth 100000 in
set_option maxHeartbeats 4000000 in
theorem WJ_Mo_tellLaw_38 {Y : CG} {X : CX} {r : TR} {l0 : Nat} {l1 : Int32} {l2 : Int32} {l3 : Int32} {h : TH} {K12 : Int32 → TH → Prop} {K129 : TH → Prop} {Q : TH → Prop} (C : Gd Y X cX8_tellLaw 4 RX8 6) (R : Rv Y r X Q) (t0 : TO Y l0 8) (hK12 : ∀ (k3 : Int32) (hh : TH), K12 k3 hh → G Y X 4 12 [(0, .ref l0), (1, .int l1), (2, .int l2), (3, .int k3)] [] r hh) (hK129 : ∀ (hh : TH), K129 hh → G Y X 4 129 [(0, .ref l0), (1, .int l1), (2, .int l2)] [] r hh) (hD : DJ_Mo_tellLaw_38 r l0 l1 l2 l3 h K12 K129 Q) : G Y X 4 38 [(0, .ref l0), (1, .int l1), (2, .int l2), (3, .int l3)] [] r h := by
  unfold DJ_Mo_tellLaw_38 at hD
  refine g_wt (fun hw => ?_)
  refine g_aload_n (pc := 38) rfl 0 rfl C dX8_tellLaw_38 ?_
  refine g_getI (pc := 39) C fl_RX8_200 t0 rfl dX8_tellLaw_39 ?_
  refine g_if_le (pc := 42) 46 C dX8_tellLaw_42 (by decide) (fun c10 => ?_) (fun c10 => ?_)
  · have hD := hD.1 c10
    refine g_iinc (pc := 46) (q := 3) (c := 1) (fun x11 => [(3, .int x11), (0, .ref l0), (1, .int l1), (2, .int l2)]) C dX8_tellLaw_46 rfl (by decide) (by decide) rfl (fun x11 ex11 => ?_)
    have hD := hD x11 ex11
    refine g_aload_n (pc := 49) rfl 1 rfl C dX8_tellLaw_49 ?_
    refine g_callVv (pc := 50) (As := []) C mv_RX8_221 (M_Mo_goesOn t0 hD) t0 (by decide) rfl rfl (Nat.le_of_ble_eq_true rfl) dX8_tellLaw_50 (fun h12 hD => ?_)
    refine g_aload_n (pc := 53) rfl 1 rfl C dX8_tellLaw_53 ?_
    have u14 : TA Y (r l0 35) 12 260 := wt_a hw t0 (by decide) (by decide) rfl
    refine g_getR (pc := 54) C fl_RX8_79 t0 rfl dX8_tellLaw_54 ?_
    refine g_aload_n (pc := 57) rfl 1 rfl C dX8_tellLaw_57 ?_
    refine g_getI (pc := 58) C fl_RX8_239 t0 rfl dX8_tellLaw_58 ?_
    refine g_iconst (pc := 61) (v := 1) (by decide) C dX8_tellLaw_61 ?_
    obtain ⟨hb, hD⟩ := hD
    refine g_zast (pc := 62) C u14 hb dX8_tellLaw_62 (fun h15 eh15 => ?_)
    have hD := hD h15 eh15
    refine g_aload_n (pc := 63) rfl 1 rfl C dX8_tellLaw_63 ?_
    have u16 : TA Y (r l0 36) 10 260 := wt_a hw t0 (by decide) (by decide) rfl
    refine g_getR (pc := 64) C fl_RX8_83 t0 rfl dX8_tellLaw_64 ?_
    refine g_aload_n (pc := 67) rfl 1 rfl C dX8_tellLaw_67 ?_
    refine g_getI (pc := 68) C fl_RX8_239 t0 rfl dX8_tellLaw_68 ?_
    refine g_aload_n (pc := 71) rfl 1 rfl C dX8_tellLaw_71 ?_
    refine g_getI (pc := 72) C fl_RX8_242 t0 rfl dX8_tellLaw_72 ?_
    obtain ⟨hb, hD⟩ := hD
    refine g_iast (pc := 75) C u16 hb dX8_tellLaw_75 (fun h17 eh17 => ?_)
    have hD := hD h17 eh17
    refine g_aload_n (pc := 76) rfl 1 rfl C dX8_tellLaw_76 ?_
    refine g_callVv (pc := 77) (As := []) C mv_RX8_280 (M_Mo_expression t0 hD) t0 (by decide) rfl rfl (Nat.le_of_ble_eq_true rfl) dX8_tellLaw_77 (fun h18 hD => ?_)
    refine g_aload_n (pc := 80) rfl 1 rfl C dX8_tellLaw_80 ?_
    refine g_bipush (pc := 81) (v := 13) (by decide) C dX8_tellLaw_81 ?_
    refine g_callVv (pc := 83) (As := [.int 13]) C mv_RX8_271 (M_Mo_must t0 hD) t0 (by decide) rfl rfl (Nat.le_of_ble_eq_true rfl) dX8_tellLaw_83 (fun h20 hD => ?_)
    refine g_aload_n (pc := 86) rfl 1 rfl C dX8_tellLaw_86 ?_
    have u22 : TA Y (r l0 37) 10 260 := wt_a hw t0 (by decide) (by decide) rfl
    refine g_getR (pc := 87) C fl_RX8_86 t0 rfl dX8_tellLaw_87 ?_
    refine g_aload_n (pc := 90) rfl 1 rfl C dX8_tellLaw_90 ?_
    refine g_getI (pc := 91) C fl_RX8_239 t0 rfl dX8_tellLaw_91 ?_
    refine g_aload_n (pc := 94) rfl 1 rfl C dX8_tellLaw_94 ?_
    refine g_getI (pc := 95) C fl_RX8_242 t0 rfl dX8_tellLaw_95 ?_
    obtain ⟨hb, hD⟩ := hD
    refine g_iast (pc := 98) C u22 hb dX8_tellLaw_98 (fun h23 eh23 => ?_)
    have hD := hD h23 eh23
    refine g_aload_n (pc := 99) rfl 1 rfl C dX8_tellLaw_99 ?_
    refine g_getI (pc := 100) C fl_RX8_200 t0 rfl dX8_tellLaw_100 ?_
    refine g_if_ne (pc := 103) 110 C dX8_tellLaw_103 (by decide) (fun c24 => ?_) (fun c24 => ?_)
    · have hD := hD.1 c24
      refine g_sub [1, 2, 3, 0] rfl ?_
      exact WJ_Mo_tellLaw_110 C R t0 (hK12) (hK129) hD
    · have hD := hD.2 c24
      refine g_aload_n (pc := 106) rfl 1 rfl C dX8_tellLaw_106 ?_
      refine g_callVv (pc := 107) (As := []) C mv_RX8_280 (M_Mo_expression t0 hD) t0 (by decide) rfl rfl (Nat.le_of_ble_eq_true rfl) dX8_tellLaw_107 (fun h31 hD => ?_)
      refine g_sub [1, 2, 3, 0] rfl ?_
      exact WJ_Mo_tellLaw_110 C R t0 (hK12) (hK129) hD
  · have hD := hD.2 c10
    exact g_vret (pc := 45) C R dX8_tellLaw_45 hD
def DB_Mo_tellLaw_12 (r : TR) (l0 : Nat) (l1 : Int32) (l2 : Int32) (l3 : Int32) (h : TH) (K12 : Int32 → TH → Prop) (K129 : TH → Prop) (Q : TH → Prop) : Prop :=
  ((¬ (h.1 l0 13) = 0 → K129 h) ∧ ((h.1 l0 13) = 0 → D_Mo_is r l0 27 h (fun x7 h6 => ((x7 = 0 → K129 h6) ∧ (¬ x7 = 0 → ((¬ l3 = 4 → DJ_Mo_tellLaw_38 r l0 l1 l2 l3 h6 (K12) (K129) Q) ∧ (l3 = 4 → D_Mo_fail r l0 2 h6 (fun h33 => DJ_Mo_tellLaw_38 r l0 l1 l2 l3 h33 (K12) (K129) Q))))))))
set_option maxRecDepth 100000 in
set_option maxHeartbeats 4000000 in
theorem WB_Mo_tellLaw_12 {Y : CG} {X : CX} {r : TR} {l0 : Nat} {l1 : Int32} {l2 : Int32} {l3 : Int32} {h : TH} {K12 : Int32 → TH → Prop} {K129 : TH → Prop} {Q : TH → Prop} (C : Gd Y X cX8_tellLaw 4 RX8 6) (R : Rv Y r X Q) (t0 : TO Y l0 8) (hK12 : ∀ (k3 : Int32) (hh : TH), K12 k3 hh → G Y X 4 12 [(0, .ref l0), (1, .int l1), (2, .int l2), (3, .int k3)] [] r hh) (hK129 : ∀ (hh : TH), K129 hh → G Y X 4 129 [(0, .ref l0), (1, .int l1), (2, .int l2)] [] r hh) (hD : DB_Mo_tellLaw_12 r l0 l1 l2 l3 h K12 K129 Q) : G Y X 4 12 [(0, .ref l0), (1, .int l1), (2, .int l2), (3, .int l3)] [] r h := by
  unfold DB_Mo_tellLaw_12 at hD
  refine g_wt (fun hw => ?_)
  refine g_aload_n (pc := 12) rfl 0 rfl C dX8_tellLaw_12 ?_
  refine g_getI (pc := 13) C fl_RX8_200 t0 rfl dX8_tellLaw_13 ?_
  refine g_if_ne (pc := 16) 129 C dX8_tellLaw_16 (by decide) (fun c5 => ?_) (fun c5 => ?_)
  · have hD := hD.1 c5
    refine g_sub [0, 1, 2] rfl ?_
    exact hK129 h hD
  · have hD := hD.2 c5
    refine g_aload_n (pc := 19) rfl 0 rfl C dX8_tellLaw_19 ?_
    refine g_bipush (pc := 20) (v := 27) (by decide) C dX8_tellLaw_20 ?_
    refine g_callVi (pc := 22) (As := [.int 27]) C mv_RX8_218 (M_Mo_is t0 hD) t0 (by decide) rfl rfl (Nat.le_of_ble_eq_true rfl) dX8_tellLaw_22 (fun x7 h6 hD => ?_)
    refine g_if_eq (pc := 25) 129 C dX8_tellLaw_25 (by decide) (fun c8 => ?_) (fun c8 => ?_)
    · have hD := hD.1 c8
      refine g_sub [0, 1, 2] rfl ?_
      exact hK129 h6 hD
    · have hD := hD.2 c8
      refine g_iload_n (pc := 28) rfl 3 rfl C dX8_tellLaw_28 ?_
      refine g_iconst (pc := 29) (v := 4) (by decide) C dX8_tellLaw_29 ?_
      refine g_icmp_ne (pc := 30) 38 C dX8_tellLaw_30 (by decide) (fun c9 => ?_) (fun c9 => ?_)
      · have hD := hD.1 c9
        refine g_sub [0, 1, 2, 3] rfl ?_
        exact WJ_Mo_tellLaw_38 C R t0 (hK12) (hK129) hD
      · have hD := hD.2 c9
        refine g_aload_n (pc := 33) rfl 0 rfl C dX8_tellLaw_33 ?_
        refine g_iconst (pc := 34) (v := 2) (by decide) C dX8_tellLaw_34 ?_
        refine g_callVv (pc := 35) (As := [.int 2]) C mv_RX8_215 (M_Mo_fail t0 hD) t0 (by decide) rfl rfl (Nat.le_of_ble_eq_true rfl) dX8_tellLaw_35 (fun h33 hD => ?_)
        refine g_sub [0, 1, 2, 3] rfl ?_
        exact WJ_Mo_tellLaw_38 C R t0 (hK12) (hK129) hD
def DJ_Mo_tellLaw_129 (r : TR) (l0 : Nat) (l1 : Int32) (l2 : Int32) (h : TH) (Q : TH → Prop) : Prop :=
  vp_in (h.1 l0 34) 260 ∧ ∀ h39, h39 = pI h (r l0 35) ((h.1 l0 34).toNatClampNeg) (vp_nar .boolean 0) → D_Mo_term r l0 h39 (fun h40 => D_Mo_must r l0 4 h40 (fun h42 => (((h42.1 l0 13) ≤ 0 → vp_in ((3 * (h42.1 l0 19)) + l1) 6 ∧ ∀ h46, h46 = pI h42 (r l0 32) (((3 * (h42.1 l0 19)) + l1).toNatClampNeg) l2 → vp_in ((3 * (h46.1 l0 19)) + l1) 6 ∧ ∀ h48, h48 = pI h46 (r l0 33) (((3 * (h46.1 l0 19)) + l1).toNatClampNeg) (h46.1 l0 34) → Q h48) ∧ (¬ (h42.1 l0 13) ≤ 0 → Q h42))))
set_option maxRecDepth 100000 in
set_option maxHeartbeats 4000000 in
theorem WJ_Mo_tellLaw_129 {Y : CG} {X : CX} {r : TR} {l0 : Nat} {l1 : Int32} {l2 : Int32} {h : TH} {Q : TH → Prop} (C : Gd Y X cX8_tellLaw 4 RX8 6) (R : Rv Y r X Q) (t0 : TO Y l0 8) (hD : DJ_Mo_tellLaw_129 r l0 l1 l2 h  Q) : G Y X 4 129 [(0, .ref l0), (1, .int l1), (2, .int l2)] [] r h := by
  unfold DJ_Mo_tellLaw_129 at hD
  refine g_wt (fun hw => ?_)
  refine g_aload_n (pc := 129) rfl 0 rfl C dX8_tellLaw_129 ?_
  have u38 : TA Y (r l0 35) 12 260 := wt_a hw t0 (by decide) (by decide) rfl
  refine g_getR (pc := 130) C fl_RX8_79 t0 rfl dX8_tellLaw_130 ?_
  refine g_aload_n (pc := 133) rfl 0 rfl C dX8_tellLaw_133 ?_
  refine g_getI (pc := 134) C fl_RX8_239 t0 rfl dX8_tellLaw_134 ?_
  refine g_iconst (pc := 137) (v := 0) (by decide) C dX8_tellLaw_137 ?_
  obtain ⟨hb, hD⟩ := hD
  refine g_zast (pc := 138) C u38 hb dX8_tellLaw_138 (fun h39 eh39 => ?_)
  have hD := hD h39 eh39
  refine g_aload_n (pc := 139) rfl 0 rfl C dX8_tellLaw_139 ?_
  refine g_callVv (pc := 140) (As := []) C mv_RX8_283 (M_Mo_term t0 hD) t0 (by decide) rfl rfl (Nat.le_of_ble_eq_true rfl) dX8_tellLaw_140 (fun h40 hD => ?_)
  refine g_aload_n (pc := 143) rfl 0 rfl C dX8_tellLaw_143 ?_
  refine g_iconst (pc := 144) (v := 4) (by decide) C dX8_tellLaw_144 ?_
  refine g_callVv (pc := 145) (As := [.int 4]) C mv_RX8_271 (M_Mo_must t0 hD) t0 (by decide) rfl rfl (Nat.le_of_ble_eq_true rfl) dX8_tellLaw_145 (fun h42 hD => ?_)
  refine g_aload_n (pc := 148) rfl 0 rfl C dX8_tellLaw_148 ?_
  refine g_getI (pc := 149) C fl_RX8_200 t0 rfl dX8_tellLaw_149 ?_
  refine g_if_le (pc := 152) 156 C dX8_tellLaw_152 (by decide) (fun c44 => ?_) (fun c44 => ?_)
  · have hD := hD.1 c44
    refine g_aload_n (pc := 156) rfl 0 rfl C dX8_tellLaw_156 ?_
    have u45 : TA Y (r l0 32) 10 6 := wt_a hw t0 (by decide) (by decide) rfl
    refine g_getR (pc := 157) C fl_RX8_73 t0 rfl dX8_tellLaw_157 ?_
    refine g_iconst (pc := 160) (v := 3) (by decide) C dX8_tellLaw_160 ?_
    refine g_aload_n (pc := 161) rfl 0 rfl C dX8_tellLaw_161 ?_
    refine g_getI (pc := 162) C fl_RX8_233 t0 rfl dX8_tellLaw_162 ?_
    refine g_imul (pc := 165) C dX8_tellLaw_165 ?_
    refine g_iload_n (pc := 166) rfl 1 rfl C dX8_tellLaw_166 ?_
    refine g_iadd (pc := 167) C dX8_tellLaw_167 ?_
    refine g_iload_n (pc := 168) rfl 2 rfl C dX8_tellLaw_168 ?_
    obtain ⟨hb, hD⟩ := hD
    refine g_iast (pc := 169) C u45 hb dX8_tellLaw_169 (fun h46 eh46 => ?_)
    have hD := hD h46 eh46
    refine g_aload_n (pc := 170) rfl 0 rfl C dX8_tellLaw_170 ?_
    have u47 : TA Y (r l0 33) 10 6 := wt_a hw t0 (by decide) (by decide) rfl
    refine g_getR (pc := 171) C fl_RX8_76 t0 rfl dX8_tellLaw_171 ?_
    refine g_iconst (pc := 174) (v := 3) (by decide) C dX8_tellLaw_174 ?_
    refine g_aload_n (pc := 175) rfl 0 rfl C dX8_tellLaw_175 ?_
    refine g_getI (pc := 176) C fl_RX8_233 t0 rfl dX8_tellLaw_176 ?_
    refine g_imul (pc := 179) C dX8_tellLaw_179 ?_
    refine g_iload_n (pc := 180) rfl 1 rfl C dX8_tellLaw_180 ?_
    refine g_iadd (pc := 181) C dX8_tellLaw_181 ?_
    refine g_aload_n (pc := 182) rfl 0 rfl C dX8_tellLaw_182 ?_
    refine g_getI (pc := 183) C fl_RX8_239 t0 rfl dX8_tellLaw_183 ?_
    obtain ⟨hb, hD⟩ := hD
    refine g_iast (pc := 186) C u47 hb dX8_tellLaw_186 (fun h48 eh48 => ?_)
    have hD := hD h48 eh48
    exact g_vret (pc := 187) C R dX8_tellLaw_187 hD
  · have hD := hD.2 c44
    exact g_vret (pc := 155) C R dX8_tellLaw_155 hD
def D_Mo_tellLaw (r : TR) (o : Nat) (a1 : Int32) (h : TH) (Q : TH → Prop) : Prop :=
  D_Mo_must r o 5 h (fun h1 => ∀ x3 : Int32, x3 = h1.1 o 34 → ∃ n, lp (fun (K : Int32 × TH → Prop) (s : Int32 × TH) => DB_Mo_tellLaw_12 r o a1 x3 s.1 s.2 (fun y35 h36 => K (y35, h36)) (fun h37 => DJ_Mo_tellLaw_129 r o a1 x3 h37 Q) Q) n (0, h1))
set_option maxRecDepth 100000 in
set_option maxHeartbeats 4000000 in
theorem M_Mo_tellLaw {Y : CG} {r : TR} {l : Launch} {o : Nat} {a1 : Int32} {h : TH} {Q : TH → Prop} (t0 : TO Y o 8) (hD : D_Mo_tellLaw r o a1 h Q) : Mv Y r l yX8_tellLaw cX8_tellLaw 4 6 [.ref o, .int a1] h Q := by
  unfold D_Mo_tellLaw at hD
  refine Mv.of RX8 rfl (by decide) (by simp [lg_sl, Value.category]) [(0, .ref o), (1, .int a1)] rfl (fun X hXl C R => ?_)
  subst hXl
  refine g_wt (fun hw => ?_)
  refine g_aload_n (pc := 0) rfl 0 rfl C dX8_tellLaw_0 ?_
  refine g_iconst (pc := 1) (v := 5) (by decide) C dX8_tellLaw_1 ?_
  refine g_callVv (pc := 2) (As := [.int 5]) C mv_RX8_271 (M_Mo_must t0 hD) t0 (by decide) rfl rfl (Nat.le_of_ble_eq_true rfl) dX8_tellLaw_2 (fun h1 hD => ?_)
  refine g_aload_n (pc := 5) rfl 0 rfl C dX8_tellLaw_5 ?_
  refine g_getI (pc := 6) C fl_RX8_239 t0 rfl dX8_tellLaw_6 ?_
  refine g_istore_n (pc := 9) (fun x3 => [(2, .int x3), (0, .ref o), (1, .int a1)]) C dX8_tellLaw_9 rfl (by decide) rfl (fun x3 ex3 => ?_)
  have hD := hD x3 ex3
  refine g_iconst (pc := 10) (v := 0) (by decide) C dX8_tellLaw_10 ?_
  refine g_istore_n (pc := 11) (fun _ => [(3, .int 0), (2, .int x3), (0, .ref o), (1, .int a1)]) C dX8_tellLaw_11 rfl (by decide) rfl (fun _ _ => ?_)
  obtain ⟨n, hD⟩ := hD
  refine g_sub [2, 3, 1, 0] rfl ?_
  refine lp_run (fun s : Int32 × TH => G Y X 4 12 [(0, .ref o), (1, .int a1), (2, .int x3), (3, .int s.1)] [] r s.2) (fun K s hB hK => ?_) n (0, h1) hD
  refine WB_Mo_tellLaw_12 C R t0 (fun y35 h36 hk => hK _ hk) (fun h37 hD => ?_) hB
  · refine g_sub [0, 1, 2] rfl ?_
    exact WJ_Mo_tellLaw_129 C R t0 hD
def DJ_Mo_tellRow_178 (r : TR) (l0 : Nat) (h : TH) (Q : TH → Prop) : Prop :=
  D_Mo_must r l0 4 h (fun h7 => ((¬ (h7.1 l0 13) = 0 → Q h7) ∧ ((h7.1 l0 13) = 0 → ∀ i11 : Int32, i11 = h7.1 l0 19 → vp_in i11 2 ∧ vp_in (h7.1 l0 19) 2 ∧ ∀ h12, h12 = pI h7 (r l0 22) ((h7.1 l0 19).toNatClampNeg) ((h7.1 (r l0 22) i11.toNatClampNeg) + 1) → Q h12)))
set_option maxRecDepth 100000 in
set_option maxHeartbeats 4000000 in
theorem WJ_Mo_tellRow_178 {Y : CG} {X : CX} {r : TR} {l0 : Nat} {h : TH} {Q : TH → Prop} (C : Gd Y X cX8_tellRow 7 RX8 4) (R : Rv Y r X Q) (t0 : TO Y l0 8) (hD : DJ_Mo_tellRow_178 r l0 h  Q) : G Y X 7 178 [(0, .ref l0)] [] r h := by
  unfold DJ_Mo_tellRow_178 at hD
  refine g_wt (fun hw => ?_)
  refine g_aload_n (pc := 178) rfl 0 rfl C dX8_tellRow_178 ?_
  refine g_iconst (pc := 179) (v := 4) (by decide) C dX8_tellRow_179 ?_
  refine g_callVv (pc := 180) (As := [.int 4]) C mv_RX8_271 (M_Mo_must t0 hD) t0 (by decide) rfl rfl (Nat.le_of_ble_eq_true rfl) dX8_tellRow_180 (fun h7 hD => ?_)
  refine g_aload_n (pc := 183) rfl 0 rfl C dX8_tellRow_183 ?_
  refine g_getI (pc := 184) C fl_RX8_200 t0 rfl dX8_tellRow_184 ?_
  refine g_if_ne (pc := 187) 203 C dX8_tellRow_187 (by decide) (fun c9 => ?_) (fun c9 => ?_)
  · have hD := hD.1 c9
    exact g_vret (pc := 203) C R dX8_tellRow_203 hD
  · have hD := hD.2 c9
    refine g_aload_n (pc := 190) rfl 0 rfl C dX8_tellRow_190 ?_
    have u10 : TA Y (r l0 22) 10 2 := wt_a hw t0 (by decide) (by decide) rfl
    refine g_getR (pc := 191) C fl_RX8_43 t0 rfl dX8_tellRow_191 ?_
    refine g_aload_n (pc := 194) rfl 0 rfl C dX8_tellRow_194 ?_
    refine g_getI (pc := 195) C fl_RX8_233 t0 rfl dX8_tellRow_195 ?_
    refine g_dup2 (pc := 198) rfl rfl C dX8_tellRow_198 ?_
    refine g_topi (fun i11 ei11 => ?_)
    have hD := hD i11 ei11
    obtain ⟨hb, hD⟩ := hD
    refine g_iald (pc := 199) C u10 hb dX8_tellRow_199 ?_
    refine g_iconst (pc := 200) (v := 1) (by decide) C dX8_tellRow_200 ?_
    refine g_iadd (pc := 201) C dX8_tellRow_201 ?_
    obtain ⟨hb, hD⟩ := hD
    refine g_iast (pc := 202) C u10 hb dX8_tellRow_202 (fun h12 eh12 => ?_)
    have hD := hD h12 eh12
    exact g_vret (pc := 203) C R dX8_tellRow_203 hD
def DB_Mo_tellRow_34 (r : TR) (l0 : Nat) (l1 : Int32) (l2 : Int64) (l4 : Int32) (l5 : Int64) (h : TH) (K34 : Int32 → Int64 → TH → Prop) (K55 : Int32 → TH → Prop) (Q : TH → Prop) : Prop :=
  (((lg_cmp l5 0) ≤ 0 → K55 l4 h) ∧ (¬ (lg_cmp l5 0) ≤ 0 → ∀ x18 : Int32, x18 = l4 + 1 → ∀ x19 : Int64, x19 = l5 / 27 → K34 x18 x19 h))
set_option maxRecDepth 100000 in
set_option maxHeartbeats 4000000 in
theorem WB_Mo_tellRow_34 {Y : CG} {X : CX} {r : TR} {l0 : Nat} {l1 : Int32} {l2 : Int64} {l4 : Int32} {l5 : Int64} {h : TH} {K34 : Int32 → Int64 → TH → Prop} {K55 : Int32 → TH → Prop} {Q : TH → Prop} (C : Gd Y X cX8_tellRow 7 RX8 4) (R : Rv Y r X Q) (t0 : TO Y l0 8) (hK34 : ∀ (k4 : Int32) (k5 : Int64) (hh : TH), K34 k4 k5 hh → G Y X 7 34 [(0, .ref l0), (1, .int l1), (2, .long l2), (4, .int k4), (5, .long k5)] [] r hh) (hK55 : ∀ (k4 : Int32) (hh : TH), K55 k4 hh → G Y X 7 55 [(0, .ref l0), (1, .int l1), (2, .long l2), (4, .int k4)] [] r hh) (hD : DB_Mo_tellRow_34 r l0 l1 l2 l4 l5 h K34 K55 Q) : G Y X 7 34 [(0, .ref l0), (1, .int l1), (2, .long l2), (4, .int l4), (5, .long l5)] [] r h := by
  unfold DB_Mo_tellRow_34 at hD
  refine g_wt (fun hw => ?_)
  refine g_lload (pc := 34) 4 rfl C dX8_tellRow_34 ?_
  refine g_lconst (pc := 36) (v := 0) (by decide) C dX8_tellRow_36 ?_
  refine g_lcmp (pc := 37) C dX8_tellRow_37 ?_
  refine g_if_le (pc := 38) 55 C dX8_tellRow_38 (by decide) (fun c17 => ?_) (fun c17 => ?_)
  · have hD := hD.1 c17
    refine g_sub [0, 1, 2, 3] rfl ?_
    exact hK55 l4 h hD
  · have hD := hD.2 c17
    refine g_iinc (pc := 41) (q := 3) (c := 1) (fun x18 => [(4, .int x18), (0, .ref l0), (1, .int l1), (2, .long l2), (5, .long l5)]) C dX8_tellRow_41 rfl (by decide) (by decide) rfl (fun x18 ex18 => ?_)
    have hD := hD x18 ex18
    refine g_lload (pc := 44) 4 rfl C dX8_tellRow_44 ?_
    refine g_ldc2 (pc := 46) cn_RX8_172 C dX8_tellRow_46 ?_
    refine g_ldiv (pc := 49) (by decide) C dX8_tellRow_49 ?_
    refine g_lstore (pc := 50) (fun x19 => [(5, .long x19), (4, .int x18), (0, .ref l0), (1, .int l1), (2, .long l2)]) C dX8_tellRow_50 (by decide) rfl (fun x19 ex19 => ?_)
    have hD := hD x19 ex19
    refine g_goto (pc := 52) 34 C dX8_tellRow_52 (by decide) ?_
    refine g_sub [2, 3, 4, 1, 0] rfl ?_
    exact hK34 x18 x19 h hD
def DJ_Mo_tellRow_136 (r : TR) (l0 : Nat) (l1 : Int32) (l2 : Int64) (l5 : Int32) (l6 : Int32) (h : TH) (K105 : Int64 → Int32 → TH → Prop) (K178 : TH → Prop) (Q : TH → Prop) : Prop :=
  ∀ i39 : Int32, i39 = h.1 l0 19 → vp_in i39 2 ∧ vp_in (((40 * (h.1 l0 19)) + (8 * (h.1 (r l0 22) i39.toNatClampNeg))) + l5) 80 ∧ ∀ h40, h40 = pI h (r l0 24) ((((40 * (h.1 l0 19)) + (8 * (h.1 (r l0 22) i39.toNatClampNeg))) + l5).toNatClampNeg) l6 → ∀ x41 : Int64, x41 = l2 / 27 → ∀ x42 : Int32, x42 = l5 + (-1) → K105 x41 x42 h40
set_option maxRecDepth 100000 in
set_option maxHeartbeats 4000000 in
theorem WJ_Mo_tellRow_136 {Y : CG} {X : CX} {r : TR} {l0 : Nat} {l1 : Int32} {l2 : Int64} {l5 : Int32} {l6 : Int32} {h : TH} {K105 : Int64 → Int32 → TH → Prop} {K178 : TH → Prop} {Q : TH → Prop} (C : Gd Y X cX8_tellRow 7 RX8 4) (R : Rv Y r X Q) (t0 : TO Y l0 8) (hK105 : ∀ (k2 : Int64) (k5 : Int32) (hh : TH), K105 k2 k5 hh → G Y X 7 105 [(0, .ref l0), (1, .int l1), (2, .long k2), (5, .int k5)] [] r hh) (hK178 : ∀ (hh : TH), K178 hh → G Y X 7 178 [(0, .ref l0)] [] r hh) (hD : DJ_Mo_tellRow_136 r l0 l1 l2 l5 l6 h K105 K178 Q) : G Y X 7 136 [(0, .ref l0), (1, .int l1), (2, .long l2), (5, .int l5), (6, .int l6)] [] r h := by
  unfold DJ_Mo_tellRow_136 at hD
  refine g_wt (fun hw => ?_)
  refine g_aload_n (pc := 136) rfl 0 rfl C dX8_tellRow_136 ?_
  have u37 : TA Y (r l0 24) 10 80 := wt_a hw t0 (by decide) (by decide) rfl
  refine g_getR (pc := 137) C fl_RX8_49 t0 rfl dX8_tellRow_137 ?_
  refine g_bipush (pc := 140) (v := 40) (by decide) C dX8_tellRow_140 ?_
  refine g_aload_n (pc := 142) rfl 0 rfl C dX8_tellRow_142 ?_
  refine g_getI (pc := 143) C fl_RX8_233 t0 rfl dX8_tellRow_143 ?_
  refine g_imul (pc := 146) C dX8_tellRow_146 ?_
  refine g_bipush (pc := 147) (v := 8) (by decide) C dX8_tellRow_147 ?_
  refine g_aload_n (pc := 149) rfl 0 rfl C dX8_tellRow_149 ?_
  have u38 : TA Y (r l0 22) 10 2 := wt_a hw t0 (by decide) (by decide) rfl
  refine g_getR (pc := 150) C fl_RX8_43 t0 rfl dX8_tellRow_150 ?_
  refine g_aload_n (pc := 153) rfl 0 rfl C dX8_tellRow_153 ?_
  refine g_getI (pc := 154) C fl_RX8_233 t0 rfl dX8_tellRow_154 ?_
  refine g_topi (fun i39 ei39 => ?_)
  have hD := hD i39 ei39
  obtain ⟨hb, hD⟩ := hD
  refine g_iald (pc := 157) C u38 hb dX8_tellRow_157 ?_
  refine g_imul (pc := 158) C dX8_tellRow_158 ?_
  refine g_iadd (pc := 159) C dX8_tellRow_159 ?_
  refine g_iload (pc := 160) 3 rfl C dX8_tellRow_160 ?_
  refine g_iadd (pc := 162) C dX8_tellRow_162 ?_
  refine g_iload (pc := 163) 4 rfl C dX8_tellRow_163 ?_
  obtain ⟨hb, hD⟩ := hD
  refine g_iast (pc := 165) C u37 hb dX8_tellRow_165 (fun h40 eh40 => ?_)
  have hD := hD h40 eh40
  refine g_lload_n (pc := 166) rfl 2 rfl C dX8_tellRow_166 ?_
  refine g_ldc2 (pc := 167) cn_RX8_172 C dX8_tellRow_167 ?_
  refine g_ldiv (pc := 170) (by decide) C dX8_tellRow_170 ?_
  refine g_lstore_n (pc := 171) (fun x41 => [(2, .long x41), (0, .ref l0), (1, .int l1), (5, .int l5), (6, .int l6)]) C dX8_tellRow_171 rfl (by decide) rfl (fun x41 ex41 => ?_)
  have hD := hD x41 ex41
  refine g_iinc (pc := 172) (q := 3) (c := (-1)) (fun x42 => [(5, .int x42), (2, .long x41), (0, .ref l0), (1, .int l1), (6, .int l6)]) C dX8_tellRow_172 rfl (by decide) (by decide) rfl (fun x42 ex42 => ?_)
  have hD := hD x42 ex42
  refine g_goto (pc := 175) 105 C dX8_tellRow_175 (by decide) ?_
  refine g_sub [2, 3, 1, 0] rfl ?_
  exact hK105 x41 x42 h40 hD
def DB_Mo_tellRow_105 (r : TR) (l0 : Nat) (l1 : Int32) (l2 : Int64) (l5 : Int32) (h : TH) (K105 : Int64 → Int32 → TH → Prop) (K178 : TH → Prop) (Q : TH → Prop) : Prop :=
  ((l5 < 0 → K178 h) ∧ (¬ l5 < 0 → D_Mo_cellBy r (96 + ((jreml l2 27).toInt32)) h (fun x34 h33 => ((0 ≤ x34 → DJ_Mo_tellRow_136 r l0 l1 l2 l5 x34 h33 (K105) (K178) Q) ∧ (¬ 0 ≤ x34 → D_Mo_wrong r l0 6 l1 h33 (fun h43 => DJ_Mo_tellRow_136 r l0 l1 l2 l5 x34 h43 (K105) (K178) Q))))))
set_option maxRecDepth 100000 in
set_option maxHeartbeats 4000000 in
theorem WB_Mo_tellRow_105 {Y : CG} {X : CX} {r : TR} {l0 : Nat} {l1 : Int32} {l2 : Int64} {l5 : Int32} {h : TH} {K105 : Int64 → Int32 → TH → Prop} {K178 : TH → Prop} {Q : TH → Prop} (C : Gd Y X cX8_tellRow 7 RX8 4) (R : Rv Y r X Q) (t0 : TO Y l0 8) (hK105 : ∀ (k2 : Int64) (k5 : Int32) (hh : TH), K105 k2 k5 hh → G Y X 7 105 [(0, .ref l0), (1, .int l1), (2, .long k2), (5, .int k5)] [] r hh) (hK178 : ∀ (hh : TH), K178 hh → G Y X 7 178 [(0, .ref l0)] [] r hh) (hD : DB_Mo_tellRow_105 r l0 l1 l2 l5 h K105 K178 Q) : G Y X 7 105 [(0, .ref l0), (1, .int l1), (2, .long l2), (5, .int l5)] [] r h := by
  unfold DB_Mo_tellRow_105 at hD
  refine g_wt (fun hw => ?_)
  refine g_iload (pc := 105) 3 rfl C dX8_tellRow_105 ?_
  refine g_if_lt (pc := 107) 178 C dX8_tellRow_107 (by decide) (fun c32 => ?_) (fun c32 => ?_)
  · have hD := hD.1 c32
    refine g_sub [0] rfl ?_
    exact hK178 h hD
  · have hD := hD.2 c32
    refine g_bipush (pc := 110) (v := 96) (by decide) C dX8_tellRow_110 ?_
    refine g_lload_n (pc := 112) rfl 2 rfl C dX8_tellRow_112 ?_
    refine g_ldc2 (pc := 113) cn_RX8_172 C dX8_tellRow_113 ?_
    refine g_lrem (pc := 116) (by decide) C dX8_tellRow_116 ?_
    refine g_l2i (pc := 117) C dX8_tellRow_117 ?_
    refine g_iadd (pc := 118) C dX8_tellRow_118 ?_
    refine g_callSi (pc := 119) (As := [.int (96 + ((jreml l2 27).toInt32))]) C ms_RX8_277 (M_Mo_cellBy  hD) (by decide) rfl rfl (Nat.le_of_ble_eq_true rfl) dX8_tellRow_119 (fun x34 h33 hD => ?_)
    refine g_istore (pc := 122) (fun _ => [(6, .int x34), (0, .ref l0), (1, .int l1), (2, .long l2), (5, .int l5)]) C dX8_tellRow_122 (by decide) rfl (fun _ _ => ?_)
    refine g_iload (pc := 124) 0 rfl C dX8_tellRow_124 ?_
    refine g_if_ge (pc := 126) 136 C dX8_tellRow_126 (by decide) (fun c36 => ?_) (fun c36 => ?_)
    · have hD := hD.1 c36
      refine g_sub [1, 2, 3, 4, 0] rfl ?_
      exact WJ_Mo_tellRow_136 C R t0 (hK105) (hK178) hD
    · have hD := hD.2 c36
      refine g_aload_n (pc := 129) rfl 1 rfl C dX8_tellRow_129 ?_
      refine g_bipush (pc := 130) (v := 6) (by decide) C dX8_tellRow_130 ?_
      refine g_iload_n (pc := 132) rfl 2 rfl C dX8_tellRow_132 ?_
      refine g_callVv (pc := 133) (As := [.int 6, .int l1]) C mv_RX8_251 (M_Mo_wrong t0 hD) t0 (by decide) rfl rfl (Nat.le_of_ble_eq_true rfl) dX8_tellRow_133 (fun h43 hD => ?_)
      refine g_sub [1, 2, 3, 4, 0] rfl ?_
      exact WJ_Mo_tellRow_136 C R t0 (hK105) (hK178) hD
def DJ_Mo_tellRow_78 (r : TR) (l0 : Nat) (l1 : Int32) (l2 : Int64) (l4 : Int32) (h : TH) (Q : TH → Prop) : Prop :=
  ∀ i29 : Int32, i29 = h.1 l0 19 → vp_in i29 2 ∧ ((l4 = (h.1 (r l0 23) i29.toNatClampNeg) → ∀ x31 : Int32, x31 = l4 - 1 → ∃ n, lp (fun (K : Int64 × Int32 × TH → Prop) (s : Int64 × Int32 × TH) => DB_Mo_tellRow_105 r l0 l1 s.1 s.2.1 s.2.2 (fun y45 y46 h47 => K (y45, y46, h47)) (fun h48 => DJ_Mo_tellRow_178 r l0 h48 Q) Q) n (l2, x31, h)) ∧ (¬ l4 = (h.1 (r l0 23) i29.toNatClampNeg) → D_Mo_wrong r l0 6 l1 h (fun h49 => ∀ x51 : Int32, x51 = l4 - 1 → ∃ n, lp (fun (K : Int64 × Int32 × TH → Prop) (s : Int64 × Int32 × TH) => DB_Mo_tellRow_105 r l0 l1 s.1 s.2.1 s.2.2 (fun y52 y53 h54 => K (y52, y53, h54)) (fun h55 => DJ_Mo_tellRow_178 r l0 h55 Q) Q) n (l2, x51, h49))))
set_option maxRecDepth 100000 in
set_option maxHeartbeats 4000000 in
theorem WJ_Mo_tellRow_78 {Y : CG} {X : CX} {r : TR} {l0 : Nat} {l1 : Int32} {l2 : Int64} {l4 : Int32} {h : TH} {Q : TH → Prop} (C : Gd Y X cX8_tellRow 7 RX8 4) (R : Rv Y r X Q) (t0 : TO Y l0 8) (hD : DJ_Mo_tellRow_78 r l0 l1 l2 l4 h  Q) : G Y X 7 78 [(0, .ref l0), (1, .int l1), (2, .long l2), (4, .int l4)] [] r h := by
  unfold DJ_Mo_tellRow_78 at hD
  refine g_wt (fun hw => ?_)
  refine g_iload (pc := 78) 3 rfl C dX8_tellRow_78 ?_
  refine g_aload_n (pc := 80) rfl 0 rfl C dX8_tellRow_80 ?_
  have u28 : TA Y (r l0 23) 10 2 := wt_a hw t0 (by decide) (by decide) rfl
  refine g_getR (pc := 81) C fl_RX8_46 t0 rfl dX8_tellRow_81 ?_
  refine g_aload_n (pc := 84) rfl 0 rfl C dX8_tellRow_84 ?_
  refine g_getI (pc := 85) C fl_RX8_233 t0 rfl dX8_tellRow_85 ?_
  refine g_topi (fun i29 ei29 => ?_)
  have hD := hD i29 ei29
  obtain ⟨hb, hD⟩ := hD
  refine g_iald (pc := 88) C u28 hb dX8_tellRow_88 ?_
  refine g_icmp_eq (pc := 89) 99 C dX8_tellRow_89 (by decide) (fun c30 => ?_) (fun c30 => ?_)
  · have hD := hD.1 c30
    refine g_iload (pc := 99) 3 rfl C dX8_tellRow_99 ?_
    refine g_iconst (pc := 101) (v := 1) (by decide) C dX8_tellRow_101 ?_
    refine g_isub (pc := 102) C dX8_tellRow_102 ?_
    refine g_istore (pc := 103) (fun x31 => [(5, .int x31), (0, .ref l0), (1, .int l1), (2, .long l2), (4, .int l4)]) C dX8_tellRow_103 (by decide) rfl (fun x31 ex31 => ?_)
    have hD := hD x31 ex31
    obtain ⟨n, hD⟩ := hD
    refine g_sub [1, 2, 3, 0] rfl ?_
    refine lp_run (fun s : Int64 × Int32 × TH => G Y X 7 105 [(0, .ref l0), (1, .int l1), (2, .long s.1), (5, .int s.2.1)] [] r s.2.2) (fun K s hB hK => ?_) n (l2, x31, h) hD
    refine WB_Mo_tellRow_105 C R t0 (fun y45 y46 h47 hk => hK _ hk) (fun h48 hD => ?_) hB
    · refine g_sub [0] rfl ?_
      exact WJ_Mo_tellRow_178 C R t0 hD
  · have hD := hD.2 c30
    refine g_aload_n (pc := 92) rfl 0 rfl C dX8_tellRow_92 ?_
    refine g_bipush (pc := 93) (v := 6) (by decide) C dX8_tellRow_93 ?_
    refine g_iload_n (pc := 95) rfl 1 rfl C dX8_tellRow_95 ?_
    refine g_callVv (pc := 96) (As := [.int 6, .int l1]) C mv_RX8_251 (M_Mo_wrong t0 hD) t0 (by decide) rfl rfl (Nat.le_of_ble_eq_true rfl) dX8_tellRow_96 (fun h49 hD => ?_)
    refine g_iload (pc := 99) 3 rfl C dX8_tellRow_99 ?_
    refine g_iconst (pc := 101) (v := 1) (by decide) C dX8_tellRow_101 ?_
    refine g_isub (pc := 102) C dX8_tellRow_102 ?_
    refine g_istore (pc := 103) (fun x51 => [(5, .int x51), (0, .ref l0), (1, .int l1), (2, .long l2), (4, .int l4)]) C dX8_tellRow_103 (by decide) rfl (fun x51 ex51 => ?_)
    have hD := hD x51 ex51
    obtain ⟨n, hD⟩ := hD
    refine g_sub [1, 2, 3, 0] rfl ?_
    refine lp_run (fun s : Int64 × Int32 × TH => G Y X 7 105 [(0, .ref l0), (1, .int l1), (2, .long s.1), (5, .int s.2.1)] [] r s.2.2) (fun K s hB hK => ?_) n (l2, x51, h49) hD
    refine WB_Mo_tellRow_105 C R t0 (fun y52 y53 h54 hk => hK _ hk) (fun h55 hD => ?_) hB
    · refine g_sub [0] rfl ?_
      exact WJ_Mo_tellRow_178 C R t0 hD
def D_Mo_tellRow (r : TR) (o : Nat) (h : TH) (Q : TH → Prop) : Prop :=
  D_Mo_goesOn r o h (fun h1 => ∀ x3 : Int32, x3 = h1.1 o 11 → D_Mo_must r o 1 h1 (fun h4 => ((¬ (h4.1 o 13) = 0 → DJ_Mo_tellRow_178 r o h4 Q) ∧ ((h4.1 o 13) = 0 → vp_in x3 403 ∧ ∀ x14 : Int64, x14 = h4.2 (r o 8) x3.toNatClampNeg → ∃ n, lp (fun (K : Int32 × Int64 × TH → Prop) (s : Int32 × Int64 × TH) => DB_Mo_tellRow_34 r o x3 x14 s.1 s.2.1 s.2.2 (fun y20 y21 h22 => K (y20, y21, h22)) (fun x23 h24 => ∀ i26 : Int32, i26 = h24.1 o 19 → vp_in i26 2 ∧ ((¬ (h24.1 (r o 22) i26.toNatClampNeg) = 0 → DJ_Mo_tellRow_78 r o x3 x14 x23 h24 Q) ∧ ((h24.1 (r o 22) i26.toNatClampNeg) = 0 → vp_in (h24.1 o 19) 2 ∧ ∀ h57, h57 = pI h24 (r o 23) ((h24.1 o 19).toNatClampNeg) x23 → DJ_Mo_tellRow_78 r o x3 x14 x23 h57 Q))) Q) n (0, x14, h4)))))
set_option maxRecDepth 100000 in
set_option maxHeartbeats 4000000 in
theorem M_Mo_tellRow {Y : CG} {r : TR} {l : Launch} {o : Nat} {h : TH} {Q : TH → Prop} (t0 : TO Y o 8) (hD : D_Mo_tellRow r o h Q) : Mv Y r l yX8_tellRow cX8_tellRow 7 4 [.ref o] h Q := by
  unfold D_Mo_tellRow at hD
  refine Mv.of RX8 rfl (by decide) (by simp [lg_sl, Value.category]) [(0, .ref o)] rfl (fun X hXl C R => ?_)
  subst hXl
  refine g_wt (fun hw => ?_)
  refine g_aload_n (pc := 0) rfl 0 rfl C dX8_tellRow_0 ?_
  refine g_callVv (pc := 1) (As := []) C mv_RX8_221 (M_Mo_goesOn t0 hD) t0 (by decide) rfl rfl (Nat.le_of_ble_eq_true rfl) dX8_tellRow_1 (fun h1 hD => ?_)
  refine g_aload_n (pc := 4) rfl 0 rfl C dX8_tellRow_4 ?_
  refine g_getI (pc := 5) C fl_RX8_203 t0 rfl dX8_tellRow_5 ?_
  refine g_istore_n (pc := 8) (fun x3 => [(1, .int x3), (0, .ref o)]) C dX8_tellRow_8 rfl (by decide) rfl (fun x3 ex3 => ?_)
  have hD := hD x3 ex3
  refine g_aload_n (pc := 9) rfl 1 rfl C dX8_tellRow_9 ?_
  refine g_iconst (pc := 10) (v := 1) (by decide) C dX8_tellRow_10 ?_
  refine g_callVv (pc := 11) (As := [.int 1]) C mv_RX8_271 (M_Mo_must t0 hD) t0 (by decide) rfl rfl (Nat.le_of_ble_eq_true rfl) dX8_tellRow_11 (fun h4 hD => ?_)
  refine g_aload_n (pc := 14) rfl 1 rfl C dX8_tellRow_14 ?_
  refine g_getI (pc := 15) C fl_RX8_200 t0 rfl dX8_tellRow_15 ?_
  refine g_if_ne (pc := 18) 178 C dX8_tellRow_18 (by decide) (fun c6 => ?_) (fun c6 => ?_)
  · have hD := hD.1 c6
    refine g_sub [1] rfl ?_
    exact WJ_Mo_tellRow_178 C R t0 hD
  · have hD := hD.2 c6
    refine g_aload_n (pc := 21) rfl 1 rfl C dX8_tellRow_21 ?_
    have u13 : TA Y (r o 8) 11 403 := wt_a hw t0 (by decide) (by decide) rfl
    refine g_getR (pc := 22) C fl_RX8_30 t0 rfl dX8_tellRow_22 ?_
    refine g_iload_n (pc := 25) rfl 0 rfl C dX8_tellRow_25 ?_
    obtain ⟨hb, hD⟩ := hD
    refine g_lald (pc := 26) C u13 hb dX8_tellRow_26 ?_
    refine g_lstore_n (pc := 27) (fun x14 => [(2, .long x14), (1, .int x3), (0, .ref o)]) C dX8_tellRow_27 rfl (by decide) rfl (fun x14 ex14 => ?_)
    have hD := hD x14 ex14
    refine g_iconst (pc := 28) (v := 0) (by decide) C dX8_tellRow_28 ?_
    refine g_istore (pc := 29) (fun _ => [(4, .int 0), (2, .long x14), (1, .int x3), (0, .ref o)]) C dX8_tellRow_29 (by decide) rfl (fun _ _ => ?_)
    refine g_lload_n (pc := 31) rfl 1 rfl C dX8_tellRow_31 ?_
    refine g_lstore (pc := 32) (fun _ => [(5, .long x14), (4, .int 0), (2, .long x14), (1, .int x3), (0, .ref o)]) C dX8_tellRow_32 (by decide) rfl (fun _ _ => ?_)
    obtain ⟨n, hD⟩ := hD
    refine g_sub [4, 3, 2, 1, 0] rfl ?_
    refine lp_run (fun s : Int32 × Int64 × TH => G Y X 7 34 [(0, .ref o), (1, .int x3), (2, .long x14), (4, .int s.1), (5, .long s.2.1)] [] r s.2.2) (fun K s hB hK => ?_) n (0, x14, h4) hD
    refine WB_Mo_tellRow_34 C R t0 (fun y20 y21 h22 hk => hK _ hk) (fun x23 h24 hD => ?_) hB
    · refine g_aload_n (pc := 55) rfl 0 rfl C dX8_tellRow_55 ?_
      have u25 : TA Y (r o 22) 10 2 := wt_a hw t0 (by decide) (by decide) rfl
      refine g_getR (pc := 56) C fl_RX8_43 t0 rfl dX8_tellRow_56 ?_
      refine g_aload_n (pc := 59) rfl 0 rfl C dX8_tellRow_59 ?_
      refine g_getI (pc := 60) C fl_RX8_233 t0 rfl dX8_tellRow_60 ?_
      refine g_topi (fun i26 ei26 => ?_)
      have hD := hD i26 ei26
      obtain ⟨hb, hD⟩ := hD
      refine g_iald (pc := 63) C u25 hb dX8_tellRow_63 ?_
      refine g_if_ne (pc := 64) 78 C dX8_tellRow_64 (by decide) (fun c27 => ?_) (fun c27 => ?_)
      · have hD := hD.1 c27
        refine g_sub [0, 1, 2, 3] rfl ?_
        exact WJ_Mo_tellRow_78 C R t0 hD
      · have hD := hD.2 c27
        refine g_aload_n (pc := 67) rfl 0 rfl C dX8_tellRow_67 ?_
        have u56 : TA Y (r o 23) 10 2 := wt_a hw t0 (by decide) (by decide) rfl
        refine g_getR (pc := 68) C fl_RX8_46 t0 rfl dX8_tellRow_68 ?_
        refine g_aload_n (pc := 71) rfl 0 rfl C dX8_tellRow_71 ?_
        refine g_getI (pc := 72) C fl_RX8_233 t0 rfl dX8_tellRow_72 ?_
        refine g_iload (pc := 75) 3 rfl C dX8_tellRow_75 ?_
        obtain ⟨hb, hD⟩ := hD
        refine g_iast (pc := 77) C u56 hb dX8_tellRow_77 (fun h57 eh57 => ?_)
        have hD := hD h57 eh57
        refine g_sub [0, 1, 2, 3] rfl ?_
        exact WJ_Mo_tellRow_78 C R t0 hD
def DJ_Mo_tellOne_210 (r : TR) (l0 : Nat) (l1 : Int32) (h : TH) (Q : TH → Prop) : Prop :=
  (((h.1 l0 13) ≤ 0 → D_Mo_goesOn r l0 h (fun h35 => D_Mo_tellLaw r l0 l1 h35 (fun h37 => Q h37))) ∧ (¬ (h.1 l0 13) ≤ 0 → Q h))
set_option maxRecDepth 100000 in
set_option maxHeartbeats 4000000 in
theorem WJ_Mo_tellOne_210 {Y : CG} {X : CX} {r : TR} {l0 : Nat} {l1 : Int32} {h : TH} {Q : TH → Prop} (C : Gd Y X cX8_tellOne 2 RX8 7) (R : Rv Y r X Q) (t0 : TO Y l0 8) (hD : DJ_Mo_tellOne_210 r l0 l1 h  Q) : G Y X 2 210 [(0, .ref l0), (1, .int l1)] [] r h := by
  unfold DJ_Mo_tellOne_210 at hD
  refine g_wt (fun hw => ?_)
  refine g_aload_n (pc := 210) rfl 0 rfl C dX8_tellOne_210 ?_
  refine g_getI (pc := 211) C fl_RX8_200 t0 rfl dX8_tellOne_211 ?_
  refine g_if_le (pc := 214) 218 C dX8_tellOne_214 (by decide) (fun c34 => ?_) (fun c34 => ?_)
  · have hD := hD.1 c34
    refine g_aload_n (pc := 218) rfl 0 rfl C dX8_tellOne_218 ?_
    refine g_callVv (pc := 219) (As := []) C mv_RX8_221 (M_Mo_goesOn t0 hD) t0 (by decide) rfl rfl (Nat.le_of_ble_eq_true rfl) dX8_tellOne_219 (fun h35 hD => ?_)
    refine g_aload_n (pc := 222) rfl 0 rfl C dX8_tellOne_222 ?_
    refine g_iload_n (pc := 223) rfl 1 rfl C dX8_tellOne_223 ?_
    refine g_callVv (pc := 224) (As := [.int l1]) C mv_RX8_274 (M_Mo_tellLaw t0 hD) t0 (by decide) rfl rfl (Nat.le_of_ble_eq_true rfl) dX8_tellOne_224 (fun h37 hD => ?_)
    exact g_vret (pc := 227) C R dX8_tellOne_227 hD
  · have hD := hD.2 c34
    exact g_vret (pc := 217) C R dX8_tellOne_217 hD
def DJ_Mo_tellOne_205 (r : TR) (l0 : Nat) (l1 : Int32) (h : TH) (Q : TH → Prop) : Prop :=
  D_Mo_fail r l0 1 h (fun h32 => DJ_Mo_tellOne_210 r l0 l1 h32 Q)
set_option maxRecDepth 100000 in
set_option maxHeartbeats 4000000 in
theorem WJ_Mo_tellOne_205 {Y : CG} {X : CX} {r : TR} {l0 : Nat} {l1 : Int32} {h : TH} {Q : TH → Prop} (C : Gd Y X cX8_tellOne 2 RX8 7) (R : Rv Y r X Q) (t0 : TO Y l0 8) (hD : DJ_Mo_tellOne_205 r l0 l1 h  Q) : G Y X 2 205 [(0, .ref l0), (1, .int l1)] [] r h := by
  unfold DJ_Mo_tellOne_205 at hD
  refine g_wt (fun hw => ?_)
  refine g_aload_n (pc := 205) rfl 0 rfl C dX8_tellOne_205 ?_
  refine g_iconst (pc := 206) (v := 1) (by decide) C dX8_tellOne_206 ?_
  refine g_callVv (pc := 207) (As := [.int 1]) C mv_RX8_215 (M_Mo_fail t0 hD) t0 (by decide) rfl rfl (Nat.le_of_ble_eq_true rfl) dX8_tellOne_207 (fun h32 hD => ?_)
  refine g_sub [0, 1] rfl ?_
  exact WJ_Mo_tellOne_210 C R t0 hD
def D_Mo_tellOne (r : TR) (o : Nat) (h : TH) (Q : TH → Prop) : Prop :=
  ∀ i2 : Int32, i2 = h.1 o 11 → vp_in i2 403 ∧ (((h.1 (r o 5) i2.toNatClampNeg) = 20 → ∀ i5 : Int32, i5 = h.1 o 19 → vp_in i5 2 ∧ ((¬ (h.1 (r o 22) i5.toNatClampNeg) = 5 → ((¬ (h.1 o 13) = 0 → Q h) ∧ ((h.1 o 13) = 0 → D_Mo_tellRow r o h (fun h8 => Q h8)))) ∧ ((h.1 (r o 22) i5.toNatClampNeg) = 5 → D_Mo_fail r o 2 h (fun h10 => ((¬ (h10.1 o 13) = 0 → Q h10) ∧ ((h10.1 o 13) = 0 → D_Mo_tellRow r o h10 (fun h13 => Q h13))))))) ∧ (¬ (h.1 (r o 5) i2.toNatClampNeg) = 20 → (((h.1 (r o 5) i2.toNatClampNeg) = 21 → ∀ i17 : Int32, i17 = h.1 o 19 → vp_in i17 2 ∧ ((¬ (h.1 (r o 25) i17.toNatClampNeg) = 6 → ((¬ (h.1 o 13) = 0 → Q h) ∧ ((h.1 o 13) = 0 → D_Mo_tellBoat r o h (fun h20 => Q h20)))) ∧ ((h.1 (r o 25) i17.toNatClampNeg) = 6 → D_Mo_fail r o 2 h (fun h22 => ((¬ (h22.1 o 13) = 0 → Q h22) ∧ ((h22.1 o 13) = 0 → D_Mo_tellBoat r o h22 (fun h25 => Q h25))))))) ∧ (¬ (h.1 (r o 5) i2.toNatClampNeg) = 21 → (((h.1 (r o 5) i2.toNatClampNeg) = 22 → ∀ i29 : Int32, i29 = h.1 o 11 → vp_in i29 403 ∧ ∀ x30 : Int32, x30 = (h.1 (r o 5) i29.toNatClampNeg) - 22 → ((x30 < 0 → DJ_Mo_tellOne_205 r o x30 h Q) ∧ (¬ x30 < 0 → ∀ i40 : Int32, i40 = h.1 o 11 → vp_in i40 403 ∧ (((h.1 (r o 5) i40.toNatClampNeg) ≤ 24 → DJ_Mo_tellOne_210 r o x30 h Q) ∧ (¬ (h.1 (r o 5) i40.toNatClampNeg) ≤ 24 → DJ_Mo_tellOne_205 r o x30 h Q))))) ∧ (¬ (h.1 (r o 5) i2.toNatClampNeg) = 22 → (((h.1 (r o 5) i2.toNatClampNeg) = 23 → ∀ i44 : Int32, i44 = h.1 o 11 → vp_in i44 403 ∧ ∀ x45 : Int32, x45 = (h.1 (r o 5) i44.toNatClampNeg) - 22 → ((x45 < 0 → DJ_Mo_tellOne_205 r o x45 h Q) ∧ (¬ x45 < 0 → ∀ i48 : Int32, i48 = h.1 o 11 → vp_in i48 403 ∧ (((h.1 (r o 5) i48.toNatClampNeg) ≤ 24 → DJ_Mo_tellOne_210 r o x45 h Q) ∧ (¬ (h.1 (r o 5) i48.toNatClampNeg) ≤ 24 → DJ_Mo_tellOne_205 r o x45 h Q))))) ∧ (¬ (h.1 (r o 5) i2.toNatClampNeg) = 23 → (((h.1 (r o 5) i2.toNatClampNeg) = 24 → ∀ i52 : Int32, i52 = h.1 o 11 → vp_in i52 403 ∧ ∀ x53 : Int32, x53 = (h.1 (r o 5) i52.toNatClampNeg) - 22 → ((x53 < 0 → DJ_Mo_tellOne_205 r o x53 h Q) ∧ (¬ x53 < 0 → ∀ i56 : Int32, i56 = h.1 o 11 → vp_in i56 403 ∧ (((h.1 (r o 5) i56.toNatClampNeg) ≤ 24 → DJ_Mo_tellOne_210 r o x53 h Q) ∧ (¬ (h.1 (r o 5) i56.toNatClampNeg) ≤ 24 → DJ_Mo_tellOne_205 r o x53 h Q))))) ∧ (¬ (h.1 (r o 5) i2.toNatClampNeg) = 24 → (((h.1 (r o 5) i2.toNatClampNeg) = 25 → D_Mo_goesOn r o h (fun h59 => D_Mo_bounded r o 0 100 h59 (fun x63 h62 => vp_in (h59.1 o 19) 2 ∧ ∀ h64, h64 = pI h62 (r o 30) ((h59.1 o 19).toNatClampNeg) x63 → D_Mo_must r o 4 h64 (fun h65 => Q h65)))) ∧ (¬ (h.1 (r o 5) i2.toNatClampNeg) = 25 → (((h.1 (r o 5) i2.toNatClampNeg) = 26 → D_Mo_goesOn r o h (fun h68 => D_Mo_bounded r o 0 9999 h68 (fun x72 h71 => vp_in (h68.1 o 19) 2 ∧ ∀ h73, h73 = pI h71 (r o 31) ((h68.1 o 19).toNatClampNeg) x72 → D_Mo_must r o 4 h73 (fun h74 => Q h74)))) ∧ (¬ (h.1 (r o 5) i2.toNatClampNeg) = 26 → ∀ i77 : Int32, i77 = h.1 o 11 → vp_in i77 403 ∧ ∀ x78 : Int32, x78 = (h.1 (r o 5) i77.toNatClampNeg) - 22 → ((x78 < 0 → DJ_Mo_tellOne_205 r o x78 h Q) ∧ (¬ x78 < 0 → ∀ i81 : Int32, i81 = h.1 o 11 → vp_in i81 403 ∧ (((h.1 (r o 5) i81.toNatClampNeg) ≤ 24 → DJ_Mo_tellOne_210 r o x78 h Q) ∧ (¬ (h.1 (r o 5) i81.toNatClampNeg) ≤ 24 → DJ_Mo_tellOne_205 r o x78 h Q))))))))))))))))))
set_option maxRecDepth 100000 in
set_option maxHeartbeats 4000000 in
theorem M_Mo_tellOne {Y : CG} {r : TR} {l : Launch} {o : Nat} {h : TH} {Q : TH → Prop} (t0 : TO Y o 8) (hD : D_Mo_tellOne r o h Q) : Mv Y r l yX8_tellOne cX8_tellOne 2 7 [.ref o] h Q := by
  unfold D_Mo_tellOne at hD
  refine Mv.of RX8 rfl (by decide) (by simp [lg_sl, Value.category]) [(0, .ref o)] rfl (fun X hXl C R => ?_)
  subst hXl
  refine g_wt (fun hw => ?_)
  refine g_aload_n (pc := 0) rfl 0 rfl C dX8_tellOne_0 ?_
  have u1 : TA Y (r o 5) 10 403 := wt_a hw t0 (by decide) (by decide) rfl
  refine g_getR (pc := 1) C fl_RX8_20 t0 rfl dX8_tellOne_1 ?_
  refine g_aload_n (pc := 4) rfl 0 rfl C dX8_tellOne_4 ?_
  refine g_getI (pc := 5) C fl_RX8_203 t0 rfl dX8_tellOne_5 ?_
  refine g_topi (fun i2 ei2 => ?_)
  have hD := hD i2 ei2
  obtain ⟨hb, hD⟩ := hD
  refine g_iald (pc := 8) C u1 hb dX8_tellOne_8 ?_
  by_cases c3 : (h.1 (r o 5) i2.toNatClampNeg) = 20
  · have hD := hD.1 c3
    refine g_tswIn (pc := 9) 52 C dX8_tellOne_9 20 c3 (by decide) (by decide) rfl (by decide) ?_
    refine g_aload_n (pc := 52) rfl 0 rfl C dX8_tellOne_52 ?_
    have u4 : TA Y (r o 22) 10 2 := wt_a hw t0 (by decide) (by decide) rfl
    refine g_getR (pc := 53) C fl_RX8_43 t0 rfl dX8_tellOne_53 ?_
    refine g_aload_n (pc := 56) rfl 0 rfl C dX8_tellOne_56 ?_
    refine g_getI (pc := 57) C fl_RX8_233 t0 rfl dX8_tellOne_57 ?_
    refine g_topi (fun i5 ei5 => ?_)
    have hD := hD i5 ei5
    obtain ⟨hb, hD⟩ := hD
    refine g_iald (pc := 60) C u4 hb dX8_tellOne_60 ?_
    refine g_iconst (pc := 61) (v := 5) (by decide) C dX8_tellOne_61 ?_
    refine g_icmp_ne (pc := 62) 70 C dX8_tellOne_62 (by decide) (fun c6 => ?_) (fun c6 => ?_)
    · have hD := hD.1 c6
      refine g_aload_n (pc := 70) rfl 0 rfl C dX8_tellOne_70 ?_
      refine g_getI (pc := 71) C fl_RX8_200 t0 rfl dX8_tellOne_71 ?_
      refine g_if_ne (pc := 74) 227 C dX8_tellOne_74 (by decide) (fun c7 => ?_) (fun c7 => ?_)
      · have hD := hD.1 c7
        exact g_vret (pc := 227) C R dX8_tellOne_227 hD
      · have hD := hD.2 c7
        refine g_aload_n (pc := 77) rfl 0 rfl C dX8_tellOne_77 ?_
        refine g_callVv (pc := 78) (As := []) C mv_RX8_261 (M_Mo_tellRow t0 hD) t0 (by decide) rfl rfl (Nat.le_of_ble_eq_true rfl) dX8_tellOne_78 (fun h8 hD => ?_)
        refine g_goto (pc := 81) 227 C dX8_tellOne_81 (by decide) ?_
        exact g_vret (pc := 227) C R dX8_tellOne_227 hD
    · have hD := hD.2 c6
      refine g_aload_n (pc := 65) rfl 0 rfl C dX8_tellOne_65 ?_
      refine g_iconst (pc := 66) (v := 2) (by decide) C dX8_tellOne_66 ?_
      refine g_callVv (pc := 67) (As := [.int 2]) C mv_RX8_215 (M_Mo_fail t0 hD) t0 (by decide) rfl rfl (Nat.le_of_ble_eq_true rfl) dX8_tellOne_67 (fun h10 hD => ?_)
      refine g_aload_n (pc := 70) rfl 0 rfl C dX8_tellOne_70 ?_
      refine g_getI (pc := 71) C fl_RX8_200 t0 rfl dX8_tellOne_71 ?_
      refine g_if_ne (pc := 74) 227 C dX8_tellOne_74 (by decide) (fun c12 => ?_) (fun c12 => ?_)
      · have hD := hD.1 c12
        exact g_vret (pc := 227) C R dX8_tellOne_227 hD
      · have hD := hD.2 c12
        refine g_aload_n (pc := 77) rfl 0 rfl C dX8_tellOne_77 ?_
        refine g_callVv (pc := 78) (As := []) C mv_RX8_261 (M_Mo_tellRow t0 hD) t0 (by decide) rfl rfl (Nat.le_of_ble_eq_true rfl) dX8_tellOne_78 (fun h13 hD => ?_)
        refine g_goto (pc := 81) 227 C dX8_tellOne_81 (by decide) ?_
        exact g_vret (pc := 227) C R dX8_tellOne_227 hD
  have hD := hD.2 c3
  by_cases c15 : (h.1 (r o 5) i2.toNatClampNeg) = 21
  · have hD := hD.1 c15
    refine g_tswIn (pc := 9) 84 C dX8_tellOne_9 21 c15 (by decide) (by decide) rfl (by decide) ?_
    refine g_aload_n (pc := 84) rfl 0 rfl C dX8_tellOne_84 ?_
    have u16 : TA Y (r o 25) 10 2 := wt_a hw t0 (by decide) (by decide) rfl
    refine g_getR (pc := 85) C fl_RX8_52 t0 rfl dX8_tellOne_85 ?_
    refine g_aload_n (pc := 88) rfl 0 rfl C dX8_tellOne_88 ?_
    refine g_getI (pc := 89) C fl_RX8_233 t0 rfl dX8_tellOne_89 ?_
    refine g_topi (fun i17 ei17 => ?_)
    have hD := hD i17 ei17
    obtain ⟨hb, hD⟩ := hD
    refine g_iald (pc := 92) C u16 hb dX8_tellOne_92 ?_
    refine g_bipush (pc := 93) (v := 6) (by decide) C dX8_tellOne_93 ?_
    refine g_icmp_ne (pc := 95) 103 C dX8_tellOne_95 (by decide) (fun c18 => ?_) (fun c18 => ?_)
    · have hD := hD.1 c18
      refine g_aload_n (pc := 103) rfl 0 rfl C dX8_tellOne_103 ?_
      refine g_getI (pc := 104) C fl_RX8_200 t0 rfl dX8_tellOne_104 ?_
      refine g_if_ne (pc := 107) 227 C dX8_tellOne_107 (by decide) (fun c19 => ?_) (fun c19 => ?_)
      · have hD := hD.1 c19
        exact g_vret (pc := 227) C R dX8_tellOne_227 hD
      · have hD := hD.2 c19
        refine g_aload_n (pc := 110) rfl 0 rfl C dX8_tellOne_110 ?_
        refine g_callVv (pc := 111) (As := []) C mv_RX8_264 (M_Mo_tellBoat t0 hD) t0 (by decide) rfl rfl (Nat.le_of_ble_eq_true rfl) dX8_tellOne_111 (fun h20 hD => ?_)
        refine g_goto (pc := 114) 227 C dX8_tellOne_114 (by decide) ?_
        exact g_vret (pc := 227) C R dX8_tellOne_227 hD
    · have hD := hD.2 c18
      refine g_aload_n (pc := 98) rfl 0 rfl C dX8_tellOne_98 ?_
      refine g_iconst (pc := 99) (v := 2) (by decide) C dX8_tellOne_99 ?_
      refine g_callVv (pc := 100) (As := [.int 2]) C mv_RX8_215 (M_Mo_fail t0 hD) t0 (by decide) rfl rfl (Nat.le_of_ble_eq_true rfl) dX8_tellOne_100 (fun h22 hD => ?_)
      refine g_aload_n (pc := 103) rfl 0 rfl C dX8_tellOne_103 ?_
      refine g_getI (pc := 104) C fl_RX8_200 t0 rfl dX8_tellOne_104 ?_
      refine g_if_ne (pc := 107) 227 C dX8_tellOne_107 (by decide) (fun c24 => ?_) (fun c24 => ?_)
      · have hD := hD.1 c24
        exact g_vret (pc := 227) C R dX8_tellOne_227 hD
      · have hD := hD.2 c24
        refine g_aload_n (pc := 110) rfl 0 rfl C dX8_tellOne_110 ?_
        refine g_callVv (pc := 111) (As := []) C mv_RX8_264 (M_Mo_tellBoat t0 hD) t0 (by decide) rfl rfl (Nat.le_of_ble_eq_true rfl) dX8_tellOne_111 (fun h25 hD => ?_)
        refine g_goto (pc := 114) 227 C dX8_tellOne_114 (by decide) ?_
        exact g_vret (pc := 227) C R dX8_tellOne_227 hD
  have hD := hD.2 c15
  by_cases c27 : (h.1 (r o 5) i2.toNatClampNeg) = 22
  · have hD := hD.1 c27
    refine g_tswIn (pc := 9) 174 C dX8_tellOne_9 22 c27 (by decide) (by decide) rfl (by decide) ?_
    refine g_aload_n (pc := 174) rfl 0 rfl C dX8_tellOne_174 ?_
    have u28 : TA Y (r o 5) 10 403 := wt_a hw t0 (by decide) (by decide) rfl
    refine g_getR (pc := 175) C fl_RX8_20 t0 rfl dX8_tellOne_175 ?_
    refine g_aload_n (pc := 178) rfl 0 rfl C dX8_tellOne_178 ?_
    refine g_getI (pc := 179) C fl_RX8_203 t0 rfl dX8_tellOne_179 ?_
    refine g_topi (fun i29 ei29 => ?_)
    have hD := hD i29 ei29
    obtain ⟨hb, hD⟩ := hD
    refine g_iald (pc := 182) C u28 hb dX8_tellOne_182 ?_
    refine g_bipush (pc := 183) (v := 22) (by decide) C dX8_tellOne_183 ?_
    refine g_isub (pc := 185) C dX8_tellOne_185 ?_
    refine g_istore_n (pc := 186) (fun x30 => [(1, .int x30), (0, .ref o)]) C dX8_tellOne_186 rfl (by decide) rfl (fun x30 ex30 => ?_)
    have hD := hD x30 ex30
    refine g_iload_n (pc := 187) rfl 0 rfl C dX8_tellOne_187 ?_
    refine g_if_lt (pc := 188) 205 C dX8_tellOne_188 (by decide) (fun c31 => ?_) (fun c31 => ?_)
    · have hD := hD.1 c31
      refine g_sub [1, 0] rfl ?_
      exact WJ_Mo_tellOne_205 C R t0 hD
    · have hD := hD.2 c31
      refine g_aload_n (pc := 191) rfl 1 rfl C dX8_tellOne_191 ?_
      have u39 : TA Y (r o 5) 10 403 := wt_a hw t0 (by decide) (by decide) rfl
      refine g_getR (pc := 192) C fl_RX8_20 t0 rfl dX8_tellOne_192 ?_
      refine g_aload_n (pc := 195) rfl 1 rfl C dX8_tellOne_195 ?_
      refine g_getI (pc := 196) C fl_RX8_203 t0 rfl dX8_tellOne_196 ?_
      refine g_topi (fun i40 ei40 => ?_)
      have hD := hD i40 ei40
      obtain ⟨hb, hD⟩ := hD
      refine g_iald (pc := 199) C u39 hb dX8_tellOne_199 ?_
      refine g_bipush (pc := 200) (v := 24) (by decide) C dX8_tellOne_200 ?_
      refine g_icmp_le (pc := 202) 210 C dX8_tellOne_202 (by decide) (fun c41 => ?_) (fun c41 => ?_)
      · have hD := hD.1 c41
        refine g_sub [1, 0] rfl ?_
        exact WJ_Mo_tellOne_210 C R t0 hD
      · have hD := hD.2 c41
        refine g_sub [1, 0] rfl ?_
        exact WJ_Mo_tellOne_205 C R t0 hD
  have hD := hD.2 c27
  by_cases c42 : (h.1 (r o 5) i2.toNatClampNeg) = 23
  · have hD := hD.1 c42
    refine g_tswIn (pc := 9) 174 C dX8_tellOne_9 23 c42 (by decide) (by decide) rfl (by decide) ?_
    refine g_aload_n (pc := 174) rfl 0 rfl C dX8_tellOne_174 ?_
    have u43 : TA Y (r o 5) 10 403 := wt_a hw t0 (by decide) (by decide) rfl
    refine g_getR (pc := 175) C fl_RX8_20 t0 rfl dX8_tellOne_175 ?_
    refine g_aload_n (pc := 178) rfl 0 rfl C dX8_tellOne_178 ?_
    refine g_getI (pc := 179) C fl_RX8_203 t0 rfl dX8_tellOne_179 ?_
    refine g_topi (fun i44 ei44 => ?_)
    have hD := hD i44 ei44
    obtain ⟨hb, hD⟩ := hD
    refine g_iald (pc := 182) C u43 hb dX8_tellOne_182 ?_
    refine g_bipush (pc := 183) (v := 22) (by decide) C dX8_tellOne_183 ?_
    refine g_isub (pc := 185) C dX8_tellOne_185 ?_
    refine g_istore_n (pc := 186) (fun x45 => [(1, .int x45), (0, .ref o)]) C dX8_tellOne_186 rfl (by decide) rfl (fun x45 ex45 => ?_)
    have hD := hD x45 ex45
    refine g_iload_n (pc := 187) rfl 0 rfl C dX8_tellOne_187 ?_
    refine g_if_lt (pc := 188) 205 C dX8_tellOne_188 (by decide) (fun c46 => ?_) (fun c46 => ?_)
    · have hD := hD.1 c46
      refine g_sub [1, 0] rfl ?_
      exact WJ_Mo_tellOne_205 C R t0 hD
    · have hD := hD.2 c46
      refine g_aload_n (pc := 191) rfl 1 rfl C dX8_tellOne_191 ?_
      have u47 : TA Y (r o 5) 10 403 := wt_a hw t0 (by decide) (by decide) rfl
      refine g_getR (pc := 192) C fl_RX8_20 t0 rfl dX8_tellOne_192 ?_
      refine g_aload_n (pc := 195) rfl 1 rfl C dX8_tellOne_195 ?_
      refine g_getI (pc := 196) C fl_RX8_203 t0 rfl dX8_tellOne_196 ?_
      refine g_topi (fun i48 ei48 => ?_)
      have hD := hD i48 ei48
      obtain ⟨hb, hD⟩ := hD
      refine g_iald (pc := 199) C u47 hb dX8_tellOne_199 ?_
      refine g_bipush (pc := 200) (v := 24) (by decide) C dX8_tellOne_200 ?_
      refine g_icmp_le (pc := 202) 210 C dX8_tellOne_202 (by decide) (fun c49 => ?_) (fun c49 => ?_)
      · have hD := hD.1 c49
        refine g_sub [1, 0] rfl ?_
        exact WJ_Mo_tellOne_210 C R t0 hD
      · have hD := hD.2 c49
        refine g_sub [1, 0] rfl ?_
        exact WJ_Mo_tellOne_205 C R t0 hD
  have hD := hD.2 c42
  by_cases c50 : (h.1 (r o 5) i2.toNatClampNeg) = 24
  · have hD := hD.1 c50
    refine g_tswIn (pc := 9) 174 C dX8_tellOne_9 24 c50 (by decide) (by decide) rfl (by decide) ?_
    refine g_aload_n (pc := 174) rfl 0 rfl C dX8_tellOne_174 ?_
    have u51 : TA Y (r o 5) 10 403 := wt_a hw t0 (by decide) (by decide) rfl
    refine g_getR (pc := 175) C fl_RX8_20 t0 rfl dX8_tellOne_175 ?_
    refine g_aload_n (pc := 178) rfl 0 rfl C dX8_tellOne_178 ?_
    refine g_getI (pc := 179) C fl_RX8_203 t0 rfl dX8_tellOne_179 ?_
    refine g_topi (fun i52 ei52 => ?_)
    have hD := hD i52 ei52
    obtain ⟨hb, hD⟩ := hD
    refine g_iald (pc := 182) C u51 hb dX8_tellOne_182 ?_
    refine g_bipush (pc := 183) (v := 22) (by decide) C dX8_tellOne_183 ?_
    refine g_isub (pc := 185) C dX8_tellOne_185 ?_
    refine g_istore_n (pc := 186) (fun x53 => [(1, .int x53), (0, .ref o)]) C dX8_tellOne_186 rfl (by decide) rfl (fun x53 ex53 => ?_)
    have hD := hD x53 ex53
    refine g_iload_n (pc := 187) rfl 0 rfl C dX8_tellOne_187 ?_
    refine g_if_lt (pc := 188) 205 C dX8_tellOne_188 (by decide) (fun c54 => ?_) (fun c54 => ?_)
    · have hD := hD.1 c54
      refine g_sub [1, 0] rfl ?_
      exact WJ_Mo_tellOne_205 C R t0 hD
    · have hD := hD.2 c54
      refine g_aload_n (pc := 191) rfl 1 rfl C dX8_tellOne_191 ?_
      have u55 : TA Y (r o 5) 10 403 := wt_a hw t0 (by decide) (by decide) rfl
      refine g_getR (pc := 192) C fl_RX8_20 t0 rfl dX8_tellOne_192 ?_
      refine g_aload_n (pc := 195) rfl 1 rfl C dX8_tellOne_195 ?_
      refine g_getI (pc := 196) C fl_RX8_203 t0 rfl dX8_tellOne_196 ?_
      refine g_topi (fun i56 ei56 => ?_)
      have hD := hD i56 ei56
      obtain ⟨hb, hD⟩ := hD
      refine g_iald (pc := 199) C u55 hb dX8_tellOne_199 ?_
      refine g_bipush (pc := 200) (v := 24) (by decide) C dX8_tellOne_200 ?_
      refine g_icmp_le (pc := 202) 210 C dX8_tellOne_202 (by decide) (fun c57 => ?_) (fun c57 => ?_)
      · have hD := hD.1 c57
        refine g_sub [1, 0] rfl ?_
        exact WJ_Mo_tellOne_210 C R t0 hD
      · have hD := hD.2 c57
        refine g_sub [1, 0] rfl ?_
        exact WJ_Mo_tellOne_205 C R t0 hD
  have hD := hD.2 c50
  by_cases c58 : (h.1 (r o 5) i2.toNatClampNeg) = 25
  · have hD := hD.1 c58
    refine g_tswIn (pc := 9) 117 C dX8_tellOne_9 25 c58 (by decide) (by decide) rfl (by decide) ?_
    refine g_aload_n (pc := 117) rfl 0 rfl C dX8_tellOne_117 ?_
    refine g_callVv (pc := 118) (As := []) C mv_RX8_221 (M_Mo_goesOn t0 hD) t0 (by decide) rfl rfl (Nat.le_of_ble_eq_true rfl) dX8_tellOne_118 (fun h59 hD => ?_)
    refine g_aload_n (pc := 121) rfl 0 rfl C dX8_tellOne_121 ?_
    have u61 : TA Y (r o 30) 10 2 := wt_a hw t0 (by decide) (by decide) rfl
    refine g_getR (pc := 122) C fl_RX8_67 t0 rfl dX8_tellOne_122 ?_
    refine g_aload_n (pc := 125) rfl 0 rfl C dX8_tellOne_125 ?_
    refine g_getI (pc := 126) C fl_RX8_233 t0 rfl dX8_tellOne_126 ?_
    refine g_aload_n (pc := 129) rfl 0 rfl C dX8_tellOne_129 ?_
    refine g_iconst (pc := 130) (v := 0) (by decide) C dX8_tellOne_130 ?_
    refine g_bipush (pc := 131) (v := 100) (by decide) C dX8_tellOne_131 ?_
    refine g_callVi (pc := 133) (As := [.int 0, .int 100]) C mv_RX8_267 (M_Mo_bounded t0 hD) t0 (by decide) rfl rfl (Nat.le_of_ble_eq_true rfl) dX8_tellOne_133 (fun x63 h62 hD => ?_)
    obtain ⟨hb, hD⟩ := hD
    refine g_iast (pc := 136) C u61 hb dX8_tellOne_136 (fun h64 eh64 => ?_)
    have hD := hD h64 eh64
    refine g_aload_n (pc := 137) rfl 0 rfl C dX8_tellOne_137 ?_
    refine g_iconst (pc := 138) (v := 4) (by decide) C dX8_tellOne_138 ?_
    refine g_callVv (pc := 139) (As := [.int 4]) C mv_RX8_271 (M_Mo_must t0 hD) t0 (by decide) rfl rfl (Nat.le_of_ble_eq_true rfl) dX8_tellOne_139 (fun h65 hD => ?_)
    refine g_goto (pc := 142) 227 C dX8_tellOne_142 (by decide) ?_
    exact g_vret (pc := 227) C R dX8_tellOne_227 hD
  have hD := hD.2 c58
  by_cases c67 : (h.1 (r o 5) i2.toNatClampNeg) = 26
  · have hD := hD.1 c67
    refine g_tswIn (pc := 9) 145 C dX8_tellOne_9 26 c67 (by decide) (by decide) rfl (by decide) ?_
    refine g_aload_n (pc := 145) rfl 0 rfl C dX8_tellOne_145 ?_
    refine g_callVv (pc := 146) (As := []) C mv_RX8_221 (M_Mo_goesOn t0 hD) t0 (by decide) rfl rfl (Nat.le_of_ble_eq_true rfl) dX8_tellOne_146 (fun h68 hD => ?_)
    refine g_aload_n (pc := 149) rfl 0 rfl C dX8_tellOne_149 ?_
    have u70 : TA Y (r o 31) 10 2 := wt_a hw t0 (by decide) (by decide) rfl
    refine g_getR (pc := 150) C fl_RX8_70 t0 rfl dX8_tellOne_150 ?_
    refine g_aload_n (pc := 153) rfl 0 rfl C dX8_tellOne_153 ?_
    refine g_getI (pc := 154) C fl_RX8_233 t0 rfl dX8_tellOne_154 ?_
    refine g_aload_n (pc := 157) rfl 0 rfl C dX8_tellOne_157 ?_
    refine g_iconst (pc := 158) (v := 0) (by decide) C dX8_tellOne_158 ?_
    refine g_sipush (pc := 159) (v := 9999) (by decide) C dX8_tellOne_159 ?_
    refine g_callVi (pc := 162) (As := [.int 0, .int 9999]) C mv_RX8_267 (M_Mo_bounded t0 hD) t0 (by decide) rfl rfl (Nat.le_of_ble_eq_true rfl) dX8_tellOne_162 (fun x72 h71 hD => ?_)
    obtain ⟨hb, hD⟩ := hD
    refine g_iast (pc := 165) C u70 hb dX8_tellOne_165 (fun h73 eh73 => ?_)
    have hD := hD h73 eh73
    refine g_aload_n (pc := 166) rfl 0 rfl C dX8_tellOne_166 ?_
    refine g_iconst (pc := 167) (v := 4) (by decide) C dX8_tellOne_167 ?_
    refine g_callVv (pc := 168) (As := [.int 4]) C mv_RX8_271 (M_Mo_must t0 hD) t0 (by decide) rfl rfl (Nat.le_of_ble_eq_true rfl) dX8_tellOne_168 (fun h74 hD => ?_)
    refine g_goto (pc := 171) 227 C dX8_tellOne_171 (by decide) ?_
    exact g_vret (pc := 227) C R dX8_tellOne_227 hD
  have hD := hD.2 c67
  have nc3 : ¬ ((h.1 (r o 5) i2.toNatClampNeg)).toInt = 20 := tsw_ne c3
  have nc15 : ¬ ((h.1 (r o 5) i2.toNatClampNeg)).toInt = 21 := tsw_ne c15
  have nc27 : ¬ ((h.1 (r o 5) i2.toNatClampNeg)).toInt = 22 := tsw_ne c27
  have nc42 : ¬ ((h.1 (r o 5) i2.toNatClampNeg)).toInt = 23 := tsw_ne c42
  have nc50 : ¬ ((h.1 (r o 5) i2.toNatClampNeg)).toInt = 24 := tsw_ne c50
  have nc58 : ¬ ((h.1 (r o 5) i2.toNatClampNeg)).toInt = 25 := tsw_ne c58
  have nc67 : ¬ ((h.1 (r o 5) i2.toNatClampNeg)).toInt = 26 := tsw_ne c67
  refine g_tswOut (pc := 9) 174 C dX8_tellOne_9 (by omega) (by decide) ?_
  refine g_aload_n (pc := 174) rfl 0 rfl C dX8_tellOne_174 ?_
  have u76 : TA Y (r o 5) 10 403 := wt_a hw t0 (by decide) (by decide) rfl
  refine g_getR (pc := 175) C fl_RX8_20 t0 rfl dX8_tellOne_175 ?_
  refine g_aload_n (pc := 178) rfl 0 rfl C dX8_tellOne_178 ?_
  refine g_getI (pc := 179) C fl_RX8_203 t0 rfl dX8_tellOne_179 ?_
  refine g_topi (fun i77 ei77 => ?_)
  have hD := hD i77 ei77
  obtain ⟨hb, hD⟩ := hD
  refine g_iald (pc := 182) C u76 hb dX8_tellOne_182 ?_
  refine g_bipush (pc := 183) (v := 22) (by decide) C dX8_tellOne_183 ?_
  refine g_isub (pc := 185) C dX8_tellOne_185 ?_
  refine g_istore_n (pc := 186) (fun x78 => [(1, .int x78), (0, .ref o)]) C dX8_tellOne_186 rfl (by decide) rfl (fun x78 ex78 => ?_)
  have hD := hD x78 ex78
  refine g_iload_n (pc := 187) rfl 0 rfl C dX8_tellOne_187 ?_
  refine g_if_lt (pc := 188) 205 C dX8_tellOne_188 (by decide) (fun c79 => ?_) (fun c79 => ?_)
  · have hD := hD.1 c79
    refine g_sub [1, 0] rfl ?_
    exact WJ_Mo_tellOne_205 C R t0 hD
  · have hD := hD.2 c79
    refine g_aload_n (pc := 191) rfl 1 rfl C dX8_tellOne_191 ?_
    have u80 : TA Y (r o 5) 10 403 := wt_a hw t0 (by decide) (by decide) rfl
    refine g_getR (pc := 192) C fl_RX8_20 t0 rfl dX8_tellOne_192 ?_
    refine g_aload_n (pc := 195) rfl 1 rfl C dX8_tellOne_195 ?_
    refine g_getI (pc := 196) C fl_RX8_203 t0 rfl dX8_tellOne_196 ?_
    refine g_topi (fun i81 ei81 => ?_)
    have hD := hD i81 ei81
    obtain ⟨hb, hD⟩ := hD
    refine g_iald (pc := 199) C u80 hb dX8_tellOne_199 ?_
    refine g_bipush (pc := 200) (v := 24) (by decide) C dX8_tellOne_200 ?_
    refine g_icmp_le (pc := 202) 210 C dX8_tellOne_202 (by decide) (fun c82 => ?_) (fun c82 => ?_)
    · have hD := hD.1 c82
      refine g_sub [1, 0] rfl ?_
      exact WJ_Mo_tellOne_210 C R t0 hD
    · have hD := hD.2 c82
      refine g_sub [1, 0] rfl ?_
      exact WJ_Mo_tellOne_205 C R t0 hD
def DB_Mo_read_10 (r : TR) (l0 : Nat) (l1 : Int32) (h : TH) (K10 : Int32 → TH → Prop) (K36 : TH → Prop) (Q : Int32 → TH → Prop) : Prop :=
  (((h.1 l0 4) ≤ l1 → K36 h) ∧ (¬ (h.1 l0 4) ≤ l1 → vp_in l1 2000 ∧ vp_in l1 2000 ∧ ∀ h6, h6 = pI h (r l0 3) l1.toNatClampNeg (vp_nar .byte (h.1 (r l0 1) l1.toNatClampNeg)) → ∀ x7 : Int32, x7 = l1 + 1 → K10 x7 h6))
set_option maxRecDepth 100000 in
set_option maxHeartbeats 4000000 in
theorem WB_Mo_read_10 {Y : CG} {X : CX} {r : TR} {l0 : Nat} {l1 : Int32} {h : TH} {K10 : Int32 → TH → Prop} {K36 : TH → Prop} {Q : Int32 → TH → Prop} (C : Gd Y X cX8_read 2 RX8 8) (R : Ri Y r X .int Q) (t0 : TO Y l0 8) (hK10 : ∀ (k1 : Int32) (hh : TH), K10 k1 hh → G Y X 2 10 [(0, .ref l0), (1, .int k1)] [] r hh) (hK36 : ∀ (hh : TH), K36 hh → G Y X 2 36 [(0, .ref l0)] [] r hh) (hD : DB_Mo_read_10 r l0 l1 h K10 K36 Q) : G Y X 2 10 [(0, .ref l0), (1, .int l1)] [] r h := by
  unfold DB_Mo_read_10 at hD
  refine g_wt (fun hw => ?_)
  refine g_iload_n (pc := 10) rfl 1 rfl C dX8_read_10 ?_
  refine g_aload_n (pc := 11) rfl 0 rfl C dX8_read_11 ?_
  refine g_getI (pc := 12) C fl_RX8_169 t0 rfl dX8_read_12 ?_
  refine g_icmp_ge (pc := 15) 36 C dX8_read_15 (by decide) (fun c3 => ?_) (fun c3 => ?_)
  · have hD := hD.1 c3
    refine g_sub [0] rfl ?_
    exact hK36 h hD
  · have hD := hD.2 c3
    refine g_aload_n (pc := 18) rfl 0 rfl C dX8_read_18 ?_
    have u4 : TA Y (r l0 3) 9 2000 := wt_a hw t0 (by decide) (by decide) rfl
    refine g_getR (pc := 19) C fl_RX8_17 t0 rfl dX8_read_19 ?_
    refine g_iload_n (pc := 22) rfl 1 rfl C dX8_read_22 ?_
    refine g_aload_n (pc := 23) rfl 0 rfl C dX8_read_23 ?_
    have u5 : TA Y (r l0 1) 9 2000 := wt_a hw t0 (by decide) (by decide) rfl
    refine g_getR (pc := 24) C fl_RX8_13 t0 rfl dX8_read_24 ?_
    refine g_iload_n (pc := 27) rfl 1 rfl C dX8_read_27 ?_
    obtain ⟨hb, hD⟩ := hD
    refine g_bald (pc := 28) C u5 hb dX8_read_28 ?_
    obtain ⟨hb, hD⟩ := hD
    refine g_bast (pc := 29) C u4 hb dX8_read_29 (fun h6 eh6 => ?_)
    have hD := hD h6 eh6
    refine g_iinc (pc := 30) (q := 1) (c := 1) (fun x7 => [(1, .int x7), (0, .ref l0)]) C dX8_read_30 rfl (by decide) (by decide) rfl (fun x7 ex7 => ?_)
    have hD := hD x7 ex7
    refine g_goto (pc := 33) 10 C dX8_read_33 (by decide) ?_
    refine g_sub [1, 0] rfl ?_
    exact hK10 x7 h6 hD
def DB_Mo_read_112 (r : TR) (l0 : Nat) (h : TH) (K112 : TH → Prop) (K134 : TH → Prop) (Q : Int32 → TH → Prop) : Prop :=
  ((¬ (h.1 l0 13) = 0 → K134 h) ∧ ((h.1 l0 13) = 0 → D_Mo_is r l0 0 h (fun x26 h25 => ((¬ x26 = 0 → K134 h25) ∧ (x26 = 0 → D_Mo_tellOne r l0 h25 (fun h28 => K112 h28))))))
set_option maxRecDepth 100000 in
set_option maxHeartbeats 4000000 in
theorem WB_Mo_read_112 {Y : CG} {X : CX} {r : TR} {l0 : Nat} {h : TH} {K112 : TH → Prop} {K134 : TH → Prop} {Q : Int32 → TH → Prop} (C : Gd Y X cX8_read 2 RX8 8) (R : Ri Y r X .int Q) (t0 : TO Y l0 8) (hK112 : ∀ (hh : TH), K112 hh → G Y X 2 112 [(0, .ref l0)] [] r hh) (hK134 : ∀ (hh : TH), K134 hh → G Y X 2 134 [(0, .ref l0)] [] r hh) (hD : DB_Mo_read_112 r l0 h K112 K134 Q) : G Y X 2 112 [(0, .ref l0)] [] r h := by
  unfold DB_Mo_read_112 at hD
  refine g_wt (fun hw => ?_)
  refine g_aload_n (pc := 112) rfl 0 rfl C dX8_read_112 ?_
  refine g_getI (pc := 113) C fl_RX8_200 t0 rfl dX8_read_113 ?_
  refine g_if_ne (pc := 116) 134 C dX8_read_116 (by decide) (fun c24 => ?_) (fun c24 => ?_)
  · have hD := hD.1 c24
    refine g_sub [0] rfl ?_
    exact hK134 h hD
  · have hD := hD.2 c24
    refine g_aload_n (pc := 119) rfl 0 rfl C dX8_read_119 ?_
    refine g_iconst (pc := 120) (v := 0) (by decide) C dX8_read_120 ?_
    refine g_callVi (pc := 121) (As := [.int 0]) C mv_RX8_218 (M_Mo_is t0 hD) t0 (by decide) rfl rfl (Nat.le_of_ble_eq_true rfl) dX8_read_121 (fun x26 h25 hD => ?_)
    refine g_if_ne (pc := 124) 134 C dX8_read_124 (by decide) (fun c27 => ?_) (fun c27 => ?_)
    · have hD := hD.1 c27
      refine g_sub [0] rfl ?_
      exact hK134 h25 hD
    · have hD := hD.2 c27
      refine g_aload_n (pc := 127) rfl 0 rfl C dX8_read_127 ?_
      refine g_callVv (pc := 128) (As := []) C mv_RX8_245 (M_Mo_tellOne t0 hD) t0 (by decide) rfl rfl (Nat.le_of_ble_eq_true rfl) dX8_read_128 (fun h28 hD => ?_)
      refine g_goto (pc := 131) 112 C dX8_read_131 (by decide) ?_
      refine g_sub [0] rfl ?_
      exact hK112 h28 hD
def DB_Mo_read_136 (r : TR) (l0 : Nat) (l1 : Int32) (h : TH) (K136 : Int32 → TH → Prop) (K180 : TH → Prop) (Q : Int32 → TH → Prop) : Prop :=
  ∀ i34 : Int32, i34 = h.1 l0 19 → vp_in i34 2 ∧ (((h.1 (r l0 25) i34.toNatClampNeg) ≤ l1 → K180 h) ∧ (¬ (h.1 (r l0 25) i34.toNatClampNeg) ≤ l1 → ((¬ (h.1 l0 13) = 0 → K180 h) ∧ ((h.1 l0 13) = 0 → D_Mo_isAfloat r l0 l1 h (fun x38 h37 => ((¬ x38 = 0 → ∀ x40 : Int32, x40 = l1 + 1 → K136 x40 h37) ∧ (x38 = 0 → D_Mo_wrong r l0 6 (h37.1 l0 11) h37 (fun h41 => ∀ x43 : Int32, x43 = l1 + 1 → K136 x43 h41))))))))
set_option maxRecDepth 100000 in
set_option maxHeartbeats 4000000 in
theorem WB_Mo_read_136 {Y : CG} {X : CX} {r : TR} {l0 : Nat} {l1 : Int32} {h : TH} {K136 : Int32 → TH → Prop} {K180 : TH → Prop} {Q : Int32 → TH → Prop} (C : Gd Y X cX8_read 2 RX8 8) (R : Ri Y r X .int Q) (t0 : TO Y l0 8) (hK136 : ∀ (k1 : Int32) (hh : TH), K136 k1 hh → G Y X 2 136 [(0, .ref l0), (1, .int k1)] [] r hh) (hK180 : ∀ (hh : TH), K180 hh → G Y X 2 180 [(0, .ref l0)] [] r hh) (hD : DB_Mo_read_136 r l0 l1 h K136 K180 Q) : G Y X 2 136 [(0, .ref l0), (1, .int l1)] [] r h := by
  unfold DB_Mo_read_136 at hD
  refine g_wt (fun hw => ?_)
  refine g_iload_n (pc := 136) rfl 1 rfl C dX8_read_136 ?_
  refine g_aload_n (pc := 137) rfl 0 rfl C dX8_read_137 ?_
  have u33 : TA Y (r l0 25) 10 2 := wt_a hw t0 (by decide) (by decide) rfl
  refine g_getR (pc := 138) C fl_RX8_52 t0 rfl dX8_read_138 ?_
  refine g_aload_n (pc := 141) rfl 0 rfl C dX8_read_141 ?_
  refine g_getI (pc := 142) C fl_RX8_233 t0 rfl dX8_read_142 ?_
  refine g_topi (fun i34 ei34 => ?_)
  have hD := hD i34 ei34
  obtain ⟨hb, hD⟩ := hD
  refine g_iald (pc := 145) C u33 hb dX8_read_145 ?_
  refine g_icmp_ge (pc := 146) 180 C dX8_read_146 (by decide) (fun c35 => ?_) (fun c35 => ?_)
  · have hD := hD.1 c35
    refine g_sub [0] rfl ?_
    exact hK180 h hD
  · have hD := hD.2 c35
    refine g_aload_n (pc := 149) rfl 0 rfl C dX8_read_149 ?_
    refine g_getI (pc := 150) C fl_RX8_200 t0 rfl dX8_read_150 ?_
    refine g_if_ne (pc := 153) 180 C dX8_read_153 (by decide) (fun c36 => ?_) (fun c36 => ?_)
    · have hD := hD.1 c36
      refine g_sub [0] rfl ?_
      exact hK180 h hD
    · have hD := hD.2 c36
      refine g_aload_n (pc := 156) rfl 0 rfl C dX8_read_156 ?_
      refine g_iload_n (pc := 157) rfl 1 rfl C dX8_read_157 ?_
      refine g_callVi (pc := 158) (As := [.int l1]) C mv_RX8_248 (M_Mo_isAfloat t0 hD) t0 (by decide) rfl rfl (Nat.le_of_ble_eq_true rfl) dX8_read_158 (fun x38 h37 hD => ?_)
      refine g_if_ne (pc := 161) 174 C dX8_read_161 (by decide) (fun c39 => ?_) (fun c39 => ?_)
      · have hD := hD.1 c39
        refine g_iinc (pc := 174) (q := 1) (c := 1) (fun x40 => [(1, .int x40), (0, .ref l0)]) C dX8_read_174 rfl (by decide) (by decide) rfl (fun x40 ex40 => ?_)
        have hD := hD x40 ex40
        refine g_goto (pc := 177) 136 C dX8_read_177 (by decide) ?_
        refine g_sub [1, 0] rfl ?_
        exact hK136 x40 h37 hD
      · have hD := hD.2 c39
        refine g_aload_n (pc := 164) rfl 0 rfl C dX8_read_164 ?_
        refine g_bipush (pc := 165) (v := 6) (by decide) C dX8_read_165 ?_
        refine g_aload_n (pc := 167) rfl 0 rfl C dX8_read_167 ?_
        refine g_getI (pc := 168) C fl_RX8_203 t0 rfl dX8_read_168 ?_
        refine g_callVv (pc := 171) (As := [.int 6, .int (h37.1 l0 11)]) C mv_RX8_251 (M_Mo_wrong t0 hD) t0 (by decide) rfl rfl (Nat.le_of_ble_eq_true rfl) dX8_read_171 (fun h41 hD => ?_)
        refine g_iinc (pc := 174) (q := 1) (c := 1) (fun x43 => [(1, .int x43), (0, .ref l0)]) C dX8_read_174 rfl (by decide) (by decide) rfl (fun x43 ex43 => ?_)
        have hD := hD x43 ex43
        refine g_goto (pc := 177) 136 C dX8_read_177 (by decide) ?_
        refine g_sub [1, 0] rfl ?_
        exact hK136 x43 h41 hD
def DB_Mo_read_265 (r : TR) (l0 : Nat) (l1 : Int32) (h : TH) (K265 : Int32 → TH → Prop) (K283 : TH → Prop) (Q : Int32 → TH → Prop) : Prop :=
  ((3 ≤ l1 → K283 h) ∧ (¬ 3 ≤ l1 → vp_in l1 3 ∧ ∀ h62, h62 = pI h (r l0 64) l1.toNatClampNeg (vp_nar .boolean 0) → ∀ x63 : Int32, x63 = l1 + 1 → K265 x63 h62))
set_option maxRecDepth 100000 in
set_option maxHeartbeats 4000000 in
theorem WB_Mo_read_265 {Y : CG} {X : CX} {r : TR} {l0 : Nat} {l1 : Int32} {h : TH} {K265 : Int32 → TH → Prop} {K283 : TH → Prop} {Q : Int32 → TH → Prop} (C : Gd Y X cX8_read 2 RX8 8) (R : Ri Y r X .int Q) (t0 : TO Y l0 8) (hK265 : ∀ (k1 : Int32) (hh : TH), K265 k1 hh → G Y X 2 265 [(0, .ref l0), (1, .int k1)] [] r hh) (hK283 : ∀ (hh : TH), K283 hh → G Y X 2 283 [] [] r hh) (hD : DB_Mo_read_265 r l0 l1 h K265 K283 Q) : G Y X 2 265 [(0, .ref l0), (1, .int l1)] [] r h := by
  unfold DB_Mo_read_265 at hD
  refine g_wt (fun hw => ?_)
  refine g_iload_n (pc := 265) rfl 1 rfl C dX8_read_265 ?_
  refine g_iconst (pc := 266) (v := 3) (by decide) C dX8_read_266 ?_
  refine g_icmp_ge (pc := 267) 283 C dX8_read_267 (by decide) (fun c60 => ?_) (fun c60 => ?_)
  · have hD := hD.1 c60
    refine g_sub [] rfl ?_
    exact hK283 h hD
  · have hD := hD.2 c60
    refine g_aload_n (pc := 270) rfl 0 rfl C dX8_read_270 ?_
    have u61 : TA Y (r l0 64) 12 3 := wt_a hw t0 (by decide) (by decide) rfl
    refine g_getR (pc := 271) C fl_RX8_143 t0 rfl dX8_read_271 ?_
    refine g_iload_n (pc := 274) rfl 1 rfl C dX8_read_274 ?_
    refine g_iconst (pc := 275) (v := 0) (by decide) C dX8_read_275 ?_
    obtain ⟨hb, hD⟩ := hD
    refine g_zast (pc := 276) C u61 hb dX8_read_276 (fun h62 eh62 => ?_)
    have hD := hD h62 eh62
    refine g_iinc (pc := 277) (q := 1) (c := 1) (fun x63 => [(1, .int x63), (0, .ref l0)]) C dX8_read_277 rfl (by decide) (by decide) rfl (fun x63 ex63 => ?_)
    have hD := hD x63 ex63
    refine g_goto (pc := 280) 265 C dX8_read_280 (by decide) ?_
    refine g_sub [1, 0] rfl ?_
    exact hK265 x63 h62 hD
def DJ_Mo_read_210 (r : TR) (l0 : Nat) (s0 : Int32) (s1 : Nat) (h : TH) (Q : Int32 → TH → Prop) : Prop :=
  ∀ h49, h49 = pI h s1 17 s0 → (((h49.1 l0 13) ≤ 0 → (((h49.1 l0 15) ≤ 0 → ∀ h52, h52 = pI h49 l0 18 (h49.1 l0 19) → D_Mo_begins r l0 h52 (fun h53 => D_Mo_keepsRow r l0 h53 (fun h55 => ∀ h57, h57 = pI h55 l0 54 0 → ∀ h58, h58 = pI h57 l0 60 0 → ∃ n, lp (fun (K : Int32 × TH → Prop) (s : Int32 × TH) => DB_Mo_read_265 r l0 s.1 s.2 (fun y64 h65 => K (y64, h65)) (fun h66 => Q 0 h66) Q) n (0, h58)))) ∧ (¬ (h49.1 l0 15) ≤ 0 → Q (h49.1 l0 15) h49))) ∧ (¬ (h49.1 l0 13) ≤ 0 → Q (h49.1 l0 13) h49))
set_option maxRecDepth 100000 in
set_option maxHeartbeats 4000000 in
theorem WJ_Mo_read_210 {Y : CG} {X : CX} {r : TR} {l0 : Nat} {s0 : Int32} {s1 : Nat} {h : TH} {Q : Int32 → TH → Prop} (C : Gd Y X cX8_read 2 RX8 8) (R : Ri Y r X .int Q) (t0 : TO Y l0 8) (ts1 : TO Y s1 8) (hD : DJ_Mo_read_210 r l0 s0 s1 h  Q) : G Y X 2 210 [(0, .ref l0)] [.int s0, .ref s1] r h := by
  unfold DJ_Mo_read_210 at hD
  refine g_wt (fun hw => ?_)
  refine g_putI (pc := 210) C fl_RX8_37 ts1 rfl rfl rfl dX8_read_210 (fun h49 eh49 => ?_)
  have hD := hD h49 eh49
  refine g_aload_n (pc := 213) rfl 0 rfl C dX8_read_213 ?_
  refine g_getI (pc := 214) C fl_RX8_200 t0 rfl dX8_read_214 ?_
  refine g_if_le (pc := 217) 225 C dX8_read_217 (by decide) (fun c50 => ?_) (fun c50 => ?_)
  · have hD := hD.1 c50
    refine g_aload_n (pc := 225) rfl 0 rfl C dX8_read_225 ?_
    refine g_getI (pc := 226) C fl_RX8_209 t0 rfl dX8_read_226 ?_
    refine g_if_le (pc := 229) 237 C dX8_read_229 (by decide) (fun c51 => ?_) (fun c51 => ?_)
    · have hD := hD.1 c51
      refine g_aload_n (pc := 237) rfl 0 rfl C dX8_read_237 ?_
      refine g_aload_n (pc := 238) rfl 0 rfl C dX8_read_238 ?_
      refine g_getI (pc := 239) C fl_RX8_233 t0 rfl dX8_read_239 ?_
      refine g_putI (pc := 242) C fl_RX8_230 t0 rfl rfl rfl dX8_read_242 (fun h52 eh52 => ?_)
      have hD := hD h52 eh52
      refine g_aload_n (pc := 245) rfl 0 rfl C dX8_read_245 ?_
      refine g_callVv (pc := 246) (As := []) C mv_RX8_157 (M_Mo_begins t0 hD) t0 (by decide) rfl rfl (Nat.le_of_ble_eq_true rfl) dX8_read_246 (fun h53 hD => ?_)
      refine g_aload_n (pc := 249) rfl 0 rfl C dX8_read_249 ?_
      refine g_callVv (pc := 250) (As := []) C mv_RX8_160 (M_Mo_keepsRow t0 hD) t0 (by decide) rfl rfl (Nat.le_of_ble_eq_true rfl) dX8_read_250 (fun h55 hD => ?_)
      refine g_aload_n (pc := 253) rfl 0 rfl C dX8_read_253 ?_
      refine g_iconst (pc := 254) (v := 0) (by decide) C dX8_read_254 ?_
      refine g_putI (pc := 255) C fl_RX8_255 t0 rfl rfl rfl dX8_read_255 (fun h57 eh57 => ?_)
      have hD := hD h57 eh57
      refine g_aload_n (pc := 258) rfl 0 rfl C dX8_read_258 ?_
      refine g_iconst (pc := 259) (v := 0) (by decide) C dX8_read_259 ?_
      refine g_putI (pc := 260) C fl_RX8_258 t0 rfl rfl rfl dX8_read_260 (fun h58 eh58 => ?_)
      have hD := hD h58 eh58
      refine g_iconst (pc := 263) (v := 0) (by decide) C dX8_read_263 ?_
      refine g_istore_n (pc := 264) (fun _ => [(1, .int 0), (0, .ref l0)]) C dX8_read_264 rfl (by decide) rfl (fun _ _ => ?_)
      obtain ⟨n, hD⟩ := hD
      refine g_sub [1, 0] rfl ?_
      refine lp_run (fun s : Int32 × TH => G Y X 2 265 [(0, .ref l0), (1, .int s.1)] [] r s.2) (fun K s hB hK => ?_) n (0, h58) hD
      refine WB_Mo_read_265 C R t0 (fun y64 h65 hk => hK _ hk) (fun h66 hD => ?_) hB
      · refine g_iconst (pc := 283) (v := 0) (by decide) C dX8_read_283 ?_
        exact g_iret (pc := 284) C R dX8_read_284 hD
    · have hD := hD.2 c51
      refine g_aload_n (pc := 232) rfl 0 rfl C dX8_read_232 ?_
      refine g_getI (pc := 233) C fl_RX8_209 t0 rfl dX8_read_233 ?_
      exact g_iret (pc := 236) C R dX8_read_236 hD
  · have hD := hD.2 c50
    refine g_aload_n (pc := 220) rfl 0 rfl C dX8_read_220 ?_
    refine g_getI (pc := 221) C fl_RX8_200 t0 rfl dX8_read_221 ?_
    exact g_iret (pc := 224) C R dX8_read_224 hD
def DJ_Mo_read_180 (r : TR) (l0 : Nat) (h : TH) (Q : Int32 → TH → Prop) : Prop :=
  (((h.1 l0 13) ≤ 0 → (((h.1 l0 15) ≤ 0 → DJ_Mo_read_210 r l0 (-1) l0 h Q) ∧ (¬ (h.1 l0 15) ≤ 0 → DJ_Mo_read_210 r l0 (h.1 l0 16) l0 h Q))) ∧ (¬ (h.1 l0 13) ≤ 0 → DJ_Mo_read_210 r l0 (h.1 l0 14) l0 h Q))
set_option maxRecDepth 100000 in
set_option maxHeartbeats 4000000 in
theorem WJ_Mo_read_180 {Y : CG} {X : CX} {r : TR} {l0 : Nat} {h : TH} {Q : Int32 → TH → Prop} (C : Gd Y X cX8_read 2 RX8 8) (R : Ri Y r X .int Q) (t0 : TO Y l0 8) (hD : DJ_Mo_read_180 r l0 h  Q) : G Y X 2 180 [(0, .ref l0)] [] r h := by
  unfold DJ_Mo_read_180 at hD
  refine g_wt (fun hw => ?_)
  refine g_aload_n (pc := 180) rfl 0 rfl C dX8_read_180 ?_
  refine g_aload_n (pc := 181) rfl 0 rfl C dX8_read_181 ?_
  refine g_getI (pc := 182) C fl_RX8_200 t0 rfl dX8_read_182 ?_
  refine g_if_le (pc := 185) 195 C dX8_read_185 (by decide) (fun c47 => ?_) (fun c47 => ?_)
  · have hD := hD.1 c47
    refine g_aload_n (pc := 195) rfl 0 rfl C dX8_read_195 ?_
    refine g_getI (pc := 196) C fl_RX8_209 t0 rfl dX8_read_196 ?_
    refine g_if_le (pc := 199) 209 C dX8_read_199 (by decide) (fun c48 => ?_) (fun c48 => ?_)
    · have hD := hD.1 c48
      refine g_iconst (pc := 209) (v := (-1)) (by decide) C dX8_read_209 ?_
      refine g_sub [0] rfl ?_
      exact WJ_Mo_read_210 C R t0 t0 hD
    · have hD := hD.2 c48
      refine g_aload_n (pc := 202) rfl 0 rfl C dX8_read_202 ?_
      refine g_getI (pc := 203) C fl_RX8_212 t0 rfl dX8_read_203 ?_
      refine g_goto (pc := 206) 210 C dX8_read_206 (by decide) ?_
      refine g_sub [0] rfl ?_
      exact WJ_Mo_read_210 C R t0 t0 hD
  · have hD := hD.2 c47
    refine g_aload_n (pc := 188) rfl 0 rfl C dX8_read_188 ?_
    refine g_getI (pc := 189) C fl_RX8_206 t0 rfl dX8_read_189 ?_
    refine g_goto (pc := 192) 210 C dX8_read_192 (by decide) ?_
    refine g_sub [0] rfl ?_
    exact WJ_Mo_read_210 C R t0 t0 hD
def D_Mo_read (r : TR) (o : Nat) (h : TH) (Q : Int32 → TH → Prop) : Prop :=
  ∀ h1, h1 = pI h o 4 (h.1 o 2) → ∃ n, lp (fun (K : Int32 × TH → Prop) (s : Int32 × TH) => DB_Mo_read_10 r o s.1 s.2 (fun y8 h9 => K (y8, h9)) (fun h10 => ∀ h11, h11 = pI h10 o 2 0 → D_Mo_cut r o h11 (fun h12 => ∀ h14, h14 = pI h12 o 11 0 → ∀ h15, h15 = pI h14 o 12 0 → ∀ h16, h16 = pI h15 o 13 0 → ∀ h17, h17 = pI h16 o 15 0 → ∀ h18, h18 = pI h17 o 19 (1 - (h17.1 o 18)) → ∀ h19, h19 = pI h18 o 20 0 → D_Mo_plain r o (h19.1 o 19) h19 (fun h20 => ∀ h22, h22 = pI h20 o 34 (130 * (h20.1 o 19)) → ∀ h23, h23 = pI h22 o 40 (420 * (h22.1 o 19)) → ∃ n, lp (fun (K : TH → Prop) (s : TH) => DB_Mo_read_112 r o s (fun h30 => K h30) (fun h31 => ∃ n, lp (fun (K : Int32 × TH → Prop) (s : Int32 × TH) => DB_Mo_read_136 r o s.1 s.2 (fun y44 h45 => K (y44, h45)) (fun h46 => DJ_Mo_read_180 r o h46 Q) Q) n (0, h31)) Q) n h23))) Q) n (0, h1)
set_option maxRecDepth 100000 in
set_option maxHeartbeats 4000000 in
theorem M_Mo_read {Y : CG} {r : TR} {l : Launch} {o : Nat} {h : TH} {Q : Int32 → TH → Prop} (t0 : TO Y o 8) (hD : D_Mo_read r o h Q) : Mi Y r l yX8_read cX8_read 2 .int 8 [.ref o] h Q := by
  unfold D_Mo_read at hD
  refine Mi.of RX8 rfl (by decide) (by simp [lg_sl, Value.category]) [(0, .ref o)] rfl (fun X hXl C R => ?_)
  subst hXl
  refine g_wt (fun hw => ?_)
  refine g_aload_n (pc := 0) rfl 0 rfl C dX8_read_0 ?_
  refine g_aload_n (pc := 1) rfl 0 rfl C dX8_read_1 ?_
  refine g_getI (pc := 2) C fl_RX8_163 t0 rfl dX8_read_2 ?_
  refine g_putI (pc := 5) C fl_RX8_169 t0 rfl rfl rfl dX8_read_5 (fun h1 eh1 => ?_)
  have hD := hD h1 eh1
  refine g_iconst (pc := 8) (v := 0) (by decide) C dX8_read_8 ?_
  refine g_istore_n (pc := 9) (fun _ => [(1, .int 0), (0, .ref o)]) C dX8_read_9 rfl (by decide) rfl (fun _ _ => ?_)
  obtain ⟨n, hD⟩ := hD
  refine g_sub [1, 0] rfl ?_
  refine lp_run (fun s : Int32 × TH => G Y X 2 10 [(0, .ref o), (1, .int s.1)] [] r s.2) (fun K s hB hK => ?_) n (0, h1) hD
  refine WB_Mo_read_10 C R t0 (fun y8 h9 hk => hK _ hk) (fun h10 hD => ?_) hB
  · refine g_aload_n (pc := 36) rfl 0 rfl C dX8_read_36 ?_
    refine g_iconst (pc := 37) (v := 0) (by decide) C dX8_read_37 ?_
    refine g_putI (pc := 38) C fl_RX8_163 t0 rfl rfl rfl dX8_read_38 (fun h11 eh11 => ?_)
    have hD := hD h11 eh11
    refine g_aload_n (pc := 41) rfl 0 rfl C dX8_read_41 ?_
    refine g_callVv (pc := 42) (As := []) C mv_RX8_224 (M_Mo_cut t0 hD) t0 (by decide) rfl rfl (Nat.le_of_ble_eq_true rfl) dX8_read_42 (fun h12 hD => ?_)
    refine g_aload_n (pc := 45) rfl 0 rfl C dX8_read_45 ?_
    refine g_iconst (pc := 46) (v := 0) (by decide) C dX8_read_46 ?_
    refine g_putI (pc := 47) C fl_RX8_203 t0 rfl rfl rfl dX8_read_47 (fun h14 eh14 => ?_)
    have hD := hD h14 eh14
    refine g_aload_n (pc := 50) rfl 0 rfl C dX8_read_50 ?_
    refine g_iconst (pc := 51) (v := 0) (by decide) C dX8_read_51 ?_
    refine g_putI (pc := 52) C fl_RX8_227 t0 rfl rfl rfl dX8_read_52 (fun h15 eh15 => ?_)
    have hD := hD h15 eh15
    refine g_aload_n (pc := 55) rfl 0 rfl C dX8_read_55 ?_
    refine g_iconst (pc := 56) (v := 0) (by decide) C dX8_read_56 ?_
    refine g_putI (pc := 57) C fl_RX8_200 t0 rfl rfl rfl dX8_read_57 (fun h16 eh16 => ?_)
    have hD := hD h16 eh16
    refine g_aload_n (pc := 60) rfl 0 rfl C dX8_read_60 ?_
    refine g_iconst (pc := 61) (v := 0) (by decide) C dX8_read_61 ?_
    refine g_putI (pc := 62) C fl_RX8_209 t0 rfl rfl rfl dX8_read_62 (fun h17 eh17 => ?_)
    have hD := hD h17 eh17
    refine g_aload_n (pc := 65) rfl 0 rfl C dX8_read_65 ?_
    refine g_iconst (pc := 66) (v := 1) (by decide) C dX8_read_66 ?_
    refine g_aload_n (pc := 67) rfl 0 rfl C dX8_read_67 ?_
    refine g_getI (pc := 68) C fl_RX8_230 t0 rfl dX8_read_68 ?_
    refine g_isub (pc := 71) C dX8_read_71 ?_
    refine g_putI (pc := 72) C fl_RX8_233 t0 rfl rfl rfl dX8_read_72 (fun h18 eh18 => ?_)
    have hD := hD h18 eh18
    refine g_aload_n (pc := 75) rfl 0 rfl C dX8_read_75 ?_
    refine g_iconst (pc := 76) (v := 0) (by decide) C dX8_read_76 ?_
    refine g_putI (pc := 77) C fl_RX8_236 t0 rfl rfl rfl dX8_read_77 (fun h19 eh19 => ?_)
    have hD := hD h19 eh19
    refine g_aload_n (pc := 80) rfl 0 rfl C dX8_read_80 ?_
    refine g_aload_n (pc := 81) rfl 0 rfl C dX8_read_81 ?_
    refine g_getI (pc := 82) C fl_RX8_233 t0 rfl dX8_read_82 ?_
    refine g_callVv (pc := 85) (As := [.int (h19.1 o 19)]) C mv_RX8_149 (M_Mo_plain t0 hD) t0 (by decide) rfl rfl (Nat.le_of_ble_eq_true rfl) dX8_read_85 (fun h20 hD => ?_)
    refine g_aload_n (pc := 88) rfl 0 rfl C dX8_read_88 ?_
    refine g_sipush (pc := 89) (v := 130) (by decide) C dX8_read_89 ?_
    refine g_aload_n (pc := 92) rfl 0 rfl C dX8_read_92 ?_
    refine g_getI (pc := 93) C fl_RX8_233 t0 rfl dX8_read_93 ?_
    refine g_imul (pc := 96) C dX8_read_96 ?_
    refine g_putI (pc := 97) C fl_RX8_239 t0 rfl rfl rfl dX8_read_97 (fun h22 eh22 => ?_)
    have hD := hD h22 eh22
    refine g_aload_n (pc := 100) rfl 0 rfl C dX8_read_100 ?_
    refine g_sipush (pc := 101) (v := 420) (by decide) C dX8_read_101 ?_
    refine g_aload_n (pc := 104) rfl 0 rfl C dX8_read_104 ?_
    refine g_getI (pc := 105) C fl_RX8_233 t0 rfl dX8_read_105 ?_
    refine g_imul (pc := 108) C dX8_read_108 ?_
    refine g_putI (pc := 109) C fl_RX8_242 t0 rfl rfl rfl dX8_read_109 (fun h23 eh23 => ?_)
    have hD := hD h23 eh23
    obtain ⟨n, hD⟩ := hD
    refine g_sub [0] rfl ?_
    refine lp_run (fun s : TH => G Y X 2 112 [(0, .ref o)] [] r s) (fun K s hB hK => ?_) n h23 hD
    refine WB_Mo_read_112 C R t0 (fun h30 hk => hK _ hk) (fun h31 hD => ?_) hB
    · refine g_iconst (pc := 134) (v := 0) (by decide) C dX8_read_134 ?_
      refine g_istore_n (pc := 135) (fun _ => [(1, .int 0), (0, .ref o)]) C dX8_read_135 rfl (by decide) rfl (fun _ _ => ?_)
      obtain ⟨n, hD⟩ := hD
      refine g_sub [1, 0] rfl ?_
      refine lp_run (fun s : Int32 × TH => G Y X 2 136 [(0, .ref o), (1, .int s.1)] [] r s.2) (fun K s hB hK => ?_) n (0, h31) hD
      refine WB_Mo_read_136 C R t0 (fun y44 h45 hk => hK _ hk) (fun h46 hD => ?_) hB
      · refine g_sub [0] rfl ?_
        exact WJ_Mo_read_180 C R t0 hD
def DB_Mo_restore_22 (r : TR) (l0 : Nat) (l1 : Int32) (l2 : Int32) (h : TH) (K22 : Int32 → TH → Prop) (K53 : TH → Prop) (Q : Int32 → TH → Prop) : Prop :=
  ((512 ≤ l2 → K53 h) ∧ (¬ 512 ≤ l2 → ∀ i10 : Int32, i10 = (512 * l1) + l2 → vp_in i10 1536 ∧ vp_in l2 512 ∧ ∀ h11, h11 = pI h (r l0 48) l2.toNatClampNeg (h.1 (r l0 65) i10.toNatClampNeg) → ∀ x12 : Int32, x12 = l2 + 1 → K22 x12 h11))
set_option maxRecDepth 100000 in
set_option maxHeartbeats 4000000 in
theorem WB_Mo_restore_22 {Y : CG} {X : CX} {r : TR} {l0 : Nat} {l1 : Int32} {l2 : Int32} {h : TH} {K22 : Int32 → TH → Prop} {K53 : TH → Prop} {Q : Int32 → TH → Prop} (C : Gd Y X cX8_restore 3 RX8 2) (R : Ri Y r X .boolean Q) (t0 : TO Y l0 8) (hK22 : ∀ (k2 : Int32) (hh : TH), K22 k2 hh → G Y X 3 22 [(0, .ref l0), (1, .int l1), (2, .int k2)] [] r hh) (hK53 : ∀ (hh : TH), K53 hh → G Y X 3 53 [(0, .ref l0)] [] r hh) (hD : DB_Mo_restore_22 r l0 l1 l2 h K22 K53 Q) : G Y X 3 22 [(0, .ref l0), (1, .int l1), (2, .int l2)] [] r h := by
  unfold DB_Mo_restore_22 at hD
  refine g_wt (fun hw => ?_)
  refine g_iload_n (pc := 22) rfl 2 rfl C dX8_restore_22 ?_
  refine g_sipush (pc := 23) (v := 512) (by decide) C dX8_restore_23 ?_
  refine g_icmp_ge (pc := 26) 53 C dX8_restore_26 (by decide) (fun c7 => ?_) (fun c7 => ?_)
  · have hD := hD.1 c7
    refine g_sub [0] rfl ?_
    exact hK53 h hD
  · have hD := hD.2 c7
    refine g_aload_n (pc := 29) rfl 0 rfl C dX8_restore_29 ?_
    have u8 : TA Y (r l0 48) 10 512 := wt_a hw t0 (by decide) (by decide) rfl
    refine g_getR (pc := 30) C fl_RX8_110 t0 rfl dX8_restore_30 ?_
    refine g_iload_n (pc := 33) rfl 2 rfl C dX8_restore_33 ?_
    refine g_aload_n (pc := 34) rfl 0 rfl C dX8_restore_34 ?_
    have u9 : TA Y (r l0 65) 10 1536 := wt_a hw t0 (by decide) (by decide) rfl
    refine g_getR (pc := 35) C fl_RX8_146 t0 rfl dX8_restore_35 ?_
    refine g_sipush (pc := 38) (v := 512) (by decide) C dX8_restore_38 ?_
    refine g_iload_n (pc := 41) rfl 1 rfl C dX8_restore_41 ?_
    refine g_imul (pc := 42) C dX8_restore_42 ?_
    refine g_iload_n (pc := 43) rfl 2 rfl C dX8_restore_43 ?_
    refine g_iadd (pc := 44) C dX8_restore_44 ?_
    refine g_topi (fun i10 ei10 => ?_)
    have hD := hD i10 ei10
    obtain ⟨hb, hD⟩ := hD
    refine g_iald (pc := 45) C u9 hb dX8_restore_45 ?_
    obtain ⟨hb, hD⟩ := hD
    refine g_iast (pc := 46) C u8 hb dX8_restore_46 (fun h11 eh11 => ?_)
    have hD := hD h11 eh11
    refine g_iinc (pc := 47) (q := 2) (c := 1) (fun x12 => [(2, .int x12), (0, .ref l0), (1, .int l1)]) C dX8_restore_47 rfl (by decide) (by decide) rfl (fun x12 ex12 => ?_)
    have hD := hD x12 ex12
    refine g_goto (pc := 50) 22 C dX8_restore_50 (by decide) ?_
    refine g_sub [1, 2, 0] rfl ?_
    exact hK22 x12 h11 hD
def D_Mo_restore (r : TR) (o : Nat) (a1 : Int32) (h : TH) (Q : Int32 → TH → Prop) : Prop :=
  D_Mo_in r a1 0 2 h (fun x2 h1 => ((x2 = 0 → Q 0 h1) ∧ (¬ x2 = 0 → vp_in a1 3 ∧ ((¬ (h1.1 (r o 64) a1.toNatClampNeg) = 0 → ∃ n, lp (fun (K : Int32 × TH → Prop) (s : Int32 × TH) => DB_Mo_restore_22 r o a1 s.1 s.2 (fun y13 h14 => K (y13, h14)) (fun h15 => ∀ h16, h16 = pI h15 o 54 0 → Q 1 h16) Q) n (0, h1)) ∧ ((h1.1 (r o 64) a1.toNatClampNeg) = 0 → Q 0 h1)))))
set_option maxRecDepth 100000 in
set_option maxHeartbeats 4000000 in
theorem M_Mo_restore {Y : CG} {r : TR} {l : Launch} {o : Nat} {a1 : Int32} {h : TH} {Q : Int32 → TH → Prop} (t0 : TO Y o 8) (hD : D_Mo_restore r o a1 h Q) : Mi Y r l yX8_restore cX8_restore 3 .boolean 2 [.ref o, .int a1] h Q := by
  unfold D_Mo_restore at hD
  refine Mi.of RX8 rfl (by decide) (by simp [lg_sl, Value.category]) [(0, .ref o), (1, .int a1)] rfl (fun X hXl C R => ?_)
  subst hXl
  refine g_wt (fun hw => ?_)
  refine g_iload_n (pc := 0) rfl 1 rfl C dX8_restore_0 ?_
  refine g_iconst (pc := 1) (v := 0) (by decide) C dX8_restore_1 ?_
  refine g_iconst (pc := 2) (v := 2) (by decide) C dX8_restore_2 ?_
  refine g_callSi (pc := 3) (As := [.int a1, .int 0, .int 2]) C ms_RX8_303 (M_Mo_in  hD) (by decide) rfl rfl (Nat.le_of_ble_eq_true rfl) dX8_restore_3 (fun x2 h1 hD => ?_)
  refine g_if_eq (pc := 6) 18 C dX8_restore_6 (by decide) (fun c3 => ?_) (fun c3 => ?_)
  · have hD := hD.1 c3
    refine g_iconst (pc := 18) (v := 0) (by decide) C dX8_restore_18 ?_
    exact g_zret (pc := 19) C R nz_0 dX8_restore_19 hD
  · have hD := hD.2 c3
    refine g_aload_n (pc := 9) rfl 0 rfl C dX8_restore_9 ?_
    have u4 : TA Y (r o 64) 12 3 := wt_a hw t0 (by decide) (by decide) rfl
    refine g_getR (pc := 10) C fl_RX8_143 t0 rfl dX8_restore_10 ?_
    refine g_iload_n (pc := 13) rfl 1 rfl C dX8_restore_13 ?_
    obtain ⟨hb, hD⟩ := hD
    refine g_zald (pc := 14) C u4 hb dX8_restore_14 ?_
    refine g_if_ne (pc := 15) 20 C dX8_restore_15 (by decide) (fun c5 => ?_) (fun c5 => ?_)
    · have hD := hD.1 c5
      refine g_iconst (pc := 20) (v := 0) (by decide) C dX8_restore_20 ?_
      refine g_istore_n (pc := 21) (fun _ => [(2, .int 0), (0, .ref o), (1, .int a1)]) C dX8_restore_21 rfl (by decide) rfl (fun _ _ => ?_)
      obtain ⟨n, hD⟩ := hD
      refine g_sub [1, 2, 0] rfl ?_
      refine lp_run (fun s : Int32 × TH => G Y X 3 22 [(0, .ref o), (1, .int a1), (2, .int s.1)] [] r s.2) (fun K s hB hK => ?_) n (0, h1) hD
      refine WB_Mo_restore_22 C R t0 (fun y13 h14 hk => hK _ hk) (fun h15 hD => ?_) hB
      · refine g_aload_n (pc := 53) rfl 0 rfl C dX8_restore_53 ?_
        refine g_iconst (pc := 54) (v := 0) (by decide) C dX8_restore_54 ?_
        refine g_putI (pc := 55) C fl_RX8_255 t0 rfl rfl rfl dX8_restore_55 (fun h16 eh16 => ?_)
        have hD := hD h16 eh16
        refine g_iconst (pc := 58) (v := 1) (by decide) C dX8_restore_58 ?_
        exact g_zret (pc := 59) C R nz_1 dX8_restore_59 hD
    · have hD := hD.2 c5
      refine g_iconst (pc := 18) (v := 0) (by decide) C dX8_restore_18 ?_
      exact g_zret (pc := 19) C R nz_0 dX8_restore_19 hD
def DB_Mo_rock_44 (r : TR) (l0 : Nat) (l1 : Int32) (l2 : Int32) (l3 : Int32) (l4 : Int32) (l5 : Int32) (h : TH) (K44 : Int32 → Int32 → TH → Prop) (K103 : Int32 → TH → Prop) (Q : Int32 → TH → Prop) : Prop :=
  ((40 ≤ l5 → K103 l4 h) ∧ (¬ 40 ≤ l5 → D_Mo_isFree r l0 l5 h (fun x14 h13 => ((¬ x14 = 0 → D_Mo_beginsBy r l0 l5 h13 (fun h16 => D_Mo_goes r l0 l1 h16 (fun h18 => D_Mo_lostNow r l0 h18 (fun x21 h20 => ((x21 = l2 → ((¬ l4 = l3 → ∀ x24 : Int32, x24 = l4 + 1 → ∀ x25 : Int32, x25 = l5 + 1 → K44 x24 x25 h20) ∧ (l4 = l3 → Q l5 h20))) ∧ (¬ x21 = l2 → ∀ x26 : Int32, x26 = l5 + 1 → K44 l4 x26 h20)))))) ∧ (x14 = 0 → ∀ x27 : Int32, x27 = l5 + 1 → K44 l4 x27 h13)))))
set_option maxRecDepth 100000 in
set_option maxHeartbeats 4000000 in
theorem WB_Mo_rock_44 {Y : CG} {X : CX} {r : TR} {l0 : Nat} {l1 : Int32} {l2 : Int32} {l3 : Int32} {l4 : Int32} {l5 : Int32} {h : TH} {K44 : Int32 → Int32 → TH → Prop} {K103 : Int32 → TH → Prop} {Q : Int32 → TH → Prop} (C : Gd Y X cX8_rock 6 RX8 7) (R : Ri Y r X .int Q) (t0 : TO Y l0 8) (hK44 : ∀ (k4 : Int32) (k5 : Int32) (hh : TH), K44 k4 k5 hh → G Y X 6 44 [(0, .ref l0), (1, .int l1), (2, .int l2), (3, .int l3), (4, .int k4), (5, .int k5)] [] r hh) (hK103 : ∀ (k4 : Int32) (hh : TH), K103 k4 hh → G Y X 6 103 [(3, .int l3), (4, .int k4)] [] r hh) (hD : DB_Mo_rock_44 r l0 l1 l2 l3 l4 l5 h K44 K103 Q) : G Y X 6 44 [(0, .ref l0), (1, .int l1), (2, .int l2), (3, .int l3), (4, .int l4), (5, .int l5)] [] r h := by
  unfold DB_Mo_rock_44 at hD
  refine g_wt (fun hw => ?_)
  refine g_iload (pc := 44) 5 rfl C dX8_rock_44 ?_
  refine g_bipush (pc := 46) (v := 40) (by decide) C dX8_rock_46 ?_
  refine g_icmp_ge (pc := 48) 103 C dX8_rock_48 (by decide) (fun c12 => ?_) (fun c12 => ?_)
  · have hD := hD.1 c12
    refine g_sub [3, 4] rfl ?_
    exact hK103 l4 h hD
  · have hD := hD.2 c12
    refine g_aload_n (pc := 51) rfl 0 rfl C dX8_rock_51 ?_
    refine g_iload (pc := 52) 5 rfl C dX8_rock_52 ?_
    refine g_callVi (pc := 54) (As := [.int l5]) C mv_RX8_464 (M_Mo_isFree t0 hD) t0 (by decide) rfl rfl (Nat.le_of_ble_eq_true rfl) dX8_rock_54 (fun x14 h13 hD => ?_)
    refine g_if_ne (pc := 57) 63 C dX8_rock_57 (by decide) (fun c15 => ?_) (fun c15 => ?_)
    · have hD := hD.1 c15
      refine g_aload_n (pc := 63) rfl 0 rfl C dX8_rock_63 ?_
      refine g_iload (pc := 64) 5 rfl C dX8_rock_64 ?_
      refine g_callVv (pc := 66) (As := [.int l5]) C mv_RX8_328 (M_Mo_beginsBy t0 hD) t0 (by decide) rfl rfl (Nat.le_of_ble_eq_true rfl) dX8_rock_66 (fun h16 hD => ?_)
      refine g_aload_n (pc := 69) rfl 0 rfl C dX8_rock_69 ?_
      refine g_iload_n (pc := 70) rfl 1 rfl C dX8_rock_70 ?_
      refine g_callVv (pc := 71) (As := [.int l1]) C mv_RX8_403 (M_Mo_goes t0 hD) t0 (by decide) rfl rfl (Nat.le_of_ble_eq_true rfl) dX8_rock_71 (fun h18 hD => ?_)
      refine g_aload_n (pc := 74) rfl 0 rfl C dX8_rock_74 ?_
      refine g_callVi (pc := 75) (As := []) C mv_RX8_412 (M_Mo_lostNow t0 hD) t0 (by decide) rfl rfl (Nat.le_of_ble_eq_true rfl) dX8_rock_75 (fun x21 h20 hD => ?_)
      refine g_iload_n (pc := 78) rfl 2 rfl C dX8_rock_78 ?_
      refine g_icmp_eq (pc := 79) 85 C dX8_rock_79 (by decide) (fun c22 => ?_) (fun c22 => ?_)
      · have hD := hD.1 c22
        refine g_iload (pc := 85) 4 rfl C dX8_rock_85 ?_
        refine g_iload_n (pc := 87) rfl 3 rfl C dX8_rock_87 ?_
        refine g_icmp_ne (pc := 88) 94 C dX8_rock_88 (by decide) (fun c23 => ?_) (fun c23 => ?_)
        · have hD := hD.1 c23
          refine g_iinc (pc := 94) (q := 4) (c := 1) (fun x24 => [(4, .int x24), (0, .ref l0), (1, .int l1), (2, .int l2), (3, .int l3), (5, .int l5)]) C dX8_rock_94 rfl (by decide) (by decide) rfl (fun x24 ex24 => ?_)
          have hD := hD x24 ex24
          refine g_iinc (pc := 97) (q := 5) (c := 1) (fun x25 => [(5, .int x25), (4, .int x24), (0, .ref l0), (1, .int l1), (2, .int l2), (3, .int l3)]) C dX8_rock_97 rfl (by decide) (by decide) rfl (fun x25 ex25 => ?_)
          have hD := hD x25 ex25
          refine g_goto (pc := 100) 44 C dX8_rock_100 (by decide) ?_
          refine g_sub [2, 3, 4, 5, 1, 0] rfl ?_
          exact hK44 x24 x25 h20 hD
        · have hD := hD.2 c23
          refine g_iload (pc := 91) 5 rfl C dX8_rock_91 ?_
          exact g_iret (pc := 93) C R dX8_rock_93 hD
      · have hD := hD.2 c22
        refine g_goto (pc := 82) 97 C dX8_rock_82 (by decide) ?_
        refine g_iinc (pc := 97) (q := 5) (c := 1) (fun x26 => [(5, .int x26), (0, .ref l0), (1, .int l1), (2, .int l2), (3, .int l3), (4, .int l4)]) C dX8_rock_97 rfl (by decide) (by decide) rfl (fun x26 ex26 => ?_)
        have hD := hD x26 ex26
        refine g_goto (pc := 100) 44 C dX8_rock_100 (by decide) ?_
        refine g_sub [1, 2, 3, 4, 5, 0] rfl ?_
        exact hK44 l4 x26 h20 hD
    · have hD := hD.2 c15
      refine g_goto (pc := 60) 97 C dX8_rock_60 (by decide) ?_
      refine g_iinc (pc := 97) (q := 5) (c := 1) (fun x27 => [(5, .int x27), (0, .ref l0), (1, .int l1), (2, .int l2), (3, .int l3), (4, .int l4)]) C dX8_rock_97 rfl (by decide) (by decide) rfl (fun x27 ex27 => ?_)
      have hD := hD x27 ex27
      refine g_goto (pc := 100) 44 C dX8_rock_100 (by decide) ?_
      refine g_sub [1, 2, 3, 4, 5, 0] rfl ?_
      exact hK44 l4 x27 h13 hD
def D_Mo_rock (r : TR) (o : Nat) (a1 : Int32) (a2 : Int32) (a3 : Int32) (h : TH) (Q : Int32 → TH → Prop) : Prop :=
  D_Mo_in r a1 1 60 h (fun x2 h1 => ((x2 = 0 → Q (-1) h1) ∧ (¬ x2 = 0 → ∀ i5 : Int32, i5 = h1.1 o 18 → vp_in i5 2 ∧ D_Mo_in r a2 0 (((1 : Int32) <<< ((h1.1 (r o 25) i5.toNatClampNeg) &&& 31)) - 1) h1 (fun x7 h6 => ((x7 = 0 → Q (-1) h6) ∧ (¬ x7 = 0 → (((-1) ≤ a3 → ∃ n, lp (fun (K : Int32 × Int32 × TH → Prop) (s : Int32 × Int32 × TH) => DB_Mo_rock_44 r o a1 a2 a3 s.1 s.2.1 s.2.2 (fun y28 y29 h30 => K (y28, y29, h30)) (fun x31 h32 => ((¬ a3 = (-1) → Q (-1) h32) ∧ (a3 = (-1) → Q x31 h32))) Q) n (0, 0, h6)) ∧ (¬ (-1) ≤ a3 → Q (-1) h6))))))))
set_option maxRecDepth 100000 in
set_option maxHeartbeats 4000000 in
theorem M_Mo_rock {Y : CG} {r : TR} {l : Launch} {o : Nat} {a1 : Int32} {a2 : Int32} {a3 : Int32} {h : TH} {Q : Int32 → TH → Prop} (t0 : TO Y o 8) (hD : D_Mo_rock r o a1 a2 a3 h Q) : Mi Y r l yX8_rock cX8_rock 6 .int 7 [.ref o, .int a1, .int a2, .int a3] h Q := by
  unfold D_Mo_rock at hD
  refine Mi.of RX8 rfl (by decide) (by simp [lg_sl, Value.category]) [(0, .ref o), (1, .int a1), (2, .int a2), (3, .int a3)] rfl (fun X hXl C R => ?_)
  subst hXl
  refine g_wt (fun hw => ?_)
  refine g_iload_n (pc := 0) rfl 1 rfl C dX8_rock_0 ?_
  refine g_iconst (pc := 1) (v := 1) (by decide) C dX8_rock_1 ?_
  refine g_bipush (pc := 2) (v := 60) (by decide) C dX8_rock_2 ?_
  refine g_callSi (pc := 4) (As := [.int a1, .int 1, .int 60]) C ms_RX8_303 (M_Mo_in  hD) (by decide) rfl rfl (Nat.le_of_ble_eq_true rfl) dX8_rock_4 (fun x2 h1 hD => ?_)
  refine g_if_eq (pc := 7) 36 C dX8_rock_7 (by decide) (fun c3 => ?_) (fun c3 => ?_)
  · have hD := hD.1 c3
    refine g_iconst (pc := 36) (v := (-1)) (by decide) C dX8_rock_36 ?_
    exact g_iret (pc := 37) C R dX8_rock_37 hD
  · have hD := hD.2 c3
    refine g_iload_n (pc := 10) rfl 2 rfl C dX8_rock_10 ?_
    refine g_iconst (pc := 11) (v := 0) (by decide) C dX8_rock_11 ?_
    refine g_iconst (pc := 12) (v := 1) (by decide) C dX8_rock_12 ?_
    refine g_aload_n (pc := 13) rfl 0 rfl C dX8_rock_13 ?_
    have u4 : TA Y (r o 25) 10 2 := wt_a hw t0 (by decide) (by decide) rfl
    refine g_getR (pc := 14) C fl_RX8_52 t0 rfl dX8_rock_14 ?_
    refine g_aload_n (pc := 17) rfl 0 rfl C dX8_rock_17 ?_
    refine g_getI (pc := 18) C fl_RX8_230 t0 rfl dX8_rock_18 ?_
    refine g_topi (fun i5 ei5 => ?_)
    have hD := hD i5 ei5
    obtain ⟨hb, hD⟩ := hD
    refine g_iald (pc := 21) C u4 hb dX8_rock_21 ?_
    refine g_ishl (pc := 22) C dX8_rock_22 ?_
    refine g_iconst (pc := 23) (v := 1) (by decide) C dX8_rock_23 ?_
    refine g_isub (pc := 24) C dX8_rock_24 ?_
    refine g_callSi (pc := 25) (As := [.int a2, .int 0, .int (((1 : Int32) <<< ((h1.1 (r o 25) i5.toNatClampNeg) &&& 31)) - 1)]) C ms_RX8_303 (M_Mo_in  hD) (by decide) rfl rfl (Nat.le_of_ble_eq_true rfl) dX8_rock_25 (fun x7 h6 hD => ?_)
    refine g_if_eq (pc := 28) 36 C dX8_rock_28 (by decide) (fun c8 => ?_) (fun c8 => ?_)
    · have hD := hD.1 c8
      refine g_iconst (pc := 36) (v := (-1)) (by decide) C dX8_rock_36 ?_
      exact g_iret (pc := 37) C R dX8_rock_37 hD
    · have hD := hD.2 c8
      refine g_iload_n (pc := 31) rfl 3 rfl C dX8_rock_31 ?_
      refine g_iconst (pc := 32) (v := (-1)) (by decide) C dX8_rock_32 ?_
      refine g_icmp_ge (pc := 33) 38 C dX8_rock_33 (by decide) (fun c9 => ?_) (fun c9 => ?_)
      · have hD := hD.1 c9
        refine g_iconst (pc := 38) (v := 0) (by decide) C dX8_rock_38 ?_
        refine g_istore (pc := 39) (fun _ => [(4, .int 0), (0, .ref o), (1, .int a1), (2, .int a2), (3, .int a3)]) C dX8_rock_39 (by decide) rfl (fun _ _ => ?_)
        refine g_iconst (pc := 41) (v := 0) (by decide) C dX8_rock_41 ?_
        refine g_istore (pc := 42) (fun _ => [(5, .int 0), (4, .int 0), (0, .ref o), (1, .int a1), (2, .int a2), (3, .int a3)]) C dX8_rock_42 (by decide) rfl (fun _ _ => ?_)
        obtain ⟨n, hD⟩ := hD
        refine g_sub [2, 3, 4, 5, 1, 0] rfl ?_
        refine lp_run (fun s : Int32 × Int32 × TH => G Y X 6 44 [(0, .ref o), (1, .int a1), (2, .int a2), (3, .int a3), (4, .int s.1), (5, .int s.2.1)] [] r s.2.2) (fun K s hB hK => ?_) n (0, 0, h6) hD
        refine WB_Mo_rock_44 C R t0 (fun y28 y29 h30 hk => hK _ hk) (fun x31 h32 hD => ?_) hB
        · refine g_iload_n (pc := 103) rfl 0 rfl C dX8_rock_103 ?_
          refine g_iconst (pc := 104) (v := (-1)) (by decide) C dX8_rock_104 ?_
          refine g_icmp_ne (pc := 105) 113 C dX8_rock_105 (by decide) (fun c33 => ?_) (fun c33 => ?_)
          · have hD := hD.1 c33
            refine g_iconst (pc := 113) (v := (-1)) (by decide) C dX8_rock_113 ?_
            exact g_iret (pc := 114) C R dX8_rock_114 hD
          · have hD := hD.2 c33
            refine g_iload (pc := 108) 1 rfl C dX8_rock_108 ?_
            refine g_goto (pc := 110) 114 C dX8_rock_110 (by decide) ?_
            exact g_iret (pc := 114) C R dX8_rock_114 hD
      · have hD := hD.2 c9
        refine g_iconst (pc := 36) (v := (-1)) (by decide) C dX8_rock_36 ?_
        exact g_iret (pc := 37) C R dX8_rock_37 hD
def DB_Mo_route_69 (r : TR) (l0 : Nat) (l2 : Int32) (l3 : Int32) (l4 : Int32) (l5 : Int32) (l6 : Int32) (l7 : Int32) (h : TH) (K60 : Int32 → Int32 → Int32 → Int32 → TH → Prop) (K69 : Int32 → TH → Prop) (K104 : Int32 → TH → Prop) (K130 : Int32 → TH → Prop) (Q : Int32 → TH → Prop) : Prop :=
  D_Mo_eastBy r l6 h (fun x20 h19 => D_Mo_southBy r l6 h19 (fun x22 h21 => D_Mo_farAt r l0 (l4 + x20) (l5 + x22) h21 (fun x24 h23 => ((x24 = ((l3 - l7) - 1) → K104 l6 h23) ∧ (¬ x24 = ((l3 - l7) - 1) → ∀ x26 : Int32, x26 = l6 + 1 → K69 x26 h23)))))
set_option maxRecDepth 100000 in
set_option maxHeartbeats 4000000 in
theorem WB_Mo_route_69 {Y : CG} {X : CX} {r : TR} {l0 : Nat} {l2 : Int32} {l3 : Int32} {l4 : Int32} {l5 : Int32} {l6 : Int32} {l7 : Int32} {h : TH} {K60 : Int32 → Int32 → Int32 → Int32 → TH → Prop} {K69 : Int32 → TH → Prop} {K104 : Int32 → TH → Prop} {K130 : Int32 → TH → Prop} {Q : Int32 → TH → Prop} (C : Gd Y X cX8_route 8 RX8 7) (R : Ri Y r X .int Q) (t0 : TO Y l0 8) (hK60 : ∀ (k4 : Int32) (k5 : Int32) (k6 : Int32) (k7 : Int32) (hh : TH), K60 k4 k5 k6 k7 hh → G Y X 8 60 [(0, .ref l0), (2, .int l2), (3, .int l3), (4, .int k4), (5, .int k5), (6, .int k6), (7, .int k7)] [] r hh) (hK69 : ∀ (k6 : Int32) (hh : TH), K69 k6 hh → G Y X 8 69 [(0, .ref l0), (2, .int l2), (3, .int l3), (4, .int l4), (5, .int l5), (6, .int k6), (7, .int l7)] [] r hh) (hK104 : ∀ (k6 : Int32) (hh : TH), K104 k6 hh → G Y X 8 104 [(0, .ref l0), (2, .int l2), (3, .int l3), (4, .int l4), (5, .int l5), (6, .int k6), (7, .int l7)] [] r hh) (hK130 : ∀ (k6 : Int32) (hh : TH), K130 k6 hh → G Y X 8 130 [(6, .int k6)] [] r hh) (hD : DB_Mo_route_69 r l0 l2 l3 l4 l5 l6 l7 h K60 K69 K104 K130 Q) : G Y X 8 69 [(0, .ref l0), (2, .int l2), (3, .int l3), (4, .int l4), (5, .int l5), (6, .int l6), (7, .int l7)] [] r h := by
  unfold DB_Mo_route_69 at hD
  refine g_wt (fun hw => ?_)
  refine g_aload_n (pc := 69) rfl 0 rfl C dX8_route_69 ?_
  refine g_iload (pc := 70) 3 rfl C dX8_route_70 ?_
  refine g_iload (pc := 72) 5 rfl C dX8_route_72 ?_
  refine g_callSi (pc := 74) (As := [.int l6]) C ms_RX8_354 (M_Mo_eastBy  hD) (by decide) rfl rfl (Nat.le_of_ble_eq_true rfl) dX8_route_74 (fun x20 h19 hD => ?_)
  refine g_iadd (pc := 77) C dX8_route_77 ?_
  refine g_iload (pc := 78) 4 rfl C dX8_route_78 ?_
  refine g_iload (pc := 80) 5 rfl C dX8_route_80 ?_
  refine g_callSi (pc := 82) (As := [.int l6]) C ms_RX8_357 (M_Mo_southBy  hD) (by decide) rfl rfl (Nat.le_of_ble_eq_true rfl) dX8_route_82 (fun x22 h21 hD => ?_)
  refine g_iadd (pc := 85) C dX8_route_85 ?_
  refine g_callVi (pc := 86) (As := [.int (l4 + x20), .int (l5 + x22)]) C mv_RX8_419 (M_Mo_farAt t0 hD) t0 (by decide) rfl rfl (Nat.le_of_ble_eq_true rfl) dX8_route_86 (fun x24 h23 hD => ?_)
  refine g_iload_n (pc := 89) rfl 2 rfl C dX8_route_89 ?_
  refine g_iload (pc := 90) 6 rfl C dX8_route_90 ?_
  refine g_isub (pc := 92) C dX8_route_92 ?_
  refine g_iconst (pc := 93) (v := 1) (by decide) C dX8_route_93 ?_
  refine g_isub (pc := 94) C dX8_route_94 ?_
  refine g_icmp_eq (pc := 95) 104 C dX8_route_95 (by decide) (fun c25 => ?_) (fun c25 => ?_)
  · have hD := hD.1 c25
    refine g_sub [0, 1, 2, 3, 4, 5, 6] rfl ?_
    exact hK104 l6 h23 hD
  · have hD := hD.2 c25
    refine g_iinc (pc := 98) (q := 5) (c := 1) (fun x26 => [(6, .int x26), (0, .ref l0), (2, .int l2), (3, .int l3), (4, .int l4), (5, .int l5), (7, .int l7)]) C dX8_route_98 rfl (by decide) (by decide) rfl (fun x26 ex26 => ?_)
    have hD := hD x26 ex26
    refine g_goto (pc := 101) 69 C dX8_route_101 (by decide) ?_
    refine g_sub [1, 2, 3, 4, 5, 0, 6] rfl ?_
    exact hK69 x26 h23 hD
def DB_Mo_route_60 (r : TR) (l0 : Nat) (l2 : Int32) (l3 : Int32) (l4 : Int32) (l5 : Int32) (l6 : Int32) (l7 : Int32) (h : TH) (K60 : Int32 → Int32 → Int32 → Int32 → TH → Prop) (K130 : Int32 → TH → Prop) (Q : Int32 → TH → Prop) : Prop :=
  ((l2 < l7 → K130 l6 h) ∧ (¬ l2 < l7 → ∃ n, lp (fun (K : Int32 × TH → Prop) (s : Int32 × TH) => DB_Mo_route_69 r l0 l2 l3 l4 l5 s.1 l7 s.2 K60 (fun y27 h28 => K (y27, h28)) (fun x29 h30 => D_Mo_eastBy r x29 h30 (fun x32 h31 => ∀ x33 : Int32, x33 = l4 + x32 → D_Mo_southBy r x29 h31 (fun x35 h34 => ∀ x36 : Int32, x36 = l5 + x35 → ∀ x37 : Int32, x37 = l7 + 1 → K60 x33 x36 x29 x37 h34))) K130 Q) n (1, h)))
set_option maxRecDepth 100000 in
set_option maxHeartbeats 4000000 in
theorem WB_Mo_route_60 {Y : CG} {X : CX} {r : TR} {l0 : Nat} {l2 : Int32} {l3 : Int32} {l4 : Int32} {l5 : Int32} {l6 : Int32} {l7 : Int32} {h : TH} {K60 : Int32 → Int32 → Int32 → Int32 → TH → Prop} {K130 : Int32 → TH → Prop} {Q : Int32 → TH → Prop} (C : Gd Y X cX8_route 8 RX8 7) (R : Ri Y r X .int Q) (t0 : TO Y l0 8) (hK60 : ∀ (k4 : Int32) (k5 : Int32) (k6 : Int32) (k7 : Int32) (hh : TH), K60 k4 k5 k6 k7 hh → G Y X 8 60 [(0, .ref l0), (2, .int l2), (3, .int l3), (4, .int k4), (5, .int k5), (6, .int k6), (7, .int k7)] [] r hh) (hK130 : ∀ (k6 : Int32) (hh : TH), K130 k6 hh → G Y X 8 130 [(6, .int k6)] [] r hh) (hD : DB_Mo_route_60 r l0 l2 l3 l4 l5 l6 l7 h K60 K130 Q) : G Y X 8 60 [(0, .ref l0), (2, .int l2), (3, .int l3), (4, .int l4), (5, .int l5), (6, .int l6), (7, .int l7)] [] r h := by
  unfold DB_Mo_route_60 at hD
  refine g_wt (fun hw => ?_)
  refine g_iload (pc := 60) 6 rfl C dX8_route_60 ?_
  refine g_iload_n (pc := 62) rfl 1 rfl C dX8_route_62 ?_
  refine g_icmp_gt (pc := 63) 130 C dX8_route_63 (by decide) (fun c17 => ?_) (fun c17 => ?_)
  · have hD := hD.1 c17
    refine g_sub [5] rfl ?_
    exact hK130 l6 h hD
  · have hD := hD.2 c17
    refine g_iconst (pc := 66) (v := 1) (by decide) C dX8_route_66 ?_
    refine g_istore (pc := 67) (fun _ => [(6, .int 1), (0, .ref l0), (2, .int l2), (3, .int l3), (4, .int l4), (5, .int l5), (7, .int l7)]) C dX8_route_67 (by decide) rfl (fun _ _ => ?_)
    obtain ⟨n, hD⟩ := hD
    refine g_sub [1, 2, 3, 4, 5, 0, 6] rfl ?_
    refine lp_run (fun s : Int32 × TH => G Y X 8 69 [(0, .ref l0), (2, .int l2), (3, .int l3), (4, .int l4), (5, .int l5), (6, .int s.1), (7, .int l7)] [] r s.2) (fun K s hB hK => ?_) n (1, h) hD
    refine WB_Mo_route_69 C R t0 hK60 (fun y27 h28 hk => hK _ hk) (fun x29 h30 hD => ?_) hK130 hB
    · refine g_iload (pc := 104) 3 rfl C dX8_route_104 ?_
      refine g_iload (pc := 106) 5 rfl C dX8_route_106 ?_
      refine g_callSi (pc := 108) (As := [.int x29]) C ms_RX8_354 (M_Mo_eastBy  hD) (by decide) rfl rfl (Nat.le_of_ble_eq_true rfl) dX8_route_108 (fun x32 h31 hD => ?_)
      refine g_iadd (pc := 111) C dX8_route_111 ?_
      refine g_istore (pc := 112) (fun x33 => [(4, .int x33), (0, .ref l0), (2, .int l2), (3, .int l3), (5, .int l5), (6, .int x29), (7, .int l7)]) C dX8_route_112 (by decide) rfl (fun x33 ex33 => ?_)
      have hD := hD x33 ex33
      refine g_iload (pc := 114) 4 rfl C dX8_route_114 ?_
      refine g_iload (pc := 116) 5 rfl C dX8_route_116 ?_
      refine g_callSi (pc := 118) (As := [.int x29]) C ms_RX8_357 (M_Mo_southBy  hD) (by decide) rfl rfl (Nat.le_of_ble_eq_true rfl) dX8_route_118 (fun x35 h34 hD => ?_)
      refine g_iadd (pc := 121) C dX8_route_121 ?_
      refine g_istore (pc := 122) (fun x36 => [(5, .int x36), (4, .int x33), (0, .ref l0), (2, .int l2), (3, .int l3), (6, .int x29), (7, .int l7)]) C dX8_route_122 (by decide) rfl (fun x36 ex36 => ?_)
      have hD := hD x36 ex36
      refine g_iinc (pc := 124) (q := 6) (c := 1) (fun x37 => [(7, .int x37), (5, .int x36), (4, .int x33), (0, .ref l0), (2, .int l2), (3, .int l3), (6, .int x29)]) C dX8_route_124 rfl (by decide) (by decide) rfl (fun x37 ex37 => ?_)
      have hD := hD x37 ex37
      refine g_goto (pc := 127) 60 C dX8_route_127 (by decide) ?_
      refine g_sub [3, 4, 5, 2, 1, 6, 0] rfl ?_
      exact hK60 x33 x36 x29 x37 h34 hD
def D_Mo_route (r : TR) (o : Nat) (a1 : Int32) (a2 : Int32) (h : TH) (Q : Int32 → TH → Prop) : Prop :=
  D_Mo_isBoat r o a1 h (fun x2 h1 => ((x2 = 0 → Q (-1) h1) ∧ (¬ x2 = 0 → ((0 ≤ a2 → D_Mo_soonestOf r o a1 h1 (fun x6 h5 => ((1 ≤ x6 → ((a2 < x6 → vp_in a1 512 ∧ ∀ x11 : Int32, x11 = h5.1 (r o 49) a1.toNatClampNeg → ∀ i13 : Int32, i13 = 6 + a1 → vp_in i13 512 ∧ ∀ x14 : Int32, x14 = h5.1 (r o 49) i13.toNatClampNeg → ∃ n, lp (fun (K : Int32 × Int32 × Int32 × Int32 × TH → Prop) (s : Int32 × Int32 × Int32 × Int32 × TH) => DB_Mo_route_60 r o a2 x6 s.1 s.2.1 s.2.2.1 s.2.2.2.1 s.2.2.2.2 (fun y38 y39 y40 y41 h42 => K (y38, y39, y40, y41, h42)) (fun x43 h44 => Q x43 h44) Q) n (x11, x14, 0, 0, h5)) ∧ (¬ a2 < x6 → Q (-1) h5))) ∧ (¬ 1 ≤ x6 → Q (-2) h5)))) ∧ (¬ 0 ≤ a2 → Q (-1) h1)))))
set_option maxRecDepth 100000 in
set_option maxHeartbeats 4000000 in
theorem M_Mo_route {Y : CG} {r : TR} {l : Launch} {o : Nat} {a1 : Int32} {a2 : Int32} {h : TH} {Q : Int32 → TH → Prop} (t0 : TO Y o 8) (hD : D_Mo_route r o a1 a2 h Q) : Mi Y r l yX8_route cX8_route 8 .int 7 [.ref o, .int a1, .int a2] h Q := by
  unfold D_Mo_route at hD
  refine Mi.of RX8 rfl (by decide) (by simp [lg_sl, Value.category]) [(0, .ref o), (1, .int a1), (2, .int a2)] rfl (fun X hXl C R => ?_)
  subst hXl
  refine g_wt (fun hw => ?_)
  refine g_aload_n (pc := 0) rfl 0 rfl C dX8_route_0 ?_
  refine g_iload_n (pc := 1) rfl 1 rfl C dX8_route_1 ?_
  refine g_callVi (pc := 2) (As := [.int a1]) C mv_RX8_394 (M_Mo_isBoat t0 hD) t0 (by decide) rfl rfl (Nat.le_of_ble_eq_true rfl) dX8_route_2 (fun x2 h1 hD => ?_)
  refine g_if_eq (pc := 5) 12 C dX8_route_5 (by decide) (fun c3 => ?_) (fun c3 => ?_)
  · have hD := hD.1 c3
    refine g_iconst (pc := 12) (v := (-1)) (by decide) C dX8_route_12 ?_
    exact g_iret (pc := 13) C R dX8_route_13 hD
  · have hD := hD.2 c3
    refine g_iload_n (pc := 8) rfl 2 rfl C dX8_route_8 ?_
    refine g_if_ge (pc := 9) 14 C dX8_route_9 (by decide) (fun c4 => ?_) (fun c4 => ?_)
    · have hD := hD.1 c4
      refine g_aload_n (pc := 14) rfl 0 rfl C dX8_route_14 ?_
      refine g_iload_n (pc := 15) rfl 1 rfl C dX8_route_15 ?_
      refine g_callVi (pc := 16) (As := [.int a1]) C mv_RX8_428 (M_Mo_soonestOf t0 hD) t0 (by decide) rfl rfl (Nat.le_of_ble_eq_true rfl) dX8_route_16 (fun x6 h5 hD => ?_)
      refine g_istore_n (pc := 19) (fun _ => [(3, .int x6), (0, .ref o), (1, .int a1), (2, .int a2)]) C dX8_route_19 rfl (by decide) rfl (fun _ _ => ?_)
      refine g_iload_n (pc := 20) rfl 0 rfl C dX8_route_20 ?_
      refine g_iconst (pc := 21) (v := 1) (by decide) C dX8_route_21 ?_
      refine g_icmp_ge (pc := 22) 28 C dX8_route_22 (by decide) (fun c8 => ?_) (fun c8 => ?_)
      · have hD := hD.1 c8
        refine g_iload_n (pc := 28) rfl 3 rfl C dX8_route_28 ?_
        refine g_iload_n (pc := 29) rfl 0 rfl C dX8_route_29 ?_
        refine g_icmp_lt (pc := 30) 35 C dX8_route_30 (by decide) (fun c9 => ?_) (fun c9 => ?_)
        · have hD := hD.1 c9
          refine g_aload_n (pc := 35) rfl 1 rfl C dX8_route_35 ?_
          have u10 : TA Y (r o 49) 10 512 := wt_a hw t0 (by decide) (by decide) rfl
          refine g_getR (pc := 36) C fl_RX8_113 t0 rfl dX8_route_36 ?_
          refine g_iload_n (pc := 39) rfl 2 rfl C dX8_route_39 ?_
          obtain ⟨hb, hD⟩ := hD
          refine g_iald (pc := 40) C u10 hb dX8_route_40 ?_
          refine g_istore (pc := 41) (fun x11 => [(4, .int x11), (3, .int x6), (0, .ref o), (1, .int a1), (2, .int a2)]) C dX8_route_41 (by decide) rfl (fun x11 ex11 => ?_)
          have hD := hD x11 ex11
          refine g_aload_n (pc := 43) rfl 2 rfl C dX8_route_43 ?_
          have u12 : TA Y (r o 49) 10 512 := wt_a hw t0 (by decide) (by decide) rfl
          refine g_getR (pc := 44) C fl_RX8_113 t0 rfl dX8_route_44 ?_
          refine g_bipush (pc := 47) (v := 6) (by decide) C dX8_route_47 ?_
          refine g_iload_n (pc := 49) rfl 3 rfl C dX8_route_49 ?_
          refine g_iadd (pc := 50) C dX8_route_50 ?_
          refine g_topi (fun i13 ei13 => ?_)
          have hD := hD i13 ei13
          obtain ⟨hb, hD⟩ := hD
          refine g_iald (pc := 51) C u12 hb dX8_route_51 ?_
          refine g_istore (pc := 52) (fun x14 => [(5, .int x14), (4, .int x11), (3, .int x6), (0, .ref o), (1, .int a1), (2, .int a2)]) C dX8_route_52 (by decide) rfl (fun x14 ex14 => ?_)
          have hD := hD x14 ex14
          refine g_iconst (pc := 54) (v := 0) (by decide) C dX8_route_54 ?_
          refine g_istore (pc := 55) (fun _ => [(6, .int 0), (5, .int x14), (4, .int x11), (3, .int x6), (0, .ref o), (1, .int a1), (2, .int a2)]) C dX8_route_55 (by decide) rfl (fun _ _ => ?_)
          refine g_iconst (pc := 57) (v := 0) (by decide) C dX8_route_57 ?_
          refine g_istore (pc := 58) (fun _ => [(7, .int 0), (6, .int 0), (5, .int x14), (4, .int x11), (3, .int x6), (0, .ref o), (1, .int a1), (2, .int a2)]) C dX8_route_58 (by decide) rfl (fun _ _ => ?_)
          obtain ⟨n, hD⟩ := hD
          refine g_sub [5, 7, 4, 3, 2, 1, 0] rfl ?_
          refine lp_run (fun s : Int32 × Int32 × Int32 × Int32 × TH => G Y X 8 60 [(0, .ref o), (2, .int a2), (3, .int x6), (4, .int s.1), (5, .int s.2.1), (6, .int s.2.2.1), (7, .int s.2.2.2.1)] [] r s.2.2.2.2) (fun K s hB hK => ?_) n (x11, x14, 0, 0, h5) hD
          refine WB_Mo_route_60 C R t0 (fun y38 y39 y40 y41 h42 hk => hK _ hk) (fun x43 h44 hD => ?_) hB
          · refine g_iload (pc := 130) 0 rfl C dX8_route_130 ?_
            exact g_iret (pc := 132) C R dX8_route_132 hD
        · have hD := hD.2 c9
          refine g_iconst (pc := 33) (v := (-1)) (by decide) C dX8_route_33 ?_
          exact g_iret (pc := 34) C R dX8_route_34 hD
      · have hD := hD.2 c8
        refine g_bipush (pc := 25) (v := (-2)) (by decide) C dX8_route_25 ?_
        exact g_iret (pc := 27) C R dX8_route_27 hD
    · have hD := hD.2 c4
      refine g_iconst (pc := 12) (v := (-1)) (by decide) C dX8_route_12 ?_
      exact g_iret (pc := 13) C R dX8_route_13 hD
def DB_Mo_smelt_29 (r : TR) (l0 : Nat) (l1 : Int32) (l2 : Int32) (l3 : Int32) (h : TH) (K29 : Int32 → TH → Prop) (K60 : TH → Prop) (Q : Int32 → TH → Prop) : Prop :=
  ((100 < l3 → K60 h) ∧ (¬ 100 < l3 → D_Mo_smellsOf r l0 l1 h (fun x13 h12 => ((¬ ((x13 >>> (l2 &&& 31)) &&& 1) = 1 → D_Mo_hourGoes r l0 h12 (fun h15 => ∀ x17 : Int32, x17 = l3 + 1 → K29 x17 h15)) ∧ (((x13 >>> (l2 &&& 31)) &&& 1) = 1 → Q l3 h12)))))
set_option maxRecDepth 100000 in
set_option maxHeartbeats 4000000 in
theorem WB_Mo_smelt_29 {Y : CG} {X : CX} {r : TR} {l0 : Nat} {l1 : Int32} {l2 : Int32} {l3 : Int32} {h : TH} {K29 : Int32 → TH → Prop} {K60 : TH → Prop} {Q : Int32 → TH → Prop} (C : Gd Y X cX8_smelt 4 RX8 6) (R : Ri Y r X .int Q) (t0 : TO Y l0 8) (hK29 : ∀ (k3 : Int32) (hh : TH), K29 k3 hh → G Y X 4 29 [(0, .ref l0), (1, .int l1), (2, .int l2), (3, .int k3)] [] r hh) (hK60 : ∀ (hh : TH), K60 hh → G Y X 4 60 [] [] r hh) (hD : DB_Mo_smelt_29 r l0 l1 l2 l3 h K29 K60 Q) : G Y X 4 29 [(0, .ref l0), (1, .int l1), (2, .int l2), (3, .int l3)] [] r h := by
  unfold DB_Mo_smelt_29 at hD
  refine g_wt (fun hw => ?_)
  refine g_iload_n (pc := 29) rfl 3 rfl C dX8_smelt_29 ?_
  refine g_bipush (pc := 30) (v := 100) (by decide) C dX8_smelt_30 ?_
  refine g_icmp_gt (pc := 32) 60 C dX8_smelt_32 (by decide) (fun c11 => ?_) (fun c11 => ?_)
  · have hD := hD.1 c11
    refine g_sub [] rfl ?_
    exact hK60 h hD
  · have hD := hD.2 c11
    refine g_aload_n (pc := 35) rfl 0 rfl C dX8_smelt_35 ?_
    refine g_iload_n (pc := 36) rfl 1 rfl C dX8_smelt_36 ?_
    refine g_callVi (pc := 37) (As := [.int l1]) C mv_RX8_370 (M_Mo_smellsOf t0 hD) t0 (by decide) rfl rfl (Nat.le_of_ble_eq_true rfl) dX8_smelt_37 (fun x13 h12 hD => ?_)
    refine g_iload_n (pc := 40) rfl 2 rfl C dX8_smelt_40 ?_
    refine g_ishr (pc := 41) C dX8_smelt_41 ?_
    refine g_iconst (pc := 42) (v := 1) (by decide) C dX8_smelt_42 ?_
    refine g_iand (pc := 43) C dX8_smelt_43 ?_
    refine g_iconst (pc := 44) (v := 1) (by decide) C dX8_smelt_44 ?_
    refine g_icmp_ne (pc := 45) 50 C dX8_smelt_45 (by decide) (fun c14 => ?_) (fun c14 => ?_)
    · have hD := hD.1 c14
      refine g_aload_n (pc := 50) rfl 0 rfl C dX8_smelt_50 ?_
      refine g_callVv (pc := 51) (As := []) C mv_RX8_382 (M_Mo_hourGoes t0 hD) t0 (by decide) rfl rfl (Nat.le_of_ble_eq_true rfl) dX8_smelt_51 (fun h15 hD => ?_)
      refine g_iinc (pc := 54) (q := 3) (c := 1) (fun x17 => [(3, .int x17), (0, .ref l0), (1, .int l1), (2, .int l2)]) C dX8_smelt_54 rfl (by decide) (by decide) rfl (fun x17 ex17 => ?_)
      have hD := hD x17 ex17
      refine g_goto (pc := 57) 29 C dX8_smelt_57 (by decide) ?_
      refine g_sub [1, 2, 3, 0] rfl ?_
      exact hK29 x17 h15 hD
    · have hD := hD.2 c14
      refine g_iload_n (pc := 48) rfl 3 rfl C dX8_smelt_48 ?_
      exact g_iret (pc := 49) C R dX8_smelt_49 hD
def D_Mo_smelt (r : TR) (o : Nat) (a1 : Int32) (a2 : Int32) (h : TH) (Q : Int32 → TH → Prop) : Prop :=
  D_Mo_isBoat r o a1 h (fun x2 h1 => ((x2 = 0 → Q (-1) h1) ∧ (¬ x2 = 0 → D_Mo_isBoat r o a2 h1 (fun x5 h4 => ((x5 = 0 → Q (-1) h4) ∧ (¬ x5 = 0 → ((¬ a1 = a2 → D_Mo_copies r o h4 (fun h8 => ∃ n, lp (fun (K : Int32 × TH → Prop) (s : Int32 × TH) => DB_Mo_smelt_29 r o a1 a2 s.1 s.2 (fun y18 h19 => K (y18, h19)) (fun h20 => Q (-2) h20) Q) n (0, h8))) ∧ (a1 = a2 → Q (-1) h4))))))))
set_option maxRecDepth 100000 in
set_option maxHeartbeats 4000000 in
theorem M_Mo_smelt {Y : CG} {r : TR} {l : Launch} {o : Nat} {a1 : Int32} {a2 : Int32} {h : TH} {Q : Int32 → TH → Prop} (t0 : TO Y o 8) (hD : D_Mo_smelt r o a1 a2 h Q) : Mi Y r l yX8_smelt cX8_smelt 4 .int 6 [.ref o, .int a1, .int a2] h Q := by
  unfold D_Mo_smelt at hD
  refine Mi.of RX8 rfl (by decide) (by simp [lg_sl, Value.category]) [(0, .ref o), (1, .int a1), (2, .int a2)] rfl (fun X hXl C R => ?_)
  subst hXl
  refine g_wt (fun hw => ?_)
  refine g_aload_n (pc := 0) rfl 0 rfl C dX8_smelt_0 ?_
  refine g_iload_n (pc := 1) rfl 1 rfl C dX8_smelt_1 ?_
  refine g_callVi (pc := 2) (As := [.int a1]) C mv_RX8_394 (M_Mo_isBoat t0 hD) t0 (by decide) rfl rfl (Nat.le_of_ble_eq_true rfl) dX8_smelt_2 (fun x2 h1 hD => ?_)
  refine g_if_eq (pc := 5) 21 C dX8_smelt_5 (by decide) (fun c3 => ?_) (fun c3 => ?_)
  · have hD := hD.1 c3
    refine g_iconst (pc := 21) (v := (-1)) (by decide) C dX8_smelt_21 ?_
    exact g_iret (pc := 22) C R dX8_smelt_22 hD
  · have hD := hD.2 c3
    refine g_aload_n (pc := 8) rfl 0 rfl C dX8_smelt_8 ?_
    refine g_iload_n (pc := 9) rfl 2 rfl C dX8_smelt_9 ?_
    refine g_callVi (pc := 10) (As := [.int a2]) C mv_RX8_394 (M_Mo_isBoat t0 hD) t0 (by decide) rfl rfl (Nat.le_of_ble_eq_true rfl) dX8_smelt_10 (fun x5 h4 hD => ?_)
    refine g_if_eq (pc := 13) 21 C dX8_smelt_13 (by decide) (fun c6 => ?_) (fun c6 => ?_)
    · have hD := hD.1 c6
      refine g_iconst (pc := 21) (v := (-1)) (by decide) C dX8_smelt_21 ?_
      exact g_iret (pc := 22) C R dX8_smelt_22 hD
    · have hD := hD.2 c6
      refine g_iload_n (pc := 16) rfl 1 rfl C dX8_smelt_16 ?_
      refine g_iload_n (pc := 17) rfl 2 rfl C dX8_smelt_17 ?_
      refine g_icmp_ne (pc := 18) 23 C dX8_smelt_18 (by decide) (fun c7 => ?_) (fun c7 => ?_)
      · have hD := hD.1 c7
        refine g_aload_n (pc := 23) rfl 0 rfl C dX8_smelt_23 ?_
        refine g_callVv (pc := 24) (As := []) C mv_RX8_397 (M_Mo_copies t0 hD) t0 (by decide) rfl rfl (Nat.le_of_ble_eq_true rfl) dX8_smelt_24 (fun h8 hD => ?_)
        refine g_iconst (pc := 27) (v := 0) (by decide) C dX8_smelt_27 ?_
        refine g_istore_n (pc := 28) (fun _ => [(3, .int 0), (0, .ref o), (1, .int a1), (2, .int a2)]) C dX8_smelt_28 rfl (by decide) rfl (fun _ _ => ?_)
        obtain ⟨n, hD⟩ := hD
        refine g_sub [1, 2, 3, 0] rfl ?_
        refine lp_run (fun s : Int32 × TH => G Y X 4 29 [(0, .ref o), (1, .int a1), (2, .int a2), (3, .int s.1)] [] r s.2) (fun K s hB hK => ?_) n (0, h8) hD
        refine WB_Mo_smelt_29 C R t0 (fun y18 h19 hk => hK _ hk) (fun h20 hD => ?_) hB
        · refine g_bipush (pc := 60) (v := (-2)) (by decide) C dX8_smelt_60 ?_
          exact g_iret (pc := 62) C R dX8_smelt_62 hD
      · have hD := hD.2 c7
        refine g_iconst (pc := 21) (v := (-1)) (by decide) C dX8_smelt_21 ?_
        exact g_iret (pc := 22) C R dX8_smelt_22 hD
def D_Mo_soonest (r : TR) (o : Nat) (a1 : Int32) (h : TH) (Q : Int32 → TH → Prop) : Prop :=
  D_Mo_isBoat r o a1 h (fun x2 h1 => ((x2 = 0 → Q (-1) h1) ∧ (¬ x2 = 0 → D_Mo_soonestOf r o a1 h1 (fun x5 h4 => Q x5 h4))))
set_option maxRecDepth 100000 in
set_option maxHeartbeats 4000000 in
theorem M_Mo_soonest {Y : CG} {r : TR} {l : Launch} {o : Nat} {a1 : Int32} {h : TH} {Q : Int32 → TH → Prop} (t0 : TO Y o 8) (hD : D_Mo_soonest r o a1 h Q) : Mi Y r l yX8_soonest cX8_soonest 2 .int 7 [.ref o, .int a1] h Q := by
  unfold D_Mo_soonest at hD
  refine Mi.of RX8 rfl (by decide) (by simp [lg_sl, Value.category]) [(0, .ref o), (1, .int a1)] rfl (fun X hXl C R => ?_)
  subst hXl
  refine g_wt (fun hw => ?_)
  refine g_aload_n (pc := 0) rfl 0 rfl C dX8_soonest_0 ?_
  refine g_iload_n (pc := 1) rfl 1 rfl C dX8_soonest_1 ?_
  refine g_callVi (pc := 2) (As := [.int a1]) C mv_RX8_394 (M_Mo_isBoat t0 hD) t0 (by decide) rfl rfl (Nat.le_of_ble_eq_true rfl) dX8_soonest_2 (fun x2 h1 hD => ?_)
  refine g_if_eq (pc := 5) 16 C dX8_soonest_5 (by decide) (fun c3 => ?_) (fun c3 => ?_)
  · have hD := hD.1 c3
    refine g_iconst (pc := 16) (v := (-1)) (by decide) C dX8_soonest_16 ?_
    exact g_iret (pc := 17) C R dX8_soonest_17 hD
  · have hD := hD.2 c3
    refine g_aload_n (pc := 8) rfl 0 rfl C dX8_soonest_8 ?_
    refine g_iload_n (pc := 9) rfl 1 rfl C dX8_soonest_9 ?_
    refine g_callVi (pc := 10) (As := [.int a1]) C mv_RX8_428 (M_Mo_soonestOf t0 hD) t0 (by decide) rfl rfl (Nat.le_of_ble_eq_true rfl) dX8_soonest_10 (fun x5 h4 hD => ?_)
    refine g_goto (pc := 13) 17 C dX8_soonest_13 (by decide) ?_
    exact g_iret (pc := 17) C R dX8_soonest_17 hD
def D_Mo_steers (r : TR) (o : Nat) (a1 : Int32) (h : TH) (Q : Int32 → TH → Prop) : Prop :=
  D_Mo_isBoat r o a1 h (fun x2 h1 => ((¬ x2 = 0 → D_Mo_copies r o h1 (fun h4 => D_Mo_isSailing r o a1 h4 (fun x7 h6 => ((x7 = 0 → Q (-2) h6) ∧ (¬ x7 = 0 → D_Mo_wayOf r o a1 h6 (fun x10 h9 => Q x10 h9)))))) ∧ (x2 = 0 → Q (-1) h1)))
set_option maxRecDepth 100000 in
set_option maxHeartbeats 4000000 in
theorem M_Mo_steers {Y : CG} {r : TR} {l : Launch} {o : Nat} {a1 : Int32} {h : TH} {Q : Int32 → TH → Prop} (t0 : TO Y o 8) (hD : D_Mo_steers r o a1 h Q) : Mi Y r l yX8_steers cX8_steers 2 .int 5 [.ref o, .int a1] h Q := by
  unfold D_Mo_steers at hD
  refine Mi.of RX8 rfl (by decide) (by simp [lg_sl, Value.category]) [(0, .ref o), (1, .int a1)] rfl (fun X hXl C R => ?_)
  subst hXl
  refine g_wt (fun hw => ?_)
  refine g_aload_n (pc := 0) rfl 0 rfl C dX8_steers_0 ?_
  refine g_iload_n (pc := 1) rfl 1 rfl C dX8_steers_1 ?_
  refine g_callVi (pc := 2) (As := [.int a1]) C mv_RX8_394 (M_Mo_isBoat t0 hD) t0 (by decide) rfl rfl (Nat.le_of_ble_eq_true rfl) dX8_steers_2 (fun x2 h1 hD => ?_)
  refine g_if_ne (pc := 5) 10 C dX8_steers_5 (by decide) (fun c3 => ?_) (fun c3 => ?_)
  · have hD := hD.1 c3
    refine g_aload_n (pc := 10) rfl 0 rfl C dX8_steers_10 ?_
    refine g_callVv (pc := 11) (As := []) C mv_RX8_397 (M_Mo_copies t0 hD) t0 (by decide) rfl rfl (Nat.le_of_ble_eq_true rfl) dX8_steers_11 (fun h4 hD => ?_)
    refine g_aload_n (pc := 14) rfl 0 rfl C dX8_steers_14 ?_
    refine g_iload_n (pc := 15) rfl 1 rfl C dX8_steers_15 ?_
    refine g_callVi (pc := 16) (As := [.int a1]) C mv_RX8_347 (M_Mo_isSailing t0 hD) t0 (by decide) rfl rfl (Nat.le_of_ble_eq_true rfl) dX8_steers_16 (fun x7 h6 hD => ?_)
    refine g_if_eq (pc := 19) 30 C dX8_steers_19 (by decide) (fun c8 => ?_) (fun c8 => ?_)
    · have hD := hD.1 c8
      refine g_bipush (pc := 30) (v := (-2)) (by decide) C dX8_steers_30 ?_
      exact g_iret (pc := 32) C R dX8_steers_32 hD
    · have hD := hD.2 c8
      refine g_aload_n (pc := 22) rfl 0 rfl C dX8_steers_22 ?_
      refine g_iload_n (pc := 23) rfl 1 rfl C dX8_steers_23 ?_
      refine g_callVi (pc := 24) (As := [.int a1]) C mv_RX8_376 (M_Mo_wayOf t0 hD) t0 (by decide) rfl rfl (Nat.le_of_ble_eq_true rfl) dX8_steers_24 (fun x10 h9 hD => ?_)
      refine g_goto (pc := 27) 32 C dX8_steers_27 (by decide) ?_
      exact g_iret (pc := 32) C R dX8_steers_32 hD
  · have hD := hD.2 c3
    refine g_iconst (pc := 8) (v := (-1)) (by decide) C dX8_steers_8 ?_
    exact g_iret (pc := 9) C R dX8_steers_9 hD
def DB_Mo_sure_33 (r : TR) (l0 : Nat) (l2 : Int32) (l3 : Int32) (l4 : Int32) (h : TH) (K33 : Int32 → Int32 → TH → Prop) (K108 : Int32 → TH → Prop) (Q : Int32 → TH → Prop) : Prop :=
  ∀ i12 : Int32, i12 = h.1 l0 18 → vp_in i12 2 ∧ D_Mo_sixes r (h.1 (r l0 25) i12.toNatClampNeg) h (fun x14 h13 => ((x14 ≤ l4 → K108 l3 h13) ∧ (¬ x14 ≤ l4 → D_Mo_isWay r l0 l4 h13 (fun x17 h16 => ((¬ x17 = 0 → ∀ i20 : Int32, i20 = h16.1 l0 18 → vp_in i20 2 ∧ D_Mo_sixes r (((h16.1 (r l0 25) i20.toNatClampNeg) - 1) - l2) h16 (fun x22 h21 => ¬ x22 = 0 ∧ ∀ x23 : Int32, x23 = jrem (l4 / x22) 6 → ((l3 < 0 → ∀ x26 : Int32, x26 = l4 + 1 → K33 x23 x26 h21) ∧ (¬ l3 < 0 → ((l3 = x23 → ∀ x29 : Int32, x29 = l4 + 1 → K33 x23 x29 h21) ∧ (¬ l3 = x23 → Q (-2) h21)))))) ∧ (x17 = 0 → ∀ x30 : Int32, x30 = l4 + 1 → K33 l3 x30 h16))))))
set_option maxRecDepth 100000 in
set_option maxHeartbeats 4000000 in
theorem WB_Mo_sure_33 {Y : CG} {X : CX} {r : TR} {l0 : Nat} {l2 : Int32} {l3 : Int32} {l4 : Int32} {h : TH} {K33 : Int32 → Int32 → TH → Prop} {K108 : Int32 → TH → Prop} {Q : Int32 → TH → Prop} (C : Gd Y X cX8_sure 6 RX8 3) (R : Ri Y r X .int Q) (t0 : TO Y l0 8) (hK33 : ∀ (k3 : Int32) (k4 : Int32) (hh : TH), K33 k3 k4 hh → G Y X 6 33 [(0, .ref l0), (2, .int l2), (3, .int k3), (4, .int k4)] [] r hh) (hK108 : ∀ (k3 : Int32) (hh : TH), K108 k3 hh → G Y X 6 108 [(3, .int k3)] [] r hh) (hD : DB_Mo_sure_33 r l0 l2 l3 l4 h K33 K108 Q) : G Y X 6 33 [(0, .ref l0), (2, .int l2), (3, .int l3), (4, .int l4)] [] r h := by
  unfold DB_Mo_sure_33 at hD
  refine g_wt (fun hw => ?_)
  refine g_iload (pc := 33) 3 rfl C dX8_sure_33 ?_
  refine g_aload_n (pc := 35) rfl 0 rfl C dX8_sure_35 ?_
  have u11 : TA Y (r l0 25) 10 2 := wt_a hw t0 (by decide) (by decide) rfl
  refine g_getR (pc := 36) C fl_RX8_52 t0 rfl dX8_sure_36 ?_
  refine g_aload_n (pc := 39) rfl 0 rfl C dX8_sure_39 ?_
  refine g_getI (pc := 40) C fl_RX8_230 t0 rfl dX8_sure_40 ?_
  refine g_topi (fun i12 ei12 => ?_)
  have hD := hD i12 ei12
  obtain ⟨hb, hD⟩ := hD
  refine g_iald (pc := 43) C u11 hb dX8_sure_43 ?_
  refine g_callSi (pc := 44) (As := [.int (h.1 (r l0 25) i12.toNatClampNeg)]) C ms_RX8_458 (M_Mo_sixes  hD) (by decide) rfl rfl (Nat.le_of_ble_eq_true rfl) dX8_sure_44 (fun x14 h13 hD => ?_)
  refine g_icmp_ge (pc := 47) 108 C dX8_sure_47 (by decide) (fun c15 => ?_) (fun c15 => ?_)
  · have hD := hD.1 c15
    refine g_sub [2] rfl ?_
    exact hK108 l3 h13 hD
  · have hD := hD.2 c15
    refine g_aload_n (pc := 50) rfl 0 rfl C dX8_sure_50 ?_
    refine g_iload (pc := 51) 3 rfl C dX8_sure_51 ?_
    refine g_callVi (pc := 53) (As := [.int l4]) C mv_RX8_461 (M_Mo_isWay t0 hD) t0 (by decide) rfl rfl (Nat.le_of_ble_eq_true rfl) dX8_sure_53 (fun x17 h16 hD => ?_)
    refine g_if_ne (pc := 56) 62 C dX8_sure_56 (by decide) (fun c18 => ?_) (fun c18 => ?_)
    · have hD := hD.1 c18
      refine g_iload (pc := 62) 3 rfl C dX8_sure_62 ?_
      refine g_aload_n (pc := 64) rfl 0 rfl C dX8_sure_64 ?_
      have u19 : TA Y (r l0 25) 10 2 := wt_a hw t0 (by decide) (by decide) rfl
      refine g_getR (pc := 65) C fl_RX8_52 t0 rfl dX8_sure_65 ?_
      refine g_aload_n (pc := 68) rfl 0 rfl C dX8_sure_68 ?_
      refine g_getI (pc := 69) C fl_RX8_230 t0 rfl dX8_sure_69 ?_
      refine g_topi (fun i20 ei20 => ?_)
      have hD := hD i20 ei20
      obtain ⟨hb, hD⟩ := hD
      refine g_iald (pc := 72) C u19 hb dX8_sure_72 ?_
      refine g_iconst (pc := 73) (v := 1) (by decide) C dX8_sure_73 ?_
      refine g_isub (pc := 74) C dX8_sure_74 ?_
      refine g_iload_n (pc := 75) rfl 1 rfl C dX8_sure_75 ?_
      refine g_isub (pc := 76) C dX8_sure_76 ?_
      refine g_callSi (pc := 77) (As := [.int (((h16.1 (r l0 25) i20.toNatClampNeg) - 1) - l2)]) C ms_RX8_458 (M_Mo_sixes  hD) (by decide) rfl rfl (Nat.le_of_ble_eq_true rfl) dX8_sure_77 (fun x22 h21 hD => ?_)
      obtain ⟨hz, hD⟩ := hD
      refine g_idiv (pc := 80) hz C dX8_sure_80 ?_
      refine g_bipush (pc := 81) (v := 6) (by decide) C dX8_sure_81 ?_
      refine g_irem (pc := 83) (by decide) C dX8_sure_83 ?_
      refine g_istore (pc := 84) (fun x23 => [(5, .int x23), (0, .ref l0), (2, .int l2), (3, .int l3), (4, .int l4)]) C dX8_sure_84 (by decide) rfl (fun x23 ex23 => ?_)
      have hD := hD x23 ex23
      refine g_iload_n (pc := 86) rfl 3 rfl C dX8_sure_86 ?_
      refine g_if_lt (pc := 87) 99 C dX8_sure_87 (by decide) (fun c24 => ?_) (fun c24 => ?_)
      · have hD := hD.1 c24
        refine g_iload (pc := 99) 0 rfl C dX8_sure_99 ?_
        refine g_istore_n (pc := 101) (fun _ => [(3, .int x23), (5, .int x23), (0, .ref l0), (2, .int l2), (4, .int l4)]) C dX8_sure_101 rfl (by decide) rfl (fun _ _ => ?_)
        refine g_iinc (pc := 102) (q := 4) (c := 1) (fun x26 => [(4, .int x26), (3, .int x23), (5, .int x23), (0, .ref l0), (2, .int l2)]) C dX8_sure_102 rfl (by decide) (by decide) rfl (fun x26 ex26 => ?_)
        have hD := hD x26 ex26
        refine g_goto (pc := 105) 33 C dX8_sure_105 (by decide) ?_
        refine g_sub [3, 4, 1, 0] rfl ?_
        exact hK33 x23 x26 h21 hD
      · have hD := hD.2 c24
        refine g_iload_n (pc := 90) rfl 3 rfl C dX8_sure_90 ?_
        refine g_iload (pc := 91) 0 rfl C dX8_sure_91 ?_
        refine g_icmp_eq (pc := 93) 99 C dX8_sure_93 (by decide) (fun c27 => ?_) (fun c27 => ?_)
        · have hD := hD.1 c27
          refine g_iload (pc := 99) 0 rfl C dX8_sure_99 ?_
          refine g_istore_n (pc := 101) (fun _ => [(3, .int x23), (5, .int x23), (0, .ref l0), (2, .int l2), (4, .int l4)]) C dX8_sure_101 rfl (by decide) rfl (fun _ _ => ?_)
          refine g_iinc (pc := 102) (q := 4) (c := 1) (fun x29 => [(4, .int x29), (3, .int x23), (5, .int x23), (0, .ref l0), (2, .int l2)]) C dX8_sure_102 rfl (by decide) (by decide) rfl (fun x29 ex29 => ?_)
          have hD := hD x29 ex29
          refine g_goto (pc := 105) 33 C dX8_sure_105 (by decide) ?_
          refine g_sub [3, 4, 1, 0] rfl ?_
          exact hK33 x23 x29 h21 hD
        · have hD := hD.2 c27
          refine g_bipush (pc := 96) (v := (-2)) (by decide) C dX8_sure_96 ?_
          exact g_iret (pc := 98) C R dX8_sure_98 hD
    · have hD := hD.2 c18
      refine g_goto (pc := 59) 102 C dX8_sure_59 (by decide) ?_
      refine g_iinc (pc := 102) (q := 3) (c := 1) (fun x30 => [(4, .int x30), (0, .ref l0), (2, .int l2), (3, .int l3)]) C dX8_sure_102 rfl (by decide) (by decide) rfl (fun x30 ex30 => ?_)
      have hD := hD x30 ex30
      refine g_goto (pc := 105) 33 C dX8_sure_105 (by decide) ?_
      refine g_sub [1, 2, 3, 0] rfl ?_
      exact hK33 l3 x30 h16 hD
def D_Mo_sure (r : TR) (o : Nat) (a1 : Int32) (a2 : Int32) (h : TH) (Q : Int32 → TH → Prop) : Prop :=
  D_Mo_in r a1 0 (h.1 o 60) h (fun x2 h1 => ((x2 = 0 → Q (-1) h1) ∧ (¬ x2 = 0 → D_Mo_isBoat r o a2 h1 (fun x5 h4 => ((¬ x5 = 0 → D_Mo_fillsMayBe r o a1 h4 (fun h7 => ∃ n, lp (fun (K : Int32 × Int32 × TH → Prop) (s : Int32 × Int32 × TH) => DB_Mo_sure_33 r o a2 s.1 s.2.1 s.2.2 (fun y31 y32 h33 => K (y31, y32, h33)) (fun x34 h35 => Q x34 h35) Q) n ((-2), 0, h7))) ∧ (x5 = 0 → Q (-1) h4))))))
set_option maxRecDepth 100000 in
set_option maxHeartbeats 4000000 in
theorem M_Mo_sure {Y : CG} {r : TR} {l : Launch} {o : Nat} {a1 : Int32} {a2 : Int32} {h : TH} {Q : Int32 → TH → Prop} (t0 : TO Y o 8) (hD : D_Mo_sure r o a1 a2 h Q) : Mi Y r l yX8_sure cX8_sure 6 .int 3 [.ref o, .int a1, .int a2] h Q := by
  unfold D_Mo_sure at hD
  refine Mi.of RX8 rfl (by decide) (by simp [lg_sl, Value.category]) [(0, .ref o), (1, .int a1), (2, .int a2)] rfl (fun X hXl C R => ?_)
  subst hXl
  refine g_wt (fun hw => ?_)
  refine g_iload_n (pc := 0) rfl 1 rfl C dX8_sure_0 ?_
  refine g_iconst (pc := 1) (v := 0) (by decide) C dX8_sure_1 ?_
  refine g_aload_n (pc := 2) rfl 0 rfl C dX8_sure_2 ?_
  refine g_getI (pc := 3) C fl_RX8_258 t0 rfl dX8_sure_3 ?_
  refine g_callSi (pc := 6) (As := [.int a1, .int 0, .int (h.1 o 60)]) C ms_RX8_303 (M_Mo_in  hD) (by decide) rfl rfl (Nat.le_of_ble_eq_true rfl) dX8_sure_6 (fun x2 h1 hD => ?_)
  refine g_if_eq (pc := 9) 20 C dX8_sure_9 (by decide) (fun c3 => ?_) (fun c3 => ?_)
  · have hD := hD.1 c3
    refine g_iconst (pc := 20) (v := (-1)) (by decide) C dX8_sure_20 ?_
    exact g_iret (pc := 21) C R dX8_sure_21 hD
  · have hD := hD.2 c3
    refine g_aload_n (pc := 12) rfl 0 rfl C dX8_sure_12 ?_
    refine g_iload_n (pc := 13) rfl 2 rfl C dX8_sure_13 ?_
    refine g_callVi (pc := 14) (As := [.int a2]) C mv_RX8_394 (M_Mo_isBoat t0 hD) t0 (by decide) rfl rfl (Nat.le_of_ble_eq_true rfl) dX8_sure_14 (fun x5 h4 hD => ?_)
    refine g_if_ne (pc := 17) 22 C dX8_sure_17 (by decide) (fun c6 => ?_) (fun c6 => ?_)
    · have hD := hD.1 c6
      refine g_aload_n (pc := 22) rfl 0 rfl C dX8_sure_22 ?_
      refine g_iload_n (pc := 23) rfl 1 rfl C dX8_sure_23 ?_
      refine g_callVv (pc := 24) (As := [.int a1]) C mv_RX8_455 (M_Mo_fillsMayBe t0 hD) t0 (by decide) rfl rfl (Nat.le_of_ble_eq_true rfl) dX8_sure_24 (fun h7 hD => ?_)
      refine g_bipush (pc := 27) (v := (-2)) (by decide) C dX8_sure_27 ?_
      refine g_istore_n (pc := 29) (fun _ => [(3, .int (-2)), (0, .ref o), (1, .int a1), (2, .int a2)]) C dX8_sure_29 rfl (by decide) rfl (fun _ _ => ?_)
      refine g_iconst (pc := 30) (v := 0) (by decide) C dX8_sure_30 ?_
      refine g_istore (pc := 31) (fun _ => [(4, .int 0), (3, .int (-2)), (0, .ref o), (1, .int a1), (2, .int a2)]) C dX8_sure_31 (by decide) rfl (fun _ _ => ?_)
      obtain ⟨n, hD⟩ := hD
      refine g_sub [2, 4, 1, 0] rfl ?_
      refine lp_run (fun s : Int32 × Int32 × TH => G Y X 6 33 [(0, .ref o), (2, .int a2), (3, .int s.1), (4, .int s.2.1)] [] r s.2.2) (fun K s hB hK => ?_) n ((-2), 0, h7) hD
      refine WB_Mo_sure_33 C R t0 (fun y31 y32 h33 hk => hK _ hk) (fun x34 h35 hD => ?_) hB
      · refine g_iload_n (pc := 108) rfl 0 rfl C dX8_sure_108 ?_
        exact g_iret (pc := 109) C R dX8_sure_109 hD
    · have hD := hD.2 c6
      refine g_iconst (pc := 20) (v := (-1)) (by decide) C dX8_sure_20 ?_
      exact g_iret (pc := 21) C R dX8_sure_21 hD
def D_Mo_tell (r : TR) (o : Nat) (a1 : Int32) (a2 : Int32) (h : TH) (Q : Int32 → TH → Prop) : Prop :=
  (((h.1 o 60) = 20 → Q (-1) h) ∧ (¬ (h.1 o 60) = 20 → D_Mo_isBoat r o a1 h (fun x3 h2 => ((x3 = 0 → Q (-1) h2) ∧ (¬ x3 = 0 → D_Mo_isBoat r o a2 h2 (fun x6 h5 => ((¬ x6 = 0 → D_Mo_copies r o h5 (fun h8 => D_Mo_smellsOf r o a1 h8 (fun x12 h11 => vp_in (h8.1 o 60) 20 ∧ ∀ h13, h13 = pI h11 (r o 61) ((h8.1 o 60).toNatClampNeg) x12 → vp_in (h13.1 o 60) 20 ∧ ∀ h15, h15 = pI h13 (r o 62) ((h13.1 o 60).toNatClampNeg) a2 → ∀ h16, h16 = pI h15 o 60 ((h15.1 o 60) + 1) → Q ((h16.1 o 60) - 1) h16))) ∧ (x6 = 0 → Q (-1) h5))))))))
set_option maxRecDepth 100000 in
set_option maxHeartbeats 4000000 in
theorem M_Mo_tell {Y : CG} {r : TR} {l : Launch} {o : Nat} {a1 : Int32} {a2 : Int32} {h : TH} {Q : Int32 → TH → Prop} (t0 : TO Y o 8) (hD : D_Mo_tell r o a1 a2 h Q) : Mi Y r l yX8_tell cX8_tell 3 .int 4 [.ref o, .int a1, .int a2] h Q := by
  unfold D_Mo_tell at hD
  refine Mi.of RX8 rfl (by decide) (by simp [lg_sl, Value.category]) [(0, .ref o), (1, .int a1), (2, .int a2)] rfl (fun X hXl C R => ?_)
  subst hXl
  refine g_wt (fun hw => ?_)
  refine g_aload_n (pc := 0) rfl 0 rfl C dX8_tell_0 ?_
  refine g_getI (pc := 1) C fl_RX8_258 t0 rfl dX8_tell_1 ?_
  refine g_bipush (pc := 4) (v := 20) (by decide) C dX8_tell_4 ?_
  refine g_icmp_eq (pc := 6) 25 C dX8_tell_6 (by decide) (fun c1 => ?_) (fun c1 => ?_)
  · have hD := hD.1 c1
    refine g_iconst (pc := 25) (v := (-1)) (by decide) C dX8_tell_25 ?_
    exact g_iret (pc := 26) C R dX8_tell_26 hD
  · have hD := hD.2 c1
    refine g_aload_n (pc := 9) rfl 0 rfl C dX8_tell_9 ?_
    refine g_iload_n (pc := 10) rfl 1 rfl C dX8_tell_10 ?_
    refine g_callVi (pc := 11) (As := [.int a1]) C mv_RX8_394 (M_Mo_isBoat t0 hD) t0 (by decide) rfl rfl (Nat.le_of_ble_eq_true rfl) dX8_tell_11 (fun x3 h2 hD => ?_)
    refine g_if_eq (pc := 14) 25 C dX8_tell_14 (by decide) (fun c4 => ?_) (fun c4 => ?_)
    · have hD := hD.1 c4
      refine g_iconst (pc := 25) (v := (-1)) (by decide) C dX8_tell_25 ?_
      exact g_iret (pc := 26) C R dX8_tell_26 hD
    · have hD := hD.2 c4
      refine g_aload_n (pc := 17) rfl 0 rfl C dX8_tell_17 ?_
      refine g_iload_n (pc := 18) rfl 2 rfl C dX8_tell_18 ?_
      refine g_callVi (pc := 19) (As := [.int a2]) C mv_RX8_394 (M_Mo_isBoat t0 hD) t0 (by decide) rfl rfl (Nat.le_of_ble_eq_true rfl) dX8_tell_19 (fun x6 h5 hD => ?_)
      refine g_if_ne (pc := 22) 27 C dX8_tell_22 (by decide) (fun c7 => ?_) (fun c7 => ?_)
      · have hD := hD.1 c7
        refine g_aload_n (pc := 27) rfl 0 rfl C dX8_tell_27 ?_
        refine g_callVv (pc := 28) (As := []) C mv_RX8_397 (M_Mo_copies t0 hD) t0 (by decide) rfl rfl (Nat.le_of_ble_eq_true rfl) dX8_tell_28 (fun h8 hD => ?_)
        refine g_aload_n (pc := 31) rfl 0 rfl C dX8_tell_31 ?_
        have u10 : TA Y (r o 61) 10 20 := wt_a hw t0 (by decide) (by decide) rfl
        refine g_getR (pc := 32) C fl_RX8_134 t0 rfl dX8_tell_32 ?_
        refine g_aload_n (pc := 35) rfl 0 rfl C dX8_tell_35 ?_
        refine g_getI (pc := 36) C fl_RX8_258 t0 rfl dX8_tell_36 ?_
        refine g_aload_n (pc := 39) rfl 0 rfl C dX8_tell_39 ?_
        refine g_iload_n (pc := 40) rfl 1 rfl C dX8_tell_40 ?_
        refine g_callVi (pc := 41) (As := [.int a1]) C mv_RX8_370 (M_Mo_smellsOf t0 hD) t0 (by decide) rfl rfl (Nat.le_of_ble_eq_true rfl) dX8_tell_41 (fun x12 h11 hD => ?_)
        obtain ⟨hb, hD⟩ := hD
        refine g_iast (pc := 44) C u10 hb dX8_tell_44 (fun h13 eh13 => ?_)
        have hD := hD h13 eh13
        refine g_aload_n (pc := 45) rfl 0 rfl C dX8_tell_45 ?_
        have u14 : TA Y (r o 62) 10 20 := wt_a hw t0 (by decide) (by decide) rfl
        refine g_getR (pc := 46) C fl_RX8_137 t0 rfl dX8_tell_46 ?_
        refine g_aload_n (pc := 49) rfl 0 rfl C dX8_tell_49 ?_
        refine g_getI (pc := 50) C fl_RX8_258 t0 rfl dX8_tell_50 ?_
        refine g_iload_n (pc := 53) rfl 2 rfl C dX8_tell_53 ?_
        obtain ⟨hb, hD⟩ := hD
        refine g_iast (pc := 54) C u14 hb dX8_tell_54 (fun h15 eh15 => ?_)
        have hD := hD h15 eh15
        refine g_aload_n (pc := 55) rfl 0 rfl C dX8_tell_55 ?_
        refine g_dup (pc := 56) rfl C dX8_tell_56 ?_
        refine g_getI (pc := 57) C fl_RX8_258 t0 rfl dX8_tell_57 ?_
        refine g_iconst (pc := 60) (v := 1) (by decide) C dX8_tell_60 ?_
        refine g_iadd (pc := 61) C dX8_tell_61 ?_
        refine g_putI (pc := 62) C fl_RX8_258 t0 rfl rfl rfl dX8_tell_62 (fun h16 eh16 => ?_)
        have hD := hD h16 eh16
        refine g_aload_n (pc := 65) rfl 0 rfl C dX8_tell_65 ?_
        refine g_getI (pc := 66) C fl_RX8_258 t0 rfl dX8_tell_66 ?_
        refine g_iconst (pc := 69) (v := 1) (by decide) C dX8_tell_69 ?_
        refine g_isub (pc := 70) C dX8_tell_70 ?_
        exact g_iret (pc := 71) C R dX8_tell_71 hD
      · have hD := hD.2 c7
        refine g_iconst (pc := 25) (v := (-1)) (by decide) C dX8_tell_25 ?_
        exact g_iret (pc := 26) C R dX8_tell_26 hD
def D_Mo_then (r : TR) (o : Nat) (a1 : Int32) (a2 : Int32) (a3 : Int32) (h : TH) (Q : Int32 → TH → Prop) : Prop :=
  D_Mo_isBoat r o a1 h (fun x2 h1 => ((x2 = 0 → Q (-1) h1) ∧ (¬ x2 = 0 → D_Mo_isLong r a2 h1 (fun x5 h4 => ((x5 = 0 → Q (-1) h4) ∧ (¬ x5 = 0 → D_Mo_in r a3 0 2 h4 (fun x8 h7 => ((¬ x8 = 0 → D_Mo_copies r o h7 (fun h10 => D_Mo_goes r o a2 h10 (fun h12 => ((¬ a3 = 2 → D_Mo_isLost r o a1 h12 (fun x16 h15 => ((x16 = 0 → ∀ i19 : Int32, i19 = (6 * a3) + a1 → vp_in i19 512 ∧ Q (h15.1 (r o 49) i19.toNatClampNeg) h15) ∧ (¬ x16 = 0 → Q (-2) h15)))) ∧ (a3 = 2 → ∀ i21 : Int32, i21 = 12 + a1 → vp_in i21 512 ∧ ((¬ (h12.1 (r o 49) i21.toNatClampNeg) = 0 → ∀ i24 : Int32, i24 = 12 + a1 → vp_in i24 512 ∧ Q (h12.1 (r o 49) i24.toNatClampNeg) h12) ∧ ((h12.1 (r o 49) i21.toNatClampNeg) = 0 → Q (-2) h12))))))) ∧ (x8 = 0 → Q (-1) h7)))))))))
set_option maxRecDepth 100000 in
set_option maxHeartbeats 4000000 in
theorem M_Mo_then {Y : CG} {r : TR} {l : Launch} {o : Nat} {a1 : Int32} {a2 : Int32} {a3 : Int32} {h : TH} {Q : Int32 → TH → Prop} (t0 : TO Y o 8) (hD : D_Mo_then r o a1 a2 a3 h Q) : Mi Y r l yX8_then cX8_then 4 .int 7 [.ref o, .int a1, .int a2, .int a3] h Q := by
  unfold D_Mo_then at hD
  refine Mi.of RX8 rfl (by decide) (by simp [lg_sl, Value.category]) [(0, .ref o), (1, .int a1), (2, .int a2), (3, .int a3)] rfl (fun X hXl C R => ?_)
  subst hXl
  refine g_wt (fun hw => ?_)
  refine g_aload_n (pc := 0) rfl 0 rfl C dX8_then_0 ?_
  refine g_iload_n (pc := 1) rfl 1 rfl C dX8_then_1 ?_
  refine g_callVi (pc := 2) (As := [.int a1]) C mv_RX8_394 (M_Mo_isBoat t0 hD) t0 (by decide) rfl rfl (Nat.le_of_ble_eq_true rfl) dX8_then_2 (fun x2 h1 hD => ?_)
  refine g_if_eq (pc := 5) 24 C dX8_then_5 (by decide) (fun c3 => ?_) (fun c3 => ?_)
  · have hD := hD.1 c3
    refine g_iconst (pc := 24) (v := (-1)) (by decide) C dX8_then_24 ?_
    exact g_iret (pc := 25) C R dX8_then_25 hD
  · have hD := hD.2 c3
    refine g_iload_n (pc := 8) rfl 2 rfl C dX8_then_8 ?_
    refine g_callSi (pc := 9) (As := [.int a2]) C ms_RX8_409 (M_Mo_isLong  hD) (by decide) rfl rfl (Nat.le_of_ble_eq_true rfl) dX8_then_9 (fun x5 h4 hD => ?_)
    refine g_if_eq (pc := 12) 24 C dX8_then_12 (by decide) (fun c6 => ?_) (fun c6 => ?_)
    · have hD := hD.1 c6
      refine g_iconst (pc := 24) (v := (-1)) (by decide) C dX8_then_24 ?_
      exact g_iret (pc := 25) C R dX8_then_25 hD
    · have hD := hD.2 c6
      refine g_iload_n (pc := 15) rfl 3 rfl C dX8_then_15 ?_
      refine g_iconst (pc := 16) (v := 0) (by decide) C dX8_then_16 ?_
      refine g_iconst (pc := 17) (v := 2) (by decide) C dX8_then_17 ?_
      refine g_callSi (pc := 18) (As := [.int a3, .int 0, .int 2]) C ms_RX8_303 (M_Mo_in  hD) (by decide) rfl rfl (Nat.le_of_ble_eq_true rfl) dX8_then_18 (fun x8 h7 hD => ?_)
      refine g_if_ne (pc := 21) 26 C dX8_then_21 (by decide) (fun c9 => ?_) (fun c9 => ?_)
      · have hD := hD.1 c9
        refine g_aload_n (pc := 26) rfl 0 rfl C dX8_then_26 ?_
        refine g_callVv (pc := 27) (As := []) C mv_RX8_397 (M_Mo_copies t0 hD) t0 (by decide) rfl rfl (Nat.le_of_ble_eq_true rfl) dX8_then_27 (fun h10 hD => ?_)
        refine g_aload_n (pc := 30) rfl 0 rfl C dX8_then_30 ?_
        refine g_iload_n (pc := 31) rfl 2 rfl C dX8_then_31 ?_
        refine g_callVv (pc := 32) (As := [.int a2]) C mv_RX8_403 (M_Mo_goes t0 hD) t0 (by decide) rfl rfl (Nat.le_of_ble_eq_true rfl) dX8_then_32 (fun h12 hD => ?_)
        refine g_iload_n (pc := 35) rfl 3 rfl C dX8_then_35 ?_
        refine g_iconst (pc := 36) (v := 2) (by decide) C dX8_then_36 ?_
        refine g_icmp_ne (pc := 37) 67 C dX8_then_37 (by decide) (fun c14 => ?_) (fun c14 => ?_)
        · have hD := hD.1 c14
          refine g_aload_n (pc := 67) rfl 0 rfl C dX8_then_67 ?_
          refine g_iload_n (pc := 68) rfl 1 rfl C dX8_then_68 ?_
          refine g_callVi (pc := 69) (As := [.int a1]) C mv_RX8_385 (M_Mo_isLost t0 hD) t0 (by decide) rfl rfl (Nat.le_of_ble_eq_true rfl) dX8_then_69 (fun x16 h15 hD => ?_)
          refine g_if_eq (pc := 72) 80 C dX8_then_72 (by decide) (fun c17 => ?_) (fun c17 => ?_)
          · have hD := hD.1 c17
            refine g_aload_n (pc := 80) rfl 0 rfl C dX8_then_80 ?_
            have u18 : TA Y (r o 49) 10 512 := wt_a hw t0 (by decide) (by decide) rfl
            refine g_getR (pc := 81) C fl_RX8_113 t0 rfl dX8_then_81 ?_
            refine g_bipush (pc := 84) (v := 6) (by decide) C dX8_then_84 ?_
            refine g_iload_n (pc := 86) rfl 3 rfl C dX8_then_86 ?_
            refine g_imul (pc := 87) C dX8_then_87 ?_
            refine g_iload_n (pc := 88) rfl 1 rfl C dX8_then_88 ?_
            refine g_iadd (pc := 89) C dX8_then_89 ?_
            refine g_topi (fun i19 ei19 => ?_)
            have hD := hD i19 ei19
            obtain ⟨hb, hD⟩ := hD
            refine g_iald (pc := 90) C u18 hb dX8_then_90 ?_
            exact g_iret (pc := 91) C R dX8_then_91 hD
          · have hD := hD.2 c17
            refine g_bipush (pc := 75) (v := (-2)) (by decide) C dX8_then_75 ?_
            refine g_goto (pc := 77) 91 C dX8_then_77 (by decide) ?_
            exact g_iret (pc := 91) C R dX8_then_91 hD
        · have hD := hD.2 c14
          refine g_aload_n (pc := 40) rfl 0 rfl C dX8_then_40 ?_
          have u20 : TA Y (r o 49) 10 512 := wt_a hw t0 (by decide) (by decide) rfl
          refine g_getR (pc := 41) C fl_RX8_113 t0 rfl dX8_then_41 ?_
          refine g_bipush (pc := 44) (v := 12) (by decide) C dX8_then_44 ?_
          refine g_iload_n (pc := 46) rfl 1 rfl C dX8_then_46 ?_
          refine g_iadd (pc := 47) C dX8_then_47 ?_
          refine g_topi (fun i21 ei21 => ?_)
          have hD := hD i21 ei21
          obtain ⟨hb, hD⟩ := hD
          refine g_iald (pc := 48) C u20 hb dX8_then_48 ?_
          refine g_if_ne (pc := 49) 57 C dX8_then_49 (by decide) (fun c22 => ?_) (fun c22 => ?_)
          · have hD := hD.1 c22
            refine g_aload_n (pc := 57) rfl 0 rfl C dX8_then_57 ?_
            have u23 : TA Y (r o 49) 10 512 := wt_a hw t0 (by decide) (by decide) rfl
            refine g_getR (pc := 58) C fl_RX8_113 t0 rfl dX8_then_58 ?_
            refine g_bipush (pc := 61) (v := 12) (by decide) C dX8_then_61 ?_
            refine g_iload_n (pc := 63) rfl 1 rfl C dX8_then_63 ?_
            refine g_iadd (pc := 64) C dX8_then_64 ?_
            refine g_topi (fun i24 ei24 => ?_)
            have hD := hD i24 ei24
            obtain ⟨hb, hD⟩ := hD
            refine g_iald (pc := 65) C u23 hb dX8_then_65 ?_
            exact g_iret (pc := 66) C R dX8_then_66 hD
          · have hD := hD.2 c22
            refine g_bipush (pc := 52) (v := (-2)) (by decide) C dX8_then_52 ?_
            refine g_goto (pc := 54) 66 C dX8_then_54 (by decide) ?_
            exact g_iret (pc := 66) C R dX8_then_66 hD
      · have hD := hD.2 c9
        refine g_iconst (pc := 24) (v := (-1)) (by decide) C dX8_then_24 ?_
        exact g_iret (pc := 25) C R dX8_then_25 hD
def DB_Mo_undo_21 (r : TR) (l0 : Nat) (l1 : Int32) (h : TH) (K21 : Int32 → TH → Prop) (K55 : TH → Prop) (Q : Int32 → TH → Prop) : Prop :=
  ((512 ≤ l1 → K55 h) ∧ (¬ 512 ≤ l1 → ∀ i7 : Int32, i7 = (512 * (h.1 l0 54)) + l1 → vp_in i7 15360 ∧ vp_in l1 512 ∧ ∀ h8, h8 = pI h (r l0 48) l1.toNatClampNeg (h.1 (r l0 55) i7.toNatClampNeg) → ∀ x9 : Int32, x9 = l1 + 1 → K21 x9 h8))
set_option maxRecDepth 100000 in
set_option maxHeartbeats 4000000 in
theorem WB_Mo_undo_21 {Y : CG} {X : CX} {r : TR} {l0 : Nat} {l1 : Int32} {h : TH} {K21 : Int32 → TH → Prop} {K55 : TH → Prop} {Q : Int32 → TH → Prop} (C : Gd Y X cX8_undo 2 RX8 1) (R : Ri Y r X .boolean Q) (t0 : TO Y l0 8) (hK21 : ∀ (k1 : Int32) (hh : TH), K21 k1 hh → G Y X 2 21 [(0, .ref l0), (1, .int k1)] [] r hh) (hK55 : ∀ (hh : TH), K55 hh → G Y X 2 55 [] [] r hh) (hD : DB_Mo_undo_21 r l0 l1 h K21 K55 Q) : G Y X 2 21 [(0, .ref l0), (1, .int l1)] [] r h := by
  unfold DB_Mo_undo_21 at hD
  refine g_wt (fun hw => ?_)
  refine g_iload_n (pc := 21) rfl 1 rfl C dX8_undo_21 ?_
  refine g_sipush (pc := 22) (v := 512) (by decide) C dX8_undo_22 ?_
  refine g_icmp_ge (pc := 25) 55 C dX8_undo_25 (by decide) (fun c4 => ?_) (fun c4 => ?_)
  · have hD := hD.1 c4
    refine g_sub [] rfl ?_
    exact hK55 h hD
  · have hD := hD.2 c4
    refine g_aload_n (pc := 28) rfl 0 rfl C dX8_undo_28 ?_
    have u5 : TA Y (r l0 48) 10 512 := wt_a hw t0 (by decide) (by decide) rfl
    refine g_getR (pc := 29) C fl_RX8_110 t0 rfl dX8_undo_29 ?_
    refine g_iload_n (pc := 32) rfl 1 rfl C dX8_undo_32 ?_
    refine g_aload_n (pc := 33) rfl 0 rfl C dX8_undo_33 ?_
    have u6 : TA Y (r l0 55) 10 15360 := wt_a hw t0 (by decide) (by decide) rfl
    refine g_getR (pc := 34) C fl_RX8_119 t0 rfl dX8_undo_34 ?_
    refine g_sipush (pc := 37) (v := 512) (by decide) C dX8_undo_37 ?_
    refine g_aload_n (pc := 40) rfl 0 rfl C dX8_undo_40 ?_
    refine g_getI (pc := 41) C fl_RX8_255 t0 rfl dX8_undo_41 ?_
    refine g_imul (pc := 44) C dX8_undo_44 ?_
    refine g_iload_n (pc := 45) rfl 1 rfl C dX8_undo_45 ?_
    refine g_iadd (pc := 46) C dX8_undo_46 ?_
    refine g_topi (fun i7 ei7 => ?_)
    have hD := hD i7 ei7
    obtain ⟨hb, hD⟩ := hD
    refine g_iald (pc := 47) C u6 hb dX8_undo_47 ?_
    obtain ⟨hb, hD⟩ := hD
    refine g_iast (pc := 48) C u5 hb dX8_undo_48 (fun h8 eh8 => ?_)
    have hD := hD h8 eh8
    refine g_iinc (pc := 49) (q := 1) (c := 1) (fun x9 => [(1, .int x9), (0, .ref l0)]) C dX8_undo_49 rfl (by decide) (by decide) rfl (fun x9 ex9 => ?_)
    have hD := hD x9 ex9
    refine g_goto (pc := 52) 21 C dX8_undo_52 (by decide) ?_
    refine g_sub [1, 0] rfl ?_
    exact hK21 x9 h8 hD
def D_Mo_undo (r : TR) (o : Nat) (h : TH) (Q : Int32 → TH → Prop) : Prop :=
  ((¬ (h.1 o 54) = 0 → ∀ h2, h2 = pI h o 54 ((h.1 o 54) - 1) → ∃ n, lp (fun (K : Int32 × TH → Prop) (s : Int32 × TH) => DB_Mo_undo_21 r o s.1 s.2 (fun y10 h11 => K (y10, h11)) (fun h12 => Q 1 h12) Q) n (0, h2)) ∧ ((h.1 o 54) = 0 → Q 0 h))
set_option maxRecDepth 100000 in
set_option maxHeartbeats 4000000 in
theorem M_Mo_undo {Y : CG} {r : TR} {l : Launch} {o : Nat} {h : TH} {Q : Int32 → TH → Prop} (t0 : TO Y o 8) (hD : D_Mo_undo r o h Q) : Mi Y r l yX8_undo cX8_undo 2 .boolean 1 [.ref o] h Q := by
  unfold D_Mo_undo at hD
  refine Mi.of RX8 rfl (by decide) (by simp [lg_sl, Value.category]) [(0, .ref o)] rfl (fun X hXl C R => ?_)
  subst hXl
  refine g_wt (fun hw => ?_)
  refine g_aload_n (pc := 0) rfl 0 rfl C dX8_undo_0 ?_
  refine g_getI (pc := 1) C fl_RX8_255 t0 rfl dX8_undo_1 ?_
  refine g_if_ne (pc := 4) 9 C dX8_undo_4 (by decide) (fun c1 => ?_) (fun c1 => ?_)
  · have hD := hD.1 c1
    refine g_aload_n (pc := 9) rfl 0 rfl C dX8_undo_9 ?_
    refine g_dup (pc := 10) rfl C dX8_undo_10 ?_
    refine g_getI (pc := 11) C fl_RX8_255 t0 rfl dX8_undo_11 ?_
    refine g_iconst (pc := 14) (v := 1) (by decide) C dX8_undo_14 ?_
    refine g_isub (pc := 15) C dX8_undo_15 ?_
    refine g_putI (pc := 16) C fl_RX8_255 t0 rfl rfl rfl dX8_undo_16 (fun h2 eh2 => ?_)
    have hD := hD h2 eh2
    refine g_iconst (pc := 19) (v := 0) (by decide) C dX8_undo_19 ?_
    refine g_istore_n (pc := 20) (fun _ => [(1, .int 0), (0, .ref o)]) C dX8_undo_20 rfl (by decide) rfl (fun _ _ => ?_)
    obtain ⟨n, hD⟩ := hD
    refine g_sub [1, 0] rfl ?_
    refine lp_run (fun s : Int32 × TH => G Y X 2 21 [(0, .ref o), (1, .int s.1)] [] r s.2) (fun K s hB hK => ?_) n (0, h2) hD
    refine WB_Mo_undo_21 C R t0 (fun y10 h11 hk => hK _ hk) (fun h12 hD => ?_) hB
    · refine g_iconst (pc := 55) (v := 1) (by decide) C dX8_undo_55 ?_
      exact g_zret (pc := 56) C R nz_1 dX8_undo_56 hD
  · have hD := hD.2 c1
    refine g_iconst (pc := 7) (v := 0) (by decide) C dX8_undo_7 ?_
    exact g_zret (pc := 8) C R nz_0 dX8_undo_8 hD
def D_Mo_wind (r : TR) (o : Nat) (a1 : Int32) (h : TH) (Q : Int32 → TH → Prop) : Prop :=
  D_Mo_in r a1 0 999 h (fun x2 h1 => ((x2 = 0 → Q (-1) h1) ∧ (¬ x2 = 0 → D_Mo_windIn r o a1 h1 (fun x5 h4 => Q x5 h4))))
set_option maxRecDepth 100000 in
set_option maxHeartbeats 4000000 in
theorem M_Mo_wind {Y : CG} {r : TR} {l : Launch} {o : Nat} {a1 : Int32} {h : TH} {Q : Int32 → TH → Prop} (t0 : TO Y o 8) (hD : D_Mo_wind r o a1 h Q) : Mi Y r l yX8_wind cX8_wind 2 .int 4 [.ref o, .int a1] h Q := by
  unfold D_Mo_wind at hD
  refine Mi.of RX8 rfl (by decide) (by simp [lg_sl, Value.category]) [(0, .ref o), (1, .int a1)] rfl (fun X hXl C R => ?_)
  subst hXl
  refine g_wt (fun hw => ?_)
  refine g_iload_n (pc := 0) rfl 1 rfl C dX8_wind_0 ?_
  refine g_iconst (pc := 1) (v := 0) (by decide) C dX8_wind_1 ?_
  refine g_sipush (pc := 2) (v := 999) (by decide) C dX8_wind_2 ?_
  refine g_callSi (pc := 5) (As := [.int a1, .int 0, .int 999]) C ms_RX8_303 (M_Mo_in  hD) (by decide) rfl rfl (Nat.le_of_ble_eq_true rfl) dX8_wind_5 (fun x2 h1 hD => ?_)
  refine g_if_eq (pc := 8) 19 C dX8_wind_8 (by decide) (fun c3 => ?_) (fun c3 => ?_)
  · have hD := hD.1 c3
    refine g_iconst (pc := 19) (v := (-1)) (by decide) C dX8_wind_19 ?_
    exact g_iret (pc := 20) C R dX8_wind_20 hD
  · have hD := hD.2 c3
    refine g_aload_n (pc := 11) rfl 0 rfl C dX8_wind_11 ?_
    refine g_iload_n (pc := 12) rfl 1 rfl C dX8_wind_12 ?_
    refine g_callVi (pc := 13) (As := [.int a1]) C mv_RX8_344 (M_Mo_windIn t0 hD) t0 (by decide) rfl rfl (Nat.le_of_ble_eq_true rfl) dX8_wind_13 (fun x5 h4 hD => ?_)
    refine g_goto (pc := 16) 20 C dX8_wind_16 (by decide) ?_
    exact g_iret (pc := 20) C R dX8_wind_20 hD
