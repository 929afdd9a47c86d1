def DB_SR_lost_18 (r : TR) (l0 : Nat) (l1 : Int32) (l2 : Int32) (h : TH) (K18 : Int32 → TH → Prop) (K84 : TH → Prop) (Q : Int32 → TH → Prop) : Prop :=
  ((100 < l2 → K84 h) ∧ (¬ 100 < l2 → D_Bay_passHour r (r l0 1) (r l0 3) (h.1 (r l0 1) 4) h (fun h11 => ∀ x15 : Int32, x15 = (h11.1 (r l0 3) 2) &&& ((h11.1 (r l0 2) 2) ^^^ (-1)) → ((x15 = 0 → ∀ x17 : Int32, x17 = l2 + 1 → K18 x17 h11) ∧ (¬ x15 = 0 → ((¬ l1 = 1 → D_SR_leastOf r x15 h11 (fun x20 h19 => Q x20 h19)) ∧ (l1 = 1 → Q l2 h11)))))))
set_option maxRecDepth 100000 in
set_option maxHeartbeats 4000000 in
theorem WB_SR_lost_18 {Y : CG} {X : CX} {r : TR} {l0 : Nat} {l1 : Int32} {l2 : Int32} {h : TH} {K18 : Int32 → TH → Prop} {K84 : TH → Prop} {Q : Int32 → TH → Prop} (C : Gd Y X cX7_lost 4 RX7 8) (R : Ri Y r X .int Q) (t0 : TO Y l0 7) (hK18 : ∀ (k2 : Int32) (hh : TH), K18 k2 hh → G Y X 4 18 [(0, .ref l0), (1, .int l1), (2, .int k2)] [] r hh) (hK84 : ∀ (hh : TH), K84 hh → G Y X 4 84 [] [] r hh) (hD : DB_SR_lost_18 r l0 l1 l2 h K18 K84 Q) : G Y X 4 18 [(0, .ref l0), (1, .int l1), (2, .int l2)] [] r h := by
  unfold DB_SR_lost_18 at hD
  refine g_wt (fun hw => ?_)
  refine g_iload_n (pc := 18) rfl 2 rfl C dX7_lost_18 ?_
  refine g_bipush (pc := 19) (v := 100) (by decide) C dX7_lost_19 ?_
  refine g_icmp_gt (pc := 21) 84 C dX7_lost_21 (by decide) (fun c7 => ?_) (fun c7 => ?_)
  · have hD := hD.1 c7
    refine g_sub [] rfl ?_
    exact hK84 h hD
  · have hD := hD.2 c7
    refine g_aload_n (pc := 24) rfl 0 rfl C dX7_lost_24 ?_
    have u8 : TO Y (r l0 1) 0 := wt_o hw t0 (by decide) rfl
    refine g_getR (pc := 25) C fl_RX7_19 t0 rfl dX7_lost_25 ?_
    refine g_aload_n (pc := 28) rfl 0 rfl C dX7_lost_28 ?_
    have u9 : TO Y (r l0 3) 5 := wt_o hw t0 (by decide) rfl
    refine g_getR (pc := 29) C fl_RX7_30 t0 rfl dX7_lost_29 ?_
    refine g_aload_n (pc := 32) rfl 0 rfl C dX7_lost_32 ?_
    have u10 : TO Y (r l0 1) 0 := wt_o hw t0 (by decide) rfl
    refine g_getR (pc := 33) C fl_RX7_19 t0 rfl dX7_lost_33 ?_
    refine g_getI (pc := 36) C fl_RX7_119 u10 rfl dX7_lost_36 ?_
    refine g_callVv (pc := 39) (As := [.ref (r l0 3), .int (h.1 (r l0 1) 4)]) C mv_RX7_226 (M_Bay_passHour u8 u9 hD) u8 (by decide) rfl rfl (Nat.le_of_ble_eq_true rfl) dX7_lost_39 (fun h11 hD => ?_)
    refine g_aload_n (pc := 42) rfl 0 rfl C dX7_lost_42 ?_
    have u13 : TO Y (r l0 3) 5 := wt_o hw t0 (by decide) rfl
    refine g_getR (pc := 43) C fl_RX7_30 t0 rfl dX7_lost_43 ?_
    refine g_getI (pc := 46) C fl_RX7_113 u13 rfl dX7_lost_46 ?_
    refine g_aload_n (pc := 49) rfl 0 rfl C dX7_lost_49 ?_
    have u14 : TO Y (r l0 2) 5 := wt_o hw t0 (by decide) rfl
    refine g_getR (pc := 50) C fl_RX7_26 t0 rfl dX7_lost_50 ?_
    refine g_getI (pc := 53) C fl_RX7_113 u14 rfl dX7_lost_53 ?_
    refine g_iconst (pc := 56) (v := (-1)) (by decide) C dX7_lost_56 ?_
    refine g_ixor (pc := 57) C dX7_lost_57 ?_
    refine g_iand (pc := 58) C dX7_lost_58 ?_
    refine g_istore_n (pc := 59) (fun x15 => [(3, .int x15), (0, .ref l0), (1, .int l1), (2, .int l2)]) C dX7_lost_59 rfl (by decide) rfl (fun x15 ex15 => ?_)
    have hD := hD x15 ex15
    refine g_iload_n (pc := 60) rfl 0 rfl C dX7_lost_60 ?_
    refine g_if_eq (pc := 61) 78 C dX7_lost_61 (by decide) (fun c16 => ?_) (fun c16 => ?_)
    · have hD := hD.1 c16
      refine g_iinc (pc := 78) (q := 3) (c := 1) (fun x17 => [(2, .int x17), (3, .int x15), (0, .ref l0), (1, .int l1)]) C dX7_lost_78 rfl (by decide) (by decide) rfl (fun x17 ex17 => ?_)
      have hD := hD x17 ex17
      refine g_goto (pc := 81) 18 C dX7_lost_81 (by decide) ?_
      refine g_sub [2, 3, 0] rfl ?_
      exact hK18 x17 h11 hD
    · have hD := hD.2 c16
      refine g_iload_n (pc := 64) rfl 2 rfl C dX7_lost_64 ?_
      refine g_iconst (pc := 65) (v := 1) (by decide) C dX7_lost_65 ?_
      refine g_icmp_ne (pc := 66) 73 C dX7_lost_66 (by decide) (fun c18 => ?_) (fun c18 => ?_)
      · have hD := hD.1 c18
        refine g_iload_n (pc := 73) rfl 0 rfl C dX7_lost_73 ?_
        refine g_callSi (pc := 74) (As := [.int x15]) C ms_RX7_270 (M_SR_leastOf  hD) (by decide) rfl rfl (Nat.le_of_ble_eq_true rfl) dX7_lost_74 (fun x20 h19 hD => ?_)
        exact g_iret (pc := 77) C R dX7_lost_77 hD
      · have hD := hD.2 c18
        refine g_iload_n (pc := 69) rfl 3 rfl C dX7_lost_69 ?_
        refine g_goto (pc := 70) 77 C dX7_lost_70 (by decide) ?_
        exact g_iret (pc := 77) C R dX7_lost_77 hD
def D_SR_lost (r : TR) (o : Nat) (a1 : Int32) (h : TH) (Q : Int32 → TH → Prop) : Prop :=
  D_SR_isWithin r a1 0 1 h (fun x2 h1 => ((¬ x2 = 0 → D_SR_lookAhead r o 0 h1 (fun h4 => ∃ n, lp (fun (K : Int32 × TH → Prop) (s : Int32 × TH) => DB_SR_lost_18 r o a1 s.1 s.2 (fun y21 h22 => K (y21, h22)) (fun h23 => Q (-2) h23) Q) n (1, h4))) ∧ (x2 = 0 → Q (-1) h1)))
set_option maxRecDepth 100000 in
set_option maxHeartbeats 4000000 in
theorem M_SR_lost {Y : CG} {r : TR} {l : Launch} {o : Nat} {a1 : Int32} {h : TH} {Q : Int32 → TH → Prop} (t0 : TO Y o 7) (hD : D_SR_lost r o a1 h Q) : Mi Y r l yX7_lost cX7_lost 4 .int 8 [.ref o, .int a1] h Q := by
  unfold D_SR_lost at hD
  refine Mi.of RX7 rfl (by decide) (by simp [lg_sl, Value.category]) [(0, .ref o), (1, .int a1)] rfl (fun X hXl C R => ?_)
  subst hXl
  refine g_wt (fun hw => ?_)
  refine g_iload_n (pc := 0) rfl 1 rfl C dX7_lost_0 ?_
  refine g_iconst (pc := 1) (v := 0) (by decide) C dX7_lost_1 ?_
  refine g_iconst (pc := 2) (v := 1) (by decide) C dX7_lost_2 ?_
  refine g_callSi (pc := 3) (As := [.int a1, .int 0, .int 1]) C ms_RX7_169 (M_SR_isWithin  hD) (by decide) rfl rfl (Nat.le_of_ble_eq_true rfl) dX7_lost_3 (fun x2 h1 hD => ?_)
  refine g_if_ne (pc := 6) 11 C dX7_lost_6 (by decide) (fun c3 => ?_) (fun c3 => ?_)
  · have hD := hD.1 c3
    refine g_aload_n (pc := 11) rfl 0 rfl C dX7_lost_11 ?_
    refine g_iconst (pc := 12) (v := 0) (by decide) C dX7_lost_12 ?_
    refine g_callVv (pc := 13) (As := [.int 0]) C mv_RX7_193 (M_SR_lookAhead t0 hD) t0 (by decide) rfl rfl (Nat.le_of_ble_eq_true rfl) dX7_lost_13 (fun h4 hD => ?_)
    refine g_iconst (pc := 16) (v := 1) (by decide) C dX7_lost_16 ?_
    refine g_istore_n (pc := 17) (fun _ => [(2, .int 1), (0, .ref o), (1, .int a1)]) C dX7_lost_17 rfl (by decide) rfl (fun _ _ => ?_)
    obtain ⟨n, hD⟩ := hD
    refine g_sub [1, 2, 0] rfl ?_
    refine lp_run (fun s : Int32 × TH => G Y X 4 18 [(0, .ref o), (1, .int a1), (2, .int s.1)] [] r s.2) (fun K s hB hK => ?_) n (1, h4) hD
    refine WB_SR_lost_18 C R t0 (fun y21 h22 hk => hK _ hk) (fun h23 hD => ?_) hB
    · refine g_bipush (pc := 84) (v := (-2)) (by decide) C dX7_lost_84 ?_
      exact g_iret (pc := 86) C R dX7_lost_86 hD
  · have hD := hD.2 c3
    refine g_iconst (pc := 9) (v := (-1)) (by decide) C dX7_lost_9 ?_
    exact g_iret (pc := 10) C R dX7_lost_10 hD
def D_SR_lostWithRock (r : TR) (o : Nat) (a1 : Int32) (a2 : Int32) (h : TH) (Q : Int32 → TH → Prop) : Prop :=
  vp_in a1 40 ∧ ∀ h3, h3 = pI h (r (r o 1) 5) a1.toNatClampNeg 1 → D_Bay_begin r (r o 1) (r o 3) h3 (fun h6 => D_Bay_passHours r (r o 1) (r o 3) a2 (h6.1 (r o 1) 4) h6 (fun h11 => vp_in a1 40 ∧ ∀ h15, h15 = pI h11 (r (r o 1) 5) a1.toNatClampNeg 0 → Q (h15.1 (r o 3) 2) h15))
set_option maxRecDepth 100000 in
set_option maxHeartbeats 4000000 in
theorem M_SR_lostWithRock {Y : CG} {r : TR} {l : Launch} {o : Nat} {a1 : Int32} {a2 : Int32} {h : TH} {Q : Int32 → TH → Prop} (t0 : TO Y o 7) (hD : D_SR_lostWithRock r o a1 a2 h Q) : Mi Y r l yX7_lostWithRock cX7_lostWithRock 3 .int 7 [.ref o, .int a1, .int a2] h Q := by
  unfold D_SR_lostWithRock at hD
  refine Mi.of RX7 rfl (by decide) (by simp [lg_sl, Value.category]) [(0, .ref o), (1, .int a1), (2, .int a2)] rfl (fun X hXl C R => ?_)
  subst hXl
  refine g_wt (fun hw => ?_)
  refine g_aload_n (pc := 0) rfl 0 rfl C dX7_lostWithRock_0 ?_
  have u1 : TO Y (r o 1) 0 := wt_o hw t0 (by decide) rfl
  refine g_getR (pc := 1) C fl_RX7_19 t0 rfl dX7_lostWithRock_1 ?_
  have u2 : TA Y (r (r o 1) 5) 10 40 := wt_a hw u1 (by decide) (by decide) rfl
  refine g_getR (pc := 4) C fl_RX7_144 u1 rfl dX7_lostWithRock_4 ?_
  refine g_iload_n (pc := 7) rfl 1 rfl C dX7_lostWithRock_7 ?_
  refine g_iconst (pc := 8) (v := 1) (by decide) C dX7_lostWithRock_8 ?_
  obtain ⟨hb, hD⟩ := hD
  refine g_iast (pc := 9) C u2 hb dX7_lostWithRock_9 (fun h3 eh3 => ?_)
  have hD := hD h3 eh3
  refine g_aload_n (pc := 10) rfl 0 rfl C dX7_lostWithRock_10 ?_
  have u4 : TO Y (r o 1) 0 := wt_o hw t0 (by decide) rfl
  refine g_getR (pc := 11) C fl_RX7_19 t0 rfl dX7_lostWithRock_11 ?_
  refine g_aload_n (pc := 14) rfl 0 rfl C dX7_lostWithRock_14 ?_
  have u5 : TO Y (r o 3) 5 := wt_o hw t0 (by decide) rfl
  refine g_getR (pc := 15) C fl_RX7_30 t0 rfl dX7_lostWithRock_15 ?_
  refine g_callVv (pc := 18) (As := [.ref (r o 3)]) C mv_RX7_86 (M_Bay_begin u4 u5 hD) u4 (by decide) rfl rfl (Nat.le_of_ble_eq_true rfl) dX7_lostWithRock_18 (fun h6 hD => ?_)
  refine g_aload_n (pc := 21) rfl 0 rfl C dX7_lostWithRock_21 ?_
  have u8 : TO Y (r o 1) 0 := wt_o hw t0 (by decide) rfl
  refine g_getR (pc := 22) C fl_RX7_19 t0 rfl dX7_lostWithRock_22 ?_
  refine g_aload_n (pc := 25) rfl 0 rfl C dX7_lostWithRock_25 ?_
  have u9 : TO Y (r o 3) 5 := wt_o hw t0 (by decide) rfl
  refine g_getR (pc := 26) C fl_RX7_30 t0 rfl dX7_lostWithRock_26 ?_
  refine g_iload_n (pc := 29) rfl 2 rfl C dX7_lostWithRock_29 ?_
  refine g_aload_n (pc := 30) rfl 0 rfl C dX7_lostWithRock_30 ?_
  have u10 : TO Y (r o 1) 0 := wt_o hw t0 (by decide) rfl
  refine g_getR (pc := 31) C fl_RX7_19 t0 rfl dX7_lostWithRock_31 ?_
  refine g_getI (pc := 34) C fl_RX7_119 u10 rfl dX7_lostWithRock_34 ?_
  refine g_callVv (pc := 37) (As := [.ref (r o 3), .int a2, .int (h6.1 (r o 1) 4)]) C mv_RX7_182 (M_Bay_passHours u8 u9 hD) u8 (by decide) rfl rfl (Nat.le_of_ble_eq_true rfl) dX7_lostWithRock_37 (fun h11 hD => ?_)
  refine g_aload_n (pc := 40) rfl 0 rfl C dX7_lostWithRock_40 ?_
  have u13 : TO Y (r o 1) 0 := wt_o hw t0 (by decide) rfl
  refine g_getR (pc := 41) C fl_RX7_19 t0 rfl dX7_lostWithRock_41 ?_
  have u14 : TA Y (r (r o 1) 5) 10 40 := wt_a hw u13 (by decide) (by decide) rfl
  refine g_getR (pc := 44) C fl_RX7_144 u13 rfl dX7_lostWithRock_44 ?_
  refine g_iload_n (pc := 47) rfl 1 rfl C dX7_lostWithRock_47 ?_
  refine g_iconst (pc := 48) (v := 0) (by decide) C dX7_lostWithRock_48 ?_
  obtain ⟨hb, hD⟩ := hD
  refine g_iast (pc := 49) C u14 hb dX7_lostWithRock_49 (fun h15 eh15 => ?_)
  have hD := hD h15 eh15
  refine g_aload_n (pc := 50) rfl 0 rfl C dX7_lostWithRock_50 ?_
  have u16 : TO Y (r o 3) 5 := wt_o hw t0 (by decide) rfl
  refine g_getR (pc := 51) C fl_RX7_30 t0 rfl dX7_lostWithRock_51 ?_
  refine g_getI (pc := 54) C fl_RX7_113 u16 rfl dX7_lostWithRock_54 ?_
  exact g_iret (pc := 57) C R dX7_lostWithRock_57 hD
def D_SR_many (r : TR) (o : Nat) (a1 : Int32) (a2 : Int32) (h : TH) (Q : Int32 → TH → Prop) : Prop :=
  D_SR_isWithin r a1 0 100 h (fun x2 h1 => ((¬ x2 = 0 → D_SR_lookAhead r o a1 h1 (fun h4 => ((a2 = 0 → D_JI_bitCount r (h4.1 (r o 3) 3) h4 (fun x9 h8 => Q x9 h8)) ∧ (¬ a2 = 0 → D_JI_bitCount r (h4.1 (r o 3) 2) h4 (fun x12 h11 => Q x12 h11))))) ∧ (x2 = 0 → Q (-1) h1)))
set_option maxRecDepth 100000 in
set_option maxHeartbeats 4000000 in
theorem M_SR_many {Y : CG} {r : TR} {l : Launch} {o : Nat} {a1 : Int32} {a2 : Int32} {h : TH} {Q : Int32 → TH → Prop} (t0 : TO Y o 7) (hD : D_SR_many r o a1 a2 h Q) : Mi Y r l yX7_many cX7_many 3 .int 8 [.ref o, .int a1, .int a2] h Q := by
  unfold D_SR_many at hD
  refine Mi.of RX7 rfl (by decide) (by simp [lg_sl, Value.category]) [(0, .ref o), (1, .int a1), (2, .int a2)] rfl (fun X hXl C R => ?_)
  subst hXl
  refine g_wt (fun hw => ?_)
  refine g_iload_n (pc := 0) rfl 1 rfl C dX7_many_0 ?_
  refine g_iconst (pc := 1) (v := 0) (by decide) C dX7_many_1 ?_
  refine g_bipush (pc := 2) (v := 100) (by decide) C dX7_many_2 ?_
  refine g_callSi (pc := 4) (As := [.int a1, .int 0, .int 100]) C ms_RX7_169 (M_SR_isWithin  hD) (by decide) rfl rfl (Nat.le_of_ble_eq_true rfl) dX7_many_4 (fun x2 h1 hD => ?_)
  refine g_if_ne (pc := 7) 12 C dX7_many_7 (by decide) (fun c3 => ?_) (fun c3 => ?_)
  · have hD := hD.1 c3
    refine g_aload_n (pc := 12) rfl 0 rfl C dX7_many_12 ?_
    refine g_iload_n (pc := 13) rfl 1 rfl C dX7_many_13 ?_
    refine g_callVv (pc := 14) (As := [.int a1]) C mv_RX7_193 (M_SR_lookAhead t0 hD) t0 (by decide) rfl rfl (Nat.le_of_ble_eq_true rfl) dX7_many_14 (fun h4 hD => ?_)
    refine g_iload_n (pc := 17) rfl 2 rfl C dX7_many_17 ?_
    refine g_if_eq (pc := 18) 31 C dX7_many_18 (by decide) (fun c6 => ?_) (fun c6 => ?_)
    · have hD := hD.1 c6
      refine g_aload_n (pc := 31) rfl 0 rfl C dX7_many_31 ?_
      have u7 : TO Y (r o 3) 5 := wt_o hw t0 (by decide) rfl
      refine g_getR (pc := 32) C fl_RX7_30 t0 rfl dX7_many_32 ?_
      refine g_getI (pc := 35) C fl_RX7_196 u7 rfl dX7_many_35 ?_
      refine g_callSi (pc := 38) (As := [.int (h4.1 (r o 3) 3)]) C ms_RX7_199 (M_JI_bitCount  hD) (by decide) rfl rfl (Nat.le_of_ble_eq_true rfl) dX7_many_38 (fun x9 h8 hD => ?_)
      exact g_iret (pc := 41) C R dX7_many_41 hD
    · have hD := hD.2 c6
      refine g_aload_n (pc := 21) rfl 0 rfl C dX7_many_21 ?_
      have u10 : TO Y (r o 3) 5 := wt_o hw t0 (by decide) rfl
      refine g_getR (pc := 22) C fl_RX7_30 t0 rfl dX7_many_22 ?_
      refine g_getI (pc := 25) C fl_RX7_113 u10 rfl dX7_many_25 ?_
      refine g_goto (pc := 28) 38 C dX7_many_28 (by decide) ?_
      refine g_callSi (pc := 38) (As := [.int (h4.1 (r o 3) 2)]) C ms_RX7_199 (M_JI_bitCount  hD) (by decide) rfl rfl (Nat.le_of_ble_eq_true rfl) dX7_many_38 (fun x12 h11 hD => ?_)
      exact g_iret (pc := 41) C R dX7_many_41 hD
  · have hD := hD.2 c3
    refine g_iconst (pc := 10) (v := (-1)) (by decide) C dX7_many_10 ?_
    exact g_iret (pc := 11) C R dX7_many_11 hD
def DB_SR_mayBeRock_16 (r : TR) (l0 : Nat) (l1 : Int32) (l2 : Int32) (h : TH) (K16 : Int32 → TH → Prop) (K47 : TH → Prop) (Q : Int32 → TH → Prop) : Prop :=
  (((h.1 (r l0 1) 2) ≤ l2 → K47 h) ∧ (¬ (h.1 (r l0 1) 2) ≤ l2 → D_Bay_startOf r (r l0 1) l2 h (fun x9 h8 => ((¬ x9 = l1 → ∀ x11 : Int32, x11 = l2 + 1 → K16 x11 h8) ∧ (x9 = l1 → Q 0 h8)))))
set_option maxRecDepth 100000 in
set_option maxHeartbeats 4000000 in
theorem WB_SR_mayBeRock_16 {Y : CG} {X : CX} {r : TR} {l0 : Nat} {l1 : Int32} {l2 : Int32} {h : TH} {K16 : Int32 → TH → Prop} {K47 : TH → Prop} {Q : Int32 → TH → Prop} (C : Gd Y X cX7_mayBeRock 3 RX7 2) (R : Ri Y r X .boolean Q) (t0 : TO Y l0 7) (hK16 : ∀ (k2 : Int32) (hh : TH), K16 k2 hh → G Y X 3 16 [(0, .ref l0), (1, .int l1), (2, .int k2)] [] r hh) (hK47 : ∀ (hh : TH), K47 hh → G Y X 3 47 [] [] r hh) (hD : DB_SR_mayBeRock_16 r l0 l1 l2 h K16 K47 Q) : G Y X 3 16 [(0, .ref l0), (1, .int l1), (2, .int l2)] [] r h := by
  unfold DB_SR_mayBeRock_16 at hD
  refine g_wt (fun hw => ?_)
  refine g_iload_n (pc := 16) rfl 2 rfl C dX7_mayBeRock_16 ?_
  refine g_aload_n (pc := 17) rfl 0 rfl C dX7_mayBeRock_17 ?_
  have u5 : TO Y (r l0 1) 0 := wt_o hw t0 (by decide) rfl
  refine g_getR (pc := 18) C fl_RX7_19 t0 rfl dX7_mayBeRock_18 ?_
  refine g_getI (pc := 21) C fl_RX7_133 u5 rfl dX7_mayBeRock_21 ?_
  refine g_icmp_ge (pc := 24) 47 C dX7_mayBeRock_24 (by decide) (fun c6 => ?_) (fun c6 => ?_)
  · have hD := hD.1 c6
    refine g_sub [] rfl ?_
    exact hK47 h hD
  · have hD := hD.2 c6
    refine g_aload_n (pc := 27) rfl 0 rfl C dX7_mayBeRock_27 ?_
    have u7 : TO Y (r l0 1) 0 := wt_o hw t0 (by decide) rfl
    refine g_getR (pc := 28) C fl_RX7_19 t0 rfl dX7_mayBeRock_28 ?_
    refine g_iload_n (pc := 31) rfl 2 rfl C dX7_mayBeRock_31 ?_
    refine g_callVi (pc := 32) (As := [.int l2]) C mv_RX7_295 (M_Bay_startOf u7 hD) u7 (by decide) rfl rfl (Nat.le_of_ble_eq_true rfl) dX7_mayBeRock_32 (fun x9 h8 hD => ?_)
    refine g_iload_n (pc := 35) rfl 1 rfl C dX7_mayBeRock_35 ?_
    refine g_icmp_ne (pc := 36) 41 C dX7_mayBeRock_36 (by decide) (fun c10 => ?_) (fun c10 => ?_)
    · have hD := hD.1 c10
      refine g_iinc (pc := 41) (q := 2) (c := 1) (fun x11 => [(2, .int x11), (0, .ref l0), (1, .int l1)]) C dX7_mayBeRock_41 rfl (by decide) (by decide) rfl (fun x11 ex11 => ?_)
      have hD := hD x11 ex11
      refine g_goto (pc := 44) 16 C dX7_mayBeRock_44 (by decide) ?_
      refine g_sub [1, 2, 0] rfl ?_
      exact hK16 x11 h8 hD
    · have hD := hD.2 c10
      refine g_iconst (pc := 39) (v := 0) (by decide) C dX7_mayBeRock_39 ?_
      exact g_zret (pc := 40) C R nz_0 dX7_mayBeRock_40 hD
def D_SR_mayBeRock (r : TR) (o : Nat) (a1 : Int32) (h : TH) (Q : Int32 → TH → Prop) : Prop :=
  vp_in a1 40 ∧ (((h.1 (r (r o 1) 5) a1.toNatClampNeg) = 0 → ∃ n, lp (fun (K : Int32 × TH → Prop) (s : Int32 × TH) => DB_SR_mayBeRock_16 r o a1 s.1 s.2 (fun y12 h13 => K (y12, h13)) (fun h14 => Q 1 h14) Q) n (0, h)) ∧ (¬ (h.1 (r (r o 1) 5) a1.toNatClampNeg) = 0 → Q 0 h))
set_option maxRecDepth 100000 in
set_option maxHeartbeats 4000000 in
theorem M_SR_mayBeRock {Y : CG} {r : TR} {l : Launch} {o : Nat} {a1 : Int32} {h : TH} {Q : Int32 → TH → Prop} (t0 : TO Y o 7) (hD : D_SR_mayBeRock r o a1 h Q) : Mi Y r l yX7_mayBeRock cX7_mayBeRock 3 .boolean 2 [.ref o, .int a1] h Q := by
  unfold D_SR_mayBeRock at hD
  refine Mi.of RX7 rfl (by decide) (by simp [lg_sl, Value.category]) [(0, .ref o), (1, .int a1)] rfl (fun X hXl C R => ?_)
  subst hXl
  refine g_wt (fun hw => ?_)
  refine g_aload_n (pc := 0) rfl 0 rfl C dX7_mayBeRock_0 ?_
  have u1 : TO Y (r o 1) 0 := wt_o hw t0 (by decide) rfl
  refine g_getR (pc := 1) C fl_RX7_19 t0 rfl dX7_mayBeRock_1 ?_
  have u2 : TA Y (r (r o 1) 5) 10 40 := wt_a hw u1 (by decide) (by decide) rfl
  refine g_getR (pc := 4) C fl_RX7_144 u1 rfl dX7_mayBeRock_4 ?_
  refine g_iload_n (pc := 7) rfl 1 rfl C dX7_mayBeRock_7 ?_
  obtain ⟨hb, hD⟩ := hD
  refine g_iald (pc := 8) C u2 hb dX7_mayBeRock_8 ?_
  refine g_if_eq (pc := 9) 14 C dX7_mayBeRock_9 (by decide) (fun c3 => ?_) (fun c3 => ?_)
  · have hD := hD.1 c3
    refine g_iconst (pc := 14) (v := 0) (by decide) C dX7_mayBeRock_14 ?_
    refine g_istore_n (pc := 15) (fun _ => [(2, .int 0), (0, .ref o), (1, .int a1)]) C dX7_mayBeRock_15 rfl (by decide) rfl (fun _ _ => ?_)
    obtain ⟨n, hD⟩ := hD
    refine g_sub [1, 2, 0] rfl ?_
    refine lp_run (fun s : Int32 × TH => G Y X 3 16 [(0, .ref o), (1, .int a1), (2, .int s.1)] [] r s.2) (fun K s hB hK => ?_) n (0, h) hD
    refine WB_SR_mayBeRock_16 C R t0 (fun y12 h13 hk => hK _ hk) (fun h14 hD => ?_) hB
    · refine g_iconst (pc := 47) (v := 1) (by decide) C dX7_mayBeRock_47 ?_
      exact g_zret (pc := 48) C R nz_1 dX7_mayBeRock_48 hD
  · have hD := hD.2 c3
    refine g_iconst (pc := 12) (v := 0) (by decide) C dX7_mayBeRock_12 ?_
    exact g_zret (pc := 13) C R nz_0 dX7_mayBeRock_13 hD
def DB_SR_met_32 (r : TR) (l0 : Nat) (l1 : Int32) (l2 : Int32) (l3 : Int32) (l4 : Int32) (l5 : Int32) (h : TH) (K32 : Int32 → Int32 → TH → Prop) (K77 : Int32 → TH → Prop) (Q : Int32 → TH → Prop) : Prop :=
  ((l3 < l5 → K77 l4 h) ∧ (¬ l3 < l5 → D_Bay_passHour r (r l0 1) (r l0 3) (h.1 (r l0 1) 4) h (fun h15 => D_Sc_areTogether r (r l0 3) l1 l2 h15 (fun x19 h18 => ((x19 = 0 → ∀ x21 : Int32, x21 = l5 + 1 → K32 l4 x21 h18) ∧ (¬ x19 = 0 → ∀ x22 : Int32, x22 = l4 + 1 → ∀ x23 : Int32, x23 = l5 + 1 → K32 x22 x23 h18))))))
set_option maxRecDepth 100000 in
set_option maxHeartbeats 4000000 in
theorem WB_SR_met_32 {Y : CG} {X : CX} {r : TR} {l0 : Nat} {l1 : Int32} {l2 : Int32} {l3 : Int32} {l4 : Int32} {l5 : Int32} {h : TH} {K32 : Int32 → Int32 → TH → Prop} {K77 : Int32 → TH → Prop} {Q : Int32 → TH → Prop} (C : Gd Y X cX7_met 6 RX7 8) (R : Ri Y r X .int Q) (t0 : TO Y l0 7) (hK32 : ∀ (k4 : Int32) (k5 : Int32) (hh : TH), K32 k4 k5 hh → G Y X 6 32 [(0, .ref l0), (1, .int l1), (2, .int l2), (3, .int l3), (4, .int k4), (5, .int k5)] [] r hh) (hK77 : ∀ (k4 : Int32) (hh : TH), K77 k4 hh → G Y X 6 77 [(4, .int k4)] [] r hh) (hD : DB_SR_met_32 r l0 l1 l2 l3 l4 l5 h K32 K77 Q) : G Y X 6 32 [(0, .ref l0), (1, .int l1), (2, .int l2), (3, .int l3), (4, .int l4), (5, .int l5)] [] r h := by
  unfold DB_SR_met_32 at hD
  refine g_wt (fun hw => ?_)
  refine g_iload (pc := 32) 5 rfl C dX7_met_32 ?_
  refine g_iload_n (pc := 34) rfl 3 rfl C dX7_met_34 ?_
  refine g_icmp_gt (pc := 35) 77 C dX7_met_35 (by decide) (fun c11 => ?_) (fun c11 => ?_)
  · have hD := hD.1 c11
    refine g_sub [4] rfl ?_
    exact hK77 l4 h hD
  · have hD := hD.2 c11
    refine g_aload_n (pc := 38) rfl 0 rfl C dX7_met_38 ?_
    have u12 : TO Y (r l0 1) 0 := wt_o hw t0 (by decide) rfl
    refine g_getR (pc := 39) C fl_RX7_19 t0 rfl dX7_met_39 ?_
    refine g_aload_n (pc := 42) rfl 0 rfl C dX7_met_42 ?_
    have u13 : TO Y (r l0 3) 5 := wt_o hw t0 (by decide) rfl
    refine g_getR (pc := 43) C fl_RX7_30 t0 rfl dX7_met_43 ?_
    refine g_aload_n (pc := 46) rfl 0 rfl C dX7_met_46 ?_
    have u14 : TO Y (r l0 1) 0 := wt_o hw t0 (by decide) rfl
    refine g_getR (pc := 47) C fl_RX7_19 t0 rfl dX7_met_47 ?_
    refine g_getI (pc := 50) C fl_RX7_119 u14 rfl dX7_met_50 ?_
    refine g_callVv (pc := 53) (As := [.ref (r l0 3), .int (h.1 (r l0 1) 4)]) C mv_RX7_226 (M_Bay_passHour u12 u13 hD) u12 (by decide) rfl rfl (Nat.le_of_ble_eq_true rfl) dX7_met_53 (fun h15 hD => ?_)
    refine g_aload_n (pc := 56) rfl 0 rfl C dX7_met_56 ?_
    have u17 : TO Y (r l0 3) 5 := wt_o hw t0 (by decide) rfl
    refine g_getR (pc := 57) C fl_RX7_30 t0 rfl dX7_met_57 ?_
    refine g_iload_n (pc := 60) rfl 1 rfl C dX7_met_60 ?_
    refine g_iload_n (pc := 61) rfl 2 rfl C dX7_met_61 ?_
    refine g_callVi (pc := 62) (As := [.int l1, .int l2]) C mv_RX7_244 (M_Sc_areTogether u17 hD) u17 (by decide) rfl rfl (Nat.le_of_ble_eq_true rfl) dX7_met_62 (fun x19 h18 hD => ?_)
    refine g_if_eq (pc := 65) 71 C dX7_met_65 (by decide) (fun c20 => ?_) (fun c20 => ?_)
    · have hD := hD.1 c20
      refine g_iinc (pc := 71) (q := 5) (c := 1) (fun x21 => [(5, .int x21), (0, .ref l0), (1, .int l1), (2, .int l2), (3, .int l3), (4, .int l4)]) C dX7_met_71 rfl (by decide) (by decide) rfl (fun x21 ex21 => ?_)
      have hD := hD x21 ex21
      refine g_goto (pc := 74) 32 C dX7_met_74 (by decide) ?_
      refine g_sub [1, 2, 3, 4, 5, 0] rfl ?_
      exact hK32 l4 x21 h18 hD
    · have hD := hD.2 c20
      refine g_iinc (pc := 68) (q := 4) (c := 1) (fun x22 => [(4, .int x22), (0, .ref l0), (1, .int l1), (2, .int l2), (3, .int l3), (5, .int l5)]) C dX7_met_68 rfl (by decide) (by decide) rfl (fun x22 ex22 => ?_)
      have hD := hD x22 ex22
      refine g_iinc (pc := 71) (q := 5) (c := 1) (fun x23 => [(5, .int x23), (4, .int x22), (0, .ref l0), (1, .int l1), (2, .int l2), (3, .int l3)]) C dX7_met_71 rfl (by decide) (by decide) rfl (fun x23 ex23 => ?_)
      have hD := hD x23 ex23
      refine g_goto (pc := 74) 32 C dX7_met_74 (by decide) ?_
      refine g_sub [2, 3, 4, 5, 1, 0] rfl ?_
      exact hK32 x22 x23 h18 hD
def D_SR_met (r : TR) (o : Nat) (a1 : Int32) (a2 : Int32) (a3 : Int32) (h : TH) (Q : Int32 → TH → Prop) : Prop :=
  D_SR_arePair r o a1 a2 h (fun x2 h1 => ((x2 = 0 → Q (-1) h1) ∧ (¬ x2 = 0 → D_SR_isWithin r a3 1 100 h1 (fun x5 h4 => ((¬ x5 = 0 → D_SR_lookAhead r o 0 h4 (fun h7 => ∃ n, lp (fun (K : Int32 × Int32 × TH → Prop) (s : Int32 × Int32 × TH) => DB_SR_met_32 r o a1 a2 a3 s.1 s.2.1 s.2.2 (fun y24 y25 h26 => K (y24, y25, h26)) (fun x27 h28 => Q x27 h28) Q) n (0, 1, h7))) ∧ (x5 = 0 → Q (-1) h4))))))
set_option maxRecDepth 100000 in
set_option maxHeartbeats 4000000 in
theorem M_SR_met {Y : CG} {r : TR} {l : Launch} {o : Nat} {a1 : Int32} {a2 : Int32} {a3 : Int32} {h : TH} {Q : Int32 → TH → Prop} (t0 : TO Y o 7) (hD : D_SR_met r o a1 a2 a3 h Q) : Mi Y r l yX7_met cX7_met 6 .int 8 [.ref o, .int a1, .int a2, .int a3] h Q := by
  unfold D_SR_met at hD
  refine Mi.of RX7 rfl (by decide) (by simp [lg_sl, Value.category]) [(0, .ref o), (1, .int a1), (2, .int a2), (3, .int a3)] rfl (fun X hXl C R => ?_)
  subst hXl
  refine g_wt (fun hw => ?_)
  refine g_aload_n (pc := 0) rfl 0 rfl C dX7_met_0 ?_
  refine g_iload_n (pc := 1) rfl 1 rfl C dX7_met_1 ?_
  refine g_iload_n (pc := 2) rfl 2 rfl C dX7_met_2 ?_
  refine g_callVi (pc := 3) (As := [.int a1, .int a2]) C mv_RX7_241 (M_SR_arePair t0 hD) t0 (by decide) rfl rfl (Nat.le_of_ble_eq_true rfl) dX7_met_3 (fun x2 h1 hD => ?_)
  refine g_if_eq (pc := 6) 19 C dX7_met_6 (by decide) (fun c3 => ?_) (fun c3 => ?_)
  · have hD := hD.1 c3
    refine g_iconst (pc := 19) (v := (-1)) (by decide) C dX7_met_19 ?_
    exact g_iret (pc := 20) C R dX7_met_20 hD
  · have hD := hD.2 c3
    refine g_iload_n (pc := 9) rfl 3 rfl C dX7_met_9 ?_
    refine g_iconst (pc := 10) (v := 1) (by decide) C dX7_met_10 ?_
    refine g_bipush (pc := 11) (v := 100) (by decide) C dX7_met_11 ?_
    refine g_callSi (pc := 13) (As := [.int a3, .int 1, .int 100]) C ms_RX7_169 (M_SR_isWithin  hD) (by decide) rfl rfl (Nat.le_of_ble_eq_true rfl) dX7_met_13 (fun x5 h4 hD => ?_)
    refine g_if_ne (pc := 16) 21 C dX7_met_16 (by decide) (fun c6 => ?_) (fun c6 => ?_)
    · have hD := hD.1 c6
      refine g_aload_n (pc := 21) rfl 0 rfl C dX7_met_21 ?_
      refine g_iconst (pc := 22) (v := 0) (by decide) C dX7_met_22 ?_
      refine g_callVv (pc := 23) (As := [.int 0]) C mv_RX7_193 (M_SR_lookAhead t0 hD) t0 (by decide) rfl rfl (Nat.le_of_ble_eq_true rfl) dX7_met_23 (fun h7 hD => ?_)
      refine g_iconst (pc := 26) (v := 0) (by decide) C dX7_met_26 ?_
      refine g_istore (pc := 27) (fun _ => [(4, .int 0), (0, .ref o), (1, .int a1), (2, .int a2), (3, .int a3)]) C dX7_met_27 (by decide) rfl (fun _ _ => ?_)
      refine g_iconst (pc := 29) (v := 1) (by decide) C dX7_met_29 ?_
      refine g_istore (pc := 30) (fun _ => [(5, .int 1), (4, .int 0), (0, .ref o), (1, .int a1), (2, .int a2), (3, .int a3)]) C dX7_met_30 (by decide) rfl (fun _ _ => ?_)
      obtain ⟨n, hD⟩ := hD
      refine g_sub [2, 3, 4, 5, 1, 0] rfl ?_
      refine lp_run (fun s : Int32 × Int32 × TH => G Y X 6 32 [(0, .ref o), (1, .int a1), (2, .int a2), (3, .int a3), (4, .int s.1), (5, .int s.2.1)] [] r s.2.2) (fun K s hB hK => ?_) n (0, 1, h7) hD
      refine WB_SR_met_32 C R t0 (fun y24 y25 h26 hk => hK _ hk) (fun x27 h28 hD => ?_) hB
      · refine g_iload (pc := 77) 0 rfl C dX7_met_77 ?_
        exact g_iret (pc := 79) C R dX7_met_79 hD
    · have hD := hD.2 c6
      refine g_iconst (pc := 19) (v := (-1)) (by decide) C dX7_met_19 ?_
      exact g_iret (pc := 20) C R dX7_met_20 hD
def DB_SR_odds_36 (r : TR) (l0 : Nat) (l1 : Int32) (l2 : Int32) (l3 : Int32) (l4 : Int32) (l5 : Int32) (h : TH) (K36 : Int32 → Int32 → TH → Prop) (K97 : Int32 → TH → Prop) (Q : Int32 → TH → Prop) : Prop :=
  ((l3 ≤ l5 → K97 l4 h) ∧ (¬ l3 ≤ l5 → D_Sc_copyFrom r (r l0 3) (r l0 2) h (fun h15 => D_Bay_passHours r (r l0 1) (r l0 3) l2 ((h15.1 (r l0 1) 4) + l5) h15 (fun h20 => ∀ x23 : Int32, x23 = l4 + (((h20.1 (r l0 3) 3) >>> (l1 &&& 31)) &&& 1) → ∀ x24 : Int32, x24 = l5 + 1 → K36 x23 x24 h20))))
set_option maxRecDepth 100000 in
set_option maxHeartbeats 4000000 in
theorem WB_SR_odds_36 {Y : CG} {X : CX} {r : TR} {l0 : Nat} {l1 : Int32} {l2 : Int32} {l3 : Int32} {l4 : Int32} {l5 : Int32} {h : TH} {K36 : Int32 → Int32 → TH → Prop} {K97 : Int32 → TH → Prop} {Q : Int32 → TH → Prop} (C : Gd Y X cX7_odds 6 RX7 7) (R : Ri Y r X .int Q) (t0 : TO Y l0 7) (hK36 : ∀ (k4 : Int32) (k5 : Int32) (hh : TH), K36 k4 k5 hh → G Y X 6 36 [(0, .ref l0), (1, .int l1), (2, .int l2), (3, .int l3), (4, .int k4), (5, .int k5)] [] r hh) (hK97 : ∀ (k4 : Int32) (hh : TH), K97 k4 hh → G Y X 6 97 [(4, .int k4)] [] r hh) (hD : DB_SR_odds_36 r l0 l1 l2 l3 l4 l5 h K36 K97 Q) : G Y X 6 36 [(0, .ref l0), (1, .int l1), (2, .int l2), (3, .int l3), (4, .int l4), (5, .int l5)] [] r h := by
  unfold DB_SR_odds_36 at hD
  refine g_wt (fun hw => ?_)
  refine g_iload (pc := 36) 5 rfl C dX7_odds_36 ?_
  refine g_iload_n (pc := 38) rfl 3 rfl C dX7_odds_38 ?_
  refine g_icmp_ge (pc := 39) 97 C dX7_odds_39 (by decide) (fun c12 => ?_) (fun c12 => ?_)
  · have hD := hD.1 c12
    refine g_sub [4] rfl ?_
    exact hK97 l4 h hD
  · have hD := hD.2 c12
    refine g_aload_n (pc := 42) rfl 0 rfl C dX7_odds_42 ?_
    have u13 : TO Y (r l0 3) 5 := wt_o hw t0 (by decide) rfl
    refine g_getR (pc := 43) C fl_RX7_30 t0 rfl dX7_odds_43 ?_
    refine g_aload_n (pc := 46) rfl 0 rfl C dX7_odds_46 ?_
    have u14 : TO Y (r l0 2) 5 := wt_o hw t0 (by decide) rfl
    refine g_getR (pc := 47) C fl_RX7_26 t0 rfl dX7_odds_47 ?_
    refine g_callVv (pc := 50) (As := [.ref (r l0 2)]) C mv_RX7_267 (M_Sc_copyFrom u13 u14 hD) u13 (by decide) rfl rfl (Nat.le_of_ble_eq_true rfl) dX7_odds_50 (fun h15 hD => ?_)
    refine g_aload_n (pc := 53) rfl 0 rfl C dX7_odds_53 ?_
    have u17 : TO Y (r l0 1) 0 := wt_o hw t0 (by decide) rfl
    refine g_getR (pc := 54) C fl_RX7_19 t0 rfl dX7_odds_54 ?_
    refine g_aload_n (pc := 57) rfl 0 rfl C dX7_odds_57 ?_
    have u18 : TO Y (r l0 3) 5 := wt_o hw t0 (by decide) rfl
    refine g_getR (pc := 58) C fl_RX7_30 t0 rfl dX7_odds_58 ?_
    refine g_iload_n (pc := 61) rfl 2 rfl C dX7_odds_61 ?_
    refine g_aload_n (pc := 62) rfl 0 rfl C dX7_odds_62 ?_
    have u19 : TO Y (r l0 1) 0 := wt_o hw t0 (by decide) rfl
    refine g_getR (pc := 63) C fl_RX7_19 t0 rfl dX7_odds_63 ?_
    refine g_getI (pc := 66) C fl_RX7_119 u19 rfl dX7_odds_66 ?_
    refine g_iload (pc := 69) 5 rfl C dX7_odds_69 ?_
    refine g_iadd (pc := 71) C dX7_odds_71 ?_
    refine g_callVv (pc := 72) (As := [.ref (r l0 3), .int l2, .int ((h15.1 (r l0 1) 4) + l5)]) C mv_RX7_182 (M_Bay_passHours u17 u18 hD) u17 (by decide) rfl rfl (Nat.le_of_ble_eq_true rfl) dX7_odds_72 (fun h20 hD => ?_)
    refine g_iload (pc := 75) 4 rfl C dX7_odds_75 ?_
    refine g_aload_n (pc := 77) rfl 0 rfl C dX7_odds_77 ?_
    have u22 : TO Y (r l0 3) 5 := wt_o hw t0 (by decide) rfl
    refine g_getR (pc := 78) C fl_RX7_30 t0 rfl dX7_odds_78 ?_
    refine g_getI (pc := 81) C fl_RX7_196 u22 rfl dX7_odds_81 ?_
    refine g_iload_n (pc := 84) rfl 1 rfl C dX7_odds_84 ?_
    refine g_ishr (pc := 85) C dX7_odds_85 ?_
    refine g_iconst (pc := 86) (v := 1) (by decide) C dX7_odds_86 ?_
    refine g_iand (pc := 87) C dX7_odds_87 ?_
    refine g_iadd (pc := 88) C dX7_odds_88 ?_
    refine g_istore (pc := 89) (fun x23 => [(4, .int x23), (0, .ref l0), (1, .int l1), (2, .int l2), (3, .int l3), (5, .int l5)]) C dX7_odds_89 (by decide) rfl (fun x23 ex23 => ?_)
    have hD := hD x23 ex23
    refine g_iinc (pc := 91) (q := 5) (c := 1) (fun x24 => [(5, .int x24), (4, .int x23), (0, .ref l0), (1, .int l1), (2, .int l2), (3, .int l3)]) C dX7_odds_91 rfl (by decide) (by decide) rfl (fun x24 ex24 => ?_)
    have hD := hD x24 ex24
    refine g_goto (pc := 94) 36 C dX7_odds_94 (by decide) ?_
    refine g_sub [2, 3, 4, 5, 1, 0] rfl ?_
    exact hK36 x23 x24 h20 hD
def D_SR_odds (r : TR) (o : Nat) (a1 : Int32) (a2 : Int32) (a3 : Int32) (h : TH) (Q : Int32 → TH → Prop) : Prop :=
  D_SR_isBoat r o a1 h (fun x2 h1 => ((x2 = 0 → Q (-1) h1) ∧ (¬ x2 = 0 → D_SR_isWithin r a2 0 100 h1 (fun x5 h4 => ((x5 = 0 → Q (-1) h4) ∧ (¬ x5 = 0 → D_SR_isWithin r a3 1 20 h4 (fun x8 h7 => ((¬ x8 = 0 → ∃ n, lp (fun (K : Int32 × Int32 × TH → Prop) (s : Int32 × Int32 × TH) => DB_SR_odds_36 r o a1 a2 a3 s.1 s.2.1 s.2.2 (fun y25 y26 h27 => K (y25, y26, h27)) (fun x28 h29 => Q x28 h29) Q) n (0, 0, h7)) ∧ (x8 = 0 → Q (-1) h7)))))))))
set_option maxRecDepth 100000 in
set_option maxHeartbeats 4000000 in
theorem M_SR_odds {Y : CG} {r : TR} {l : Launch} {o : Nat} {a1 : Int32} {a2 : Int32} {a3 : Int32} {h : TH} {Q : Int32 → TH → Prop} (t0 : TO Y o 7) (hD : D_SR_odds r o a1 a2 a3 h Q) : Mi Y r l yX7_odds cX7_odds 6 .int 7 [.ref o, .int a1, .int a2, .int a3] h Q := by
  unfold D_SR_odds at hD
  refine Mi.of RX7 rfl (by decide) (by simp [lg_sl, Value.category]) [(0, .ref o), (1, .int a1), (2, .int a2), (3, .int a3)] rfl (fun X hXl C R => ?_)
  subst hXl
  refine g_wt (fun hw => ?_)
  refine g_aload_n (pc := 0) rfl 0 rfl C dX7_odds_0 ?_
  refine g_iload_n (pc := 1) rfl 1 rfl C dX7_odds_1 ?_
  refine g_callVi (pc := 2) (As := [.int a1]) C mv_RX7_99 (M_SR_isBoat t0 hD) t0 (by decide) rfl rfl (Nat.le_of_ble_eq_true rfl) dX7_odds_2 (fun x2 h1 hD => ?_)
  refine g_if_eq (pc := 5) 28 C dX7_odds_5 (by decide) (fun c3 => ?_) (fun c3 => ?_)
  · have hD := hD.1 c3
    refine g_iconst (pc := 28) (v := (-1)) (by decide) C dX7_odds_28 ?_
    exact g_iret (pc := 29) C R dX7_odds_29 hD
  · have hD := hD.2 c3
    refine g_iload_n (pc := 8) rfl 2 rfl C dX7_odds_8 ?_
    refine g_iconst (pc := 9) (v := 0) (by decide) C dX7_odds_9 ?_
    refine g_bipush (pc := 10) (v := 100) (by decide) C dX7_odds_10 ?_
    refine g_callSi (pc := 12) (As := [.int a2, .int 0, .int 100]) C ms_RX7_169 (M_SR_isWithin  hD) (by decide) rfl rfl (Nat.le_of_ble_eq_true rfl) dX7_odds_12 (fun x5 h4 hD => ?_)
    refine g_if_eq (pc := 15) 28 C dX7_odds_15 (by decide) (fun c6 => ?_) (fun c6 => ?_)
    · have hD := hD.1 c6
      refine g_iconst (pc := 28) (v := (-1)) (by decide) C dX7_odds_28 ?_
      exact g_iret (pc := 29) C R dX7_odds_29 hD
    · have hD := hD.2 c6
      refine g_iload_n (pc := 18) rfl 3 rfl C dX7_odds_18 ?_
      refine g_iconst (pc := 19) (v := 1) (by decide) C dX7_odds_19 ?_
      refine g_bipush (pc := 20) (v := 20) (by decide) C dX7_odds_20 ?_
      refine g_callSi (pc := 22) (As := [.int a3, .int 1, .int 20]) C ms_RX7_169 (M_SR_isWithin  hD) (by decide) rfl rfl (Nat.le_of_ble_eq_true rfl) dX7_odds_22 (fun x8 h7 hD => ?_)
      refine g_if_ne (pc := 25) 30 C dX7_odds_25 (by decide) (fun c9 => ?_) (fun c9 => ?_)
      · have hD := hD.1 c9
        refine g_iconst (pc := 30) (v := 0) (by decide) C dX7_odds_30 ?_
        refine g_istore (pc := 31) (fun _ => [(4, .int 0), (0, .ref o), (1, .int a1), (2, .int a2), (3, .int a3)]) C dX7_odds_31 (by decide) rfl (fun _ _ => ?_)
        refine g_iconst (pc := 33) (v := 0) (by decide) C dX7_odds_33 ?_
        refine g_istore (pc := 34) (fun _ => [(5, .int 0), (4, .int 0), (0, .ref o), (1, .int a1), (2, .int a2), (3, .int a3)]) C dX7_odds_34 (by decide) rfl (fun _ _ => ?_)
        obtain ⟨n, hD⟩ := hD
        refine g_sub [2, 3, 4, 5, 1, 0] rfl ?_
        refine lp_run (fun s : Int32 × Int32 × TH => G Y X 6 36 [(0, .ref o), (1, .int a1), (2, .int a2), (3, .int a3), (4, .int s.1), (5, .int s.2.1)] [] r s.2.2) (fun K s hB hK => ?_) n (0, 0, h7) hD
        refine WB_SR_odds_36 C R t0 (fun y25 y26 h27 hk => hK _ hk) (fun x28 h29 hD => ?_) hB
        · refine g_iload (pc := 97) 0 rfl C dX7_odds_97 ?_
          exact g_iret (pc := 99) C R dX7_odds_99 hD
      · have hD := hD.2 c9
        refine g_iconst (pc := 28) (v := (-1)) (by decide) C dX7_odds_28 ?_
        exact g_iret (pc := 29) C R dX7_odds_29 hD
def D_SR_out (r : TR) (o : Nat) (a1 : Int32) (a2 : Int32) (h : TH) (Q : Int32 → TH → Prop) : Prop :=
  D_SR_isWithin r a1 1 24 h (fun x2 h1 => ((x2 = 0 → Q (-1) h1) ∧ (¬ x2 = 0 → (((-1) ≤ a2 → D_Outs_nthRest r (r o 8) (r o 1) (r o 2) a1 a2 h1 (fun x9 h8 => Q x9 h8)) ∧ (¬ (-1) ≤ a2 → Q (-1) h1)))))
set_option maxRecDepth 100000 in
set_option maxHeartbeats 4000000 in
theorem M_SR_out {Y : CG} {r : TR} {l : Launch} {o : Nat} {a1 : Int32} {a2 : Int32} {h : TH} {Q : Int32 → TH → Prop} (t0 : TO Y o 7) (hD : D_SR_out r o a1 a2 h Q) : Mi Y r l yX7_out cX7_out 3 .int 8 [.ref o, .int a1, .int a2] h Q := by
  unfold D_SR_out at hD
  refine Mi.of RX7 rfl (by decide) (by simp [lg_sl, Value.category]) [(0, .ref o), (1, .int a1), (2, .int a2)] rfl (fun X hXl C R => ?_)
  subst hXl
  refine g_wt (fun hw => ?_)
  refine g_iload_n (pc := 0) rfl 1 rfl C dX7_out_0 ?_
  refine g_iconst (pc := 1) (v := 1) (by decide) C dX7_out_1 ?_
  refine g_bipush (pc := 2) (v := 24) (by decide) C dX7_out_2 ?_
  refine g_callSi (pc := 4) (As := [.int a1, .int 1, .int 24]) C ms_RX7_169 (M_SR_isWithin  hD) (by decide) rfl rfl (Nat.le_of_ble_eq_true rfl) dX7_out_4 (fun x2 h1 hD => ?_)
  refine g_if_eq (pc := 7) 15 C dX7_out_7 (by decide) (fun c3 => ?_) (fun c3 => ?_)
  · have hD := hD.1 c3
    refine g_iconst (pc := 15) (v := (-1)) (by decide) C dX7_out_15 ?_
    exact g_iret (pc := 16) C R dX7_out_16 hD
  · have hD := hD.2 c3
    refine g_iload_n (pc := 10) rfl 2 rfl C dX7_out_10 ?_
    refine g_iconst (pc := 11) (v := (-1)) (by decide) C dX7_out_11 ?_
    refine g_icmp_ge (pc := 12) 17 C dX7_out_12 (by decide) (fun c4 => ?_) (fun c4 => ?_)
    · have hD := hD.1 c4
      refine g_aload_n (pc := 17) rfl 0 rfl C dX7_out_17 ?_
      have u5 : TO Y (r o 8) 2 := wt_o hw t0 (by decide) rfl
      refine g_getR (pc := 18) C fl_RX7_58 t0 rfl dX7_out_18 ?_
      refine g_aload_n (pc := 21) rfl 0 rfl C dX7_out_21 ?_
      have u6 : TO Y (r o 1) 0 := wt_o hw t0 (by decide) rfl
      refine g_getR (pc := 22) C fl_RX7_19 t0 rfl dX7_out_22 ?_
      refine g_aload_n (pc := 25) rfl 0 rfl C dX7_out_25 ?_
      have u7 : TO Y (r o 2) 5 := wt_o hw t0 (by decide) rfl
      refine g_getR (pc := 26) C fl_RX7_26 t0 rfl dX7_out_26 ?_
      refine g_iload_n (pc := 29) rfl 1 rfl C dX7_out_29 ?_
      refine g_iload_n (pc := 30) rfl 2 rfl C dX7_out_30 ?_
      refine g_callVi (pc := 31) (As := [.ref (r o 1), .ref (r o 2), .int a1, .int a2]) C mv_RX7_263 (M_Outs_nthRest u5 u6 u7 hD) u5 (by decide) rfl rfl (Nat.le_of_ble_eq_true rfl) dX7_out_31 (fun x9 h8 hD => ?_)
      exact g_iret (pc := 34) C R dX7_out_34 hD
    · have hD := hD.2 c4
      refine g_iconst (pc := 15) (v := (-1)) (by decide) C dX7_out_15 ?_
      exact g_iret (pc := 16) C R dX7_out_16 hD
def DJ_SR_pan_28 (r : TR) (l0 : Nat) (l1 : Int32) (s0 : Int32) (s1 : Int32) (h : TH) (Q : Int32 → TH → Prop) : Prop :=
  ((¬ s1 = s0 → D_Past_keep r (r l0 4) (r l0 2) h (fun h9 => ∀ h12, h12 = pI h9 (r l0 2) 1 ((h9.1 (r l0 2) 1) ^^^ ((1 : Int32) <<< (l1 &&& 31))) → Q 1 h12)) ∧ (s1 = s0 → Q 0 h))
set_option maxRecDepth 100000 in
set_option maxHeartbeats 4000000 in
theorem WJ_SR_pan_28 {Y : CG} {X : CX} {r : TR} {l0 : Nat} {l1 : Int32} {s0 : Int32} {s1 : Int32} {h : TH} {Q : Int32 → TH → Prop} (C : Gd Y X cX7_pan 3 RX7 3) (R : Ri Y r X .boolean Q) (t0 : TO Y l0 7) (hD : DJ_SR_pan_28 r l0 l1 s0 s1 h  Q) : G Y X 3 28 [(0, .ref l0), (1, .int l1)] [.int s0, .int s1] r h := by
  unfold DJ_SR_pan_28 at hD
  refine g_wt (fun hw => ?_)
  refine g_icmp_ne (pc := 28) 33 C dX7_pan_28 (by decide) (fun c6 => ?_) (fun c6 => ?_)
  · have hD := hD.1 c6
    refine g_aload_n (pc := 33) rfl 0 rfl C dX7_pan_33 ?_
    have u7 : TO Y (r l0 4) 3 := wt_o hw t0 (by decide) rfl
    refine g_getR (pc := 34) C fl_RX7_36 t0 rfl dX7_pan_34 ?_
    refine g_aload_n (pc := 37) rfl 0 rfl C dX7_pan_37 ?_
    have u8 : TO Y (r l0 2) 5 := wt_o hw t0 (by decide) rfl
    refine g_getR (pc := 38) C fl_RX7_26 t0 rfl dX7_pan_38 ?_
    refine g_callVv (pc := 41) (As := [.ref (r l0 2)]) C mv_RX7_179 (M_Past_keep u7 u8 hD) u7 (by decide) rfl rfl (Nat.le_of_ble_eq_true rfl) dX7_pan_41 (fun h9 hD => ?_)
    refine g_aload_n (pc := 44) rfl 0 rfl C dX7_pan_44 ?_
    have u11 : TO Y (r l0 2) 5 := wt_o hw t0 (by decide) rfl
    refine g_getR (pc := 45) C fl_RX7_26 t0 rfl dX7_pan_45 ?_
    refine g_dup (pc := 48) rfl C dX7_pan_48 ?_
    refine g_getI (pc := 49) C fl_RX7_116 u11 rfl dX7_pan_49 ?_
    refine g_iconst (pc := 52) (v := 1) (by decide) C dX7_pan_52 ?_
    refine g_iload_n (pc := 53) rfl 1 rfl C dX7_pan_53 ?_
    refine g_ishl (pc := 54) C dX7_pan_54 ?_
    refine g_ixor (pc := 55) C dX7_pan_55 ?_
    refine g_putI (pc := 56) C fl_RX7_116 u11 rfl rfl rfl dX7_pan_56 (fun h12 eh12 => ?_)
    have hD := hD h12 eh12
    refine g_iconst (pc := 59) (v := 1) (by decide) C dX7_pan_59 ?_
    exact g_zret (pc := 60) C R nz_1 dX7_pan_60 hD
  · have hD := hD.2 c6
    refine g_iconst (pc := 31) (v := 0) (by decide) C dX7_pan_31 ?_
    exact g_zret (pc := 32) C R nz_0 dX7_pan_32 hD
def D_SR_pan (r : TR) (o : Nat) (a1 : Int32) (a2 : Int32) (h : TH) (Q : Int32 → TH → Prop) : Prop :=
  D_SR_isBoat r o a1 h (fun x2 h1 => ((x2 = 0 → Q 0 h1) ∧ (¬ x2 = 0 → ((a2 = 0 → DJ_SR_pan_28 r o a1 0 (((h1.1 (r o 2) 1) >>> (a1 &&& 31)) &&& 1) h1 Q) ∧ (¬ a2 = 0 → DJ_SR_pan_28 r o a1 1 (((h1.1 (r o 2) 1) >>> (a1 &&& 31)) &&& 1) h1 Q)))))
set_option maxRecDepth 100000 in
set_option maxHeartbeats 4000000 in
theorem M_SR_pan {Y : CG} {r : TR} {l : Launch} {o : Nat} {a1 : Int32} {a2 : Int32} {h : TH} {Q : Int32 → TH → Prop} (t0 : TO Y o 7) (hD : D_SR_pan r o a1 a2 h Q) : Mi Y r l yX7_pan cX7_pan 3 .boolean 3 [.ref o, .int a1, .int a2] h Q := by
  unfold D_SR_pan at hD
  refine Mi.of RX7 rfl (by decide) (by simp [lg_sl, Value.category]) [(0, .ref o), (1, .int a1), (2, .int a2)] rfl (fun X hXl C R => ?_)
  subst hXl
  refine g_wt (fun hw => ?_)
  refine g_aload_n (pc := 0) rfl 0 rfl C dX7_pan_0 ?_
  refine g_iload_n (pc := 1) rfl 1 rfl C dX7_pan_1 ?_
  refine g_callVi (pc := 2) (As := [.int a1]) C mv_RX7_99 (M_SR_isBoat t0 hD) t0 (by decide) rfl rfl (Nat.le_of_ble_eq_true rfl) dX7_pan_2 (fun x2 h1 hD => ?_)
  refine g_if_eq (pc := 5) 31 C dX7_pan_5 (by decide) (fun c3 => ?_) (fun c3 => ?_)
  · have hD := hD.1 c3
    refine g_iconst (pc := 31) (v := 0) (by decide) C dX7_pan_31 ?_
    exact g_zret (pc := 32) C R nz_0 dX7_pan_32 hD
  · have hD := hD.2 c3
    refine g_aload_n (pc := 8) rfl 0 rfl C dX7_pan_8 ?_
    have u4 : TO Y (r o 2) 5 := wt_o hw t0 (by decide) rfl
    refine g_getR (pc := 9) C fl_RX7_26 t0 rfl dX7_pan_9 ?_
    refine g_getI (pc := 12) C fl_RX7_116 u4 rfl dX7_pan_12 ?_
    refine g_iload_n (pc := 15) rfl 1 rfl C dX7_pan_15 ?_
    refine g_ishr (pc := 16) C dX7_pan_16 ?_
    refine g_iconst (pc := 17) (v := 1) (by decide) C dX7_pan_17 ?_
    refine g_iand (pc := 18) C dX7_pan_18 ?_
    refine g_iload_n (pc := 19) rfl 2 rfl C dX7_pan_19 ?_
    refine g_if_eq (pc := 20) 27 C dX7_pan_20 (by decide) (fun c5 => ?_) (fun c5 => ?_)
    · have hD := hD.1 c5
      refine g_iconst (pc := 27) (v := 0) (by decide) C dX7_pan_27 ?_
      refine g_sub [0, 1] rfl ?_
      exact WJ_SR_pan_28 C R t0 hD
    · have hD := hD.2 c5
      refine g_iconst (pc := 23) (v := 1) (by decide) C dX7_pan_23 ?_
      refine g_goto (pc := 24) 28 C dX7_pan_24 (by decide) ?_
      refine g_sub [0, 1] rfl ?_
      exact WJ_SR_pan_28 C R t0 hD
def D_SR_place (r : TR) (o : Nat) (h : TH) (Q : Int32 → TH → Prop) : Prop :=
  Q (h.1 (r o 0) 3) h
set_option maxRecDepth 100000 in
set_option maxHeartbeats 4000000 in
theorem M_SR_place {Y : CG} {r : TR} {l : Launch} {o : Nat} {h : TH} {Q : Int32 → TH → Prop} (t0 : TO Y o 7) (hD : D_SR_place r o h Q) : Mi Y r l yX7_place cX7_place 1 .int 1 [.ref o] h Q := by
  unfold D_SR_place at hD
  refine Mi.of RX7 rfl (by decide) (by simp [lg_sl, Value.category]) [(0, .ref o)] rfl (fun X hXl C R => ?_)
  subst hXl
  refine g_wt (fun hw => ?_)
  refine g_aload_n (pc := 0) rfl 0 rfl C dX7_place_0 ?_
  have u1 : TO Y (r o 0) 4 := wt_o hw t0 (by decide) rfl
  refine g_getR (pc := 1) C fl_RX7_12 t0 rfl dX7_place_1 ?_
  refine g_getI (pc := 4) C fl_RX7_96 u1 rfl dX7_place_4 ?_
  exact g_iret (pc := 7) C R dX7_place_7 hD
def D_SR_ranked (r : TR) (o : Nat) (a1 : Int32) (h : TH) (Q : Int32 → TH → Prop) : Prop :=
  D_Sc_boatRanked r (r o 2) a1 (h.1 (r o 1) 2) h (fun x4 h3 => Q x4 h3)
set_option maxRecDepth 100000 in
set_option maxHeartbeats 4000000 in
theorem M_SR_ranked {Y : CG} {r : TR} {l : Launch} {o : Nat} {a1 : Int32} {h : TH} {Q : Int32 → TH → Prop} (t0 : TO Y o 7) (hD : D_SR_ranked r o a1 h Q) : Mi Y r l yX7_ranked cX7_ranked 2 .int 6 [.ref o, .int a1] h Q := by
  unfold D_SR_ranked at hD
  refine Mi.of RX7 rfl (by decide) (by simp [lg_sl, Value.category]) [(0, .ref o), (1, .int a1)] rfl (fun X hXl C R => ?_)
  subst hXl
  refine g_wt (fun hw => ?_)
  refine g_aload_n (pc := 0) rfl 0 rfl C dX7_ranked_0 ?_
  have u1 : TO Y (r o 2) 5 := wt_o hw t0 (by decide) rfl
  refine g_getR (pc := 1) C fl_RX7_26 t0 rfl dX7_ranked_1 ?_
  refine g_iload_n (pc := 4) rfl 1 rfl C dX7_ranked_4 ?_
  refine g_aload_n (pc := 5) rfl 0 rfl C dX7_ranked_5 ?_
  have u2 : TO Y (r o 1) 0 := wt_o hw t0 (by decide) rfl
  refine g_getR (pc := 6) C fl_RX7_19 t0 rfl dX7_ranked_6 ?_
  refine g_getI (pc := 9) C fl_RX7_133 u2 rfl dX7_ranked_9 ?_
  refine g_callVi (pc := 12) (As := [.int a1, .int (h.1 (r o 1) 2)]) C mv_RX7_204 (M_Sc_boatRanked u1 hD) u1 (by decide) rfl rfl (Nat.le_of_ble_eq_true rfl) dX7_ranked_12 (fun x4 h3 hD => ?_)
  exact g_iret (pc := 15) C R dX7_ranked_15 hD
def D_SR_takeDraft (r : TR) (o : Nat) (h : TH) (Q : TR → TH → Prop) : Prop :=
  ∀ r5, r5 = pR r o 1 (r (r o 0) 2) → ∀ r7, r7 = pR r5 (r5 o 0) 2 (r o 1) → D_Bay_chart r7 (r7 o 1) h (fun h9 => D_Bay_begin r7 (r7 o 1) (r7 o 2) h9 (fun h13 => D_Past_clear r7 (r7 o 4) h13 (fun h16 => ∀ h18, h18 = pI h16 o 6 0 → ∀ h20, h20 = pI h18 (r7 o 7) 0 0 → Q r7 h20)))
set_option maxRecDepth 100000 in
set_option maxHeartbeats 4000000 in
theorem M_SR_takeDraft {Y : CG} {r : TR} {l : Launch} {o : Nat} {h : TH} {Q : TR → TH → Prop} (t0 : TO Y o 7) (hD : D_SR_takeDraft r o h Q) : Mvr Y r l yX7_takeDraft cX7_takeDraft 2 6 [.ref o] h Q := by
  unfold D_SR_takeDraft at hD
  refine Mvr.of RX7 rfl (by decide) (by simp [lg_sl, Value.category]) [(0, .ref o)] rfl (fun X hXl C R => ?_)
  subst hXl
  refine g_wt (fun hw => ?_)
  refine g_aload_n (pc := 0) rfl 0 rfl C dX7_takeDraft_0 ?_
  have u1 : TO Y (r o 1) 0 := wt_o hw t0 (by decide) rfl
  refine g_getR (pc := 1) C fl_RX7_19 t0 rfl dX7_takeDraft_1 ?_
  refine g_astore_n (pc := 4) (fun _ => [(1, .ref (r o 1)), (0, .ref o)]) C dX7_takeDraft_4 rfl (by decide) rfl (fun _ _ => ?_)
  refine g_aload_n (pc := 5) rfl 1 rfl C dX7_takeDraft_5 ?_
  refine g_aload_n (pc := 6) rfl 1 rfl C dX7_takeDraft_6 ?_
  have u3 : TO Y (r o 0) 4 := wt_o hw t0 (by decide) rfl
  refine g_getR (pc := 7) C fl_RX7_12 t0 rfl dX7_takeDraft_7 ?_
  have u4 : TO Y (r (r o 0) 2) 0 := wt_o hw u3 (by decide) rfl
  refine g_getR (pc := 10) C fl_RX7_80 u3 rfl dX7_takeDraft_10 ?_
  refine g_putR (pc := 13) C fl_RX7_19 t0 (by decide) rfl u4 rfl rfl dX7_takeDraft_13 (fun r5 er5 hw => ?_)
  have hD := hD r5 er5
  refine g_aload_n (pc := 16) rfl 1 rfl C dX7_takeDraft_16 ?_
  have u6 : TO Y (r5 o 0) 4 := wt_o hw t0 (by decide) rfl
  refine g_getR (pc := 17) C fl_RX7_12 t0 rfl dX7_takeDraft_17 ?_
  refine g_aload_n (pc := 20) rfl 0 rfl C dX7_takeDraft_20 ?_
  refine g_putR (pc := 21) C fl_RX7_80 u6 (by decide) rfl u1 rfl rfl dX7_takeDraft_21 (fun r7 er7 hw => ?_)
  have hD := hD r7 er7
  refine g_aload_n (pc := 24) rfl 1 rfl C dX7_takeDraft_24 ?_
  have u8 : TO Y (r7 o 1) 0 := wt_o hw t0 (by decide) rfl
  refine g_getR (pc := 25) C fl_RX7_19 t0 rfl dX7_takeDraft_25 ?_
  refine g_callVv (pc := 28) (As := []) C mv_RX7_83 (M_Bay_chart u8 hD) u8 (by decide) rfl rfl (Nat.le_of_ble_eq_true rfl) dX7_takeDraft_28 (fun h9 hD => ?_)
  refine g_aload_n (pc := 31) rfl 1 rfl C dX7_takeDraft_31 ?_
  have u11 : TO Y (r7 o 1) 0 := wt_o hw t0 (by decide) rfl
  refine g_getR (pc := 32) C fl_RX7_19 t0 rfl dX7_takeDraft_32 ?_
  refine g_aload_n (pc := 35) rfl 1 rfl C dX7_takeDraft_35 ?_
  have u12 : TO Y (r7 o 2) 5 := wt_o hw t0 (by decide) rfl
  refine g_getR (pc := 36) C fl_RX7_26 t0 rfl dX7_takeDraft_36 ?_
  refine g_callVv (pc := 39) (As := [.ref (r7 o 2)]) C mv_RX7_86 (M_Bay_begin u11 u12 hD) u11 (by decide) rfl rfl (Nat.le_of_ble_eq_true rfl) dX7_takeDraft_39 (fun h13 hD => ?_)
  refine g_aload_n (pc := 42) rfl 1 rfl C dX7_takeDraft_42 ?_
  have u15 : TO Y (r7 o 4) 3 := wt_o hw t0 (by decide) rfl
  refine g_getR (pc := 43) C fl_RX7_36 t0 rfl dX7_takeDraft_43 ?_
  refine g_callVv (pc := 46) (As := []) C mv_RX7_90 (M_Past_clear u15 hD) u15 (by decide) rfl rfl (Nat.le_of_ble_eq_true rfl) dX7_takeDraft_46 (fun h16 hD => ?_)
  refine g_aload_n (pc := 49) rfl 1 rfl C dX7_takeDraft_49 ?_
  refine g_iconst (pc := 50) (v := 0) (by decide) C dX7_takeDraft_50 ?_
  refine g_putI (pc := 51) C fl_RX7_44 t0 rfl rfl rfl dX7_takeDraft_51 (fun h18 eh18 => ?_)
  have hD := hD h18 eh18
  refine g_aload_n (pc := 54) rfl 1 rfl C dX7_takeDraft_54 ?_
  have u19 : TO Y (r7 o 7) 6 := wt_o hw t0 (by decide) rfl
  refine g_getR (pc := 55) C fl_RX7_51 t0 rfl dX7_takeDraft_55 ?_
  refine g_iconst (pc := 58) (v := 0) (by decide) C dX7_takeDraft_58 ?_
  refine g_putI (pc := 59) C fl_RX7_93 u19 rfl rfl rfl dX7_takeDraft_59 (fun h20 eh20 => ?_)
  have hD := hD h20 eh20
  exact g_vretr (pc := 62) C R dX7_takeDraft_62 hD
def D_SR_read (r : TR) (o : Nat) (h : TH) (Q : Int32 → TR → TH → Prop) : Prop :=
  D_Rd_parse r (r o 0) h (fun x3 h2 => ∀ h6, h6 = pI h2 (r o 0) 1 0 → ((¬ x3 = 0 → Q x3 r h6) ∧ (x3 = 0 → D_SR_takeDraft r o h6 (fun r10 h11 => Q x3 r10 h11))))
set_option maxRecDepth 100000 in
set_option maxHeartbeats 4000000 in
theorem M_SR_read {Y : CG} {r : TR} {l : Launch} {o : Nat} {h : TH} {Q : Int32 → TR → TH → Prop} (t0 : TO Y o 7) (hD : D_SR_read r o h Q) : Mir Y r l yX7_read cX7_read 2 37 [.ref o] h Q := by
  unfold D_SR_read at hD
  refine Mir.of RX7 rfl (by decide) (by simp [lg_sl, Value.category]) [(0, .ref o)] rfl (fun X hXl C R => ?_)
  subst hXl
  refine g_wt (fun hw => ?_)
  refine g_aload_n (pc := 0) rfl 0 rfl C dX7_read_0 ?_
  have u1 : TO Y (r o 0) 4 := wt_o hw t0 (by decide) rfl
  refine g_getR (pc := 1) C fl_RX7_12 t0 rfl dX7_read_1 ?_
  refine g_callVi (pc := 4) (As := []) C mv_RX7_73 (M_Rd_parse u1 hD) u1 (by decide) rfl rfl (Nat.le_of_ble_eq_true rfl) dX7_read_4 (fun x3 h2 hD => ?_)
  refine g_istore_n (pc := 7) (fun _ => [(1, .int x3), (0, .ref o)]) C dX7_read_7 rfl (by decide) rfl (fun _ _ => ?_)
  refine g_aload_n (pc := 8) rfl 1 rfl C dX7_read_8 ?_
  have u5 : TO Y (r o 0) 4 := wt_o hw t0 (by decide) rfl
  refine g_getR (pc := 9) C fl_RX7_12 t0 rfl dX7_read_9 ?_
  refine g_iconst (pc := 12) (v := 0) (by decide) C dX7_read_12 ?_
  refine g_putI (pc := 13) C fl_RX7_66 u5 rfl rfl rfl dX7_read_13 (fun h6 eh6 => ?_)
  have hD := hD h6 eh6
  refine g_iload_n (pc := 16) rfl 0 rfl C dX7_read_16 ?_
  refine g_if_ne (pc := 17) 24 C dX7_read_17 (by decide) (fun c7 => ?_) (fun c7 => ?_)
  · have hD := hD.1 c7
    refine g_iload_n (pc := 24) rfl 0 rfl C dX7_read_24 ?_
    exact g_iretr (pc := 25) C R dX7_read_25 hD
  · have hD := hD.2 c7
    refine g_aload_n (pc := 20) rfl 1 rfl C dX7_read_20 ?_
    refine g_callVvr (pc := 21) (As := []) C mv_RX7_77 (M_SR_takeDraft t0 hD) t0 (by decide) rfl rfl (Nat.le_of_ble_eq_true rfl) dX7_read_21 (fun r10 h11 hD => ?_)
    refine g_iload_n (pc := 24) rfl 0 rfl C dX7_read_24 ?_
    exact g_iretr (pc := 25) C R dX7_read_25 hD
def D_SR_restore (r : TR) (o : Nat) (a1 : Int32) (h : TH) (Q : Int32 → TH → Prop) : Prop :=
  D_SR_isWithin r a1 0 2 h (fun x2 h1 => ((x2 = 0 → Q 0 h1) ∧ (¬ x2 = 0 → ((¬ (((h1.1 o 6) >>> (a1 &&& 31)) &&& 1) = 0 → vp_in a1 3 ∧ D_Sc_copyFrom r (r o 2) (r (r o 5) a1.toNatClampNeg) h1 (fun h8 => D_Past_clear r (r o 4) h8 (fun h11 => Q 1 h11))) ∧ ((((h1.1 o 6) >>> (a1 &&& 31)) &&& 1) = 0 → Q 0 h1)))))
set_option maxRecDepth 100000 in
set_option maxHeartbeats 4000000 in
theorem M_SR_restore {Y : CG} {r : TR} {l : Launch} {o : Nat} {a1 : Int32} {h : TH} {Q : Int32 → TH → Prop} (t0 : TO Y o 7) (hD : D_SR_restore r o a1 h Q) : Mi Y r l yX7_restore cX7_restore 2 .boolean 2 [.ref o, .int a1] h Q := by
  unfold D_SR_restore at hD
  refine Mi.of RX7 rfl (by decide) (by simp [lg_sl, Value.category]) [(0, .ref o), (1, .int a1)] rfl (fun X hXl C R => ?_)
  subst hXl
  refine g_wt (fun hw => ?_)
  refine g_iload_n (pc := 0) rfl 1 rfl C dX7_restore_0 ?_
  refine g_iconst (pc := 1) (v := 0) (by decide) C dX7_restore_1 ?_
  refine g_iconst (pc := 2) (v := 2) (by decide) C dX7_restore_2 ?_
  refine g_callSi (pc := 3) (As := [.int a1, .int 0, .int 2]) C ms_RX7_169 (M_SR_isWithin  hD) (by decide) rfl rfl (Nat.le_of_ble_eq_true rfl) dX7_restore_3 (fun x2 h1 hD => ?_)
  refine g_if_eq (pc := 6) 20 C dX7_restore_6 (by decide) (fun c3 => ?_) (fun c3 => ?_)
  · have hD := hD.1 c3
    refine g_iconst (pc := 20) (v := 0) (by decide) C dX7_restore_20 ?_
    exact g_zret (pc := 21) C R nz_0 dX7_restore_21 hD
  · have hD := hD.2 c3
    refine g_aload_n (pc := 9) rfl 0 rfl C dX7_restore_9 ?_
    refine g_getI (pc := 10) C fl_RX7_44 t0 rfl dX7_restore_10 ?_
    refine g_iload_n (pc := 13) rfl 1 rfl C dX7_restore_13 ?_
    refine g_ishr (pc := 14) C dX7_restore_14 ?_
    refine g_iconst (pc := 15) (v := 1) (by decide) C dX7_restore_15 ?_
    refine g_iand (pc := 16) C dX7_restore_16 ?_
    refine g_if_ne (pc := 17) 22 C dX7_restore_17 (by decide) (fun c4 => ?_) (fun c4 => ?_)
    · have hD := hD.1 c4
      refine g_aload_n (pc := 22) rfl 0 rfl C dX7_restore_22 ?_
      have u5 : TO Y (r o 2) 5 := wt_o hw t0 (by decide) rfl
      refine g_getR (pc := 23) C fl_RX7_26 t0 rfl dX7_restore_23 ?_
      refine g_aload_n (pc := 26) rfl 0 rfl C dX7_restore_26 ?_
      have u6 : TA Y (r o 5) 13 3 := wt_a hw t0 (by decide) (by decide) rfl
      refine g_getR (pc := 27) C fl_RX7_40 t0 rfl dX7_restore_27 ?_
      refine g_iload_n (pc := 30) rfl 1 rfl C dX7_restore_30 ?_
      obtain ⟨hb, hD⟩ := hD
      refine g_aald (pc := 31) C u6 hb dX7_restore_31 ?_
      have u7 : TO Y (r (r o 5) a1.toNatClampNeg) 5 := wt_s hw u6 (vp_in_clamp hb)
      refine g_callVv (pc := 32) (As := [.ref (r (r o 5) a1.toNatClampNeg)]) C mv_RX7_267 (M_Sc_copyFrom u5 u7 hD) u5 (by decide) rfl rfl (Nat.le_of_ble_eq_true rfl) dX7_restore_32 (fun h8 hD => ?_)
      refine g_aload_n (pc := 35) rfl 0 rfl C dX7_restore_35 ?_
      have u10 : TO Y (r o 4) 3 := wt_o hw t0 (by decide) rfl
      refine g_getR (pc := 36) C fl_RX7_36 t0 rfl dX7_restore_36 ?_
      refine g_callVv (pc := 39) (As := []) C mv_RX7_90 (M_Past_clear u10 hD) u10 (by decide) rfl rfl (Nat.le_of_ble_eq_true rfl) dX7_restore_39 (fun h11 hD => ?_)
      refine g_iconst (pc := 42) (v := 1) (by decide) C dX7_restore_42 ?_
      exact g_zret (pc := 43) C R nz_1 dX7_restore_43 hD
    · have hD := hD.2 c4
      refine g_iconst (pc := 20) (v := 0) (by decide) C dX7_restore_20 ?_
      exact g_zret (pc := 21) C R nz_0 dX7_restore_21 hD
def DB_SR_rock_38 (r : TR) (l0 : Nat) (l1 : Int32) (l2 : Int32) (l3 : Int32) (l4 : Int32) (l5 : Int32) (h : TH) (K38 : Int32 → Int32 → TH → Prop) (K83 : Int32 → TH → Prop) (Q : Int32 → TH → Prop) : Prop :=
  ((40 ≤ l5 → K83 l4 h) ∧ (¬ 40 ≤ l5 → D_SR_mayBeRock r l0 l5 h (fun x15 h14 => ((x15 = 0 → ∀ x17 : Int32, x17 = l5 + 1 → K38 l4 x17 h14) ∧ (¬ x15 = 0 → D_SR_lostWithRock r l0 l5 l1 h14 (fun x19 h18 => ((¬ x19 = l2 → ∀ x21 : Int32, x21 = l5 + 1 → K38 l4 x21 h18) ∧ (x19 = l2 → ((¬ l4 = l3 → ∀ x23 : Int32, x23 = l4 + 1 → ∀ x24 : Int32, x24 = l5 + 1 → K38 x23 x24 h18) ∧ (l4 = l3 → Q l5 h18))))))))))
set_option maxRecDepth 100000 in
set_option maxHeartbeats 4000000 in
theorem WB_SR_rock_38 {Y : CG} {X : CX} {r : TR} {l0 : Nat} {l1 : Int32} {l2 : Int32} {l3 : Int32} {l4 : Int32} {l5 : Int32} {h : TH} {K38 : Int32 → Int32 → TH → Prop} {K83 : Int32 → TH → Prop} {Q : Int32 → TH → Prop} (C : Gd Y X cX7_rock 6 RX7 8) (R : Ri Y r X .int Q) (t0 : TO Y l0 7) (hK38 : ∀ (k4 : Int32) (k5 : Int32) (hh : TH), K38 k4 k5 hh → G Y X 6 38 [(0, .ref l0), (1, .int l1), (2, .int l2), (3, .int l3), (4, .int k4), (5, .int k5)] [] r hh) (hK83 : ∀ (k4 : Int32) (hh : TH), K83 k4 hh → G Y X 6 83 [(3, .int l3), (4, .int k4)] [] r hh) (hD : DB_SR_rock_38 r l0 l1 l2 l3 l4 l5 h K38 K83 Q) : G Y X 6 38 [(0, .ref l0), (1, .int l1), (2, .int l2), (3, .int l3), (4, .int l4), (5, .int l5)] [] r h := by
  unfold DB_SR_rock_38 at hD
  refine g_wt (fun hw => ?_)
  refine g_iload (pc := 38) 5 rfl C dX7_rock_38 ?_
  refine g_bipush (pc := 40) (v := 40) (by decide) C dX7_rock_40 ?_
  refine g_icmp_ge (pc := 42) 83 C dX7_rock_42 (by decide) (fun c13 => ?_) (fun c13 => ?_)
  · have hD := hD.1 c13
    refine g_sub [3, 4] rfl ?_
    exact hK83 l4 h hD
  · have hD := hD.2 c13
    refine g_aload_n (pc := 45) rfl 0 rfl C dX7_rock_45 ?_
    refine g_iload (pc := 46) 5 rfl C dX7_rock_46 ?_
    refine g_callVi (pc := 48) (As := [.int l5]) C mv_RX7_289 (M_SR_mayBeRock t0 hD) t0 (by decide) rfl rfl (Nat.le_of_ble_eq_true rfl) dX7_rock_48 (fun x15 h14 hD => ?_)
    refine g_if_eq (pc := 51) 77 C dX7_rock_51 (by decide) (fun c16 => ?_) (fun c16 => ?_)
    · have hD := hD.1 c16
      refine g_iinc (pc := 77) (q := 5) (c := 1) (fun x17 => [(5, .int x17), (0, .ref l0), (1, .int l1), (2, .int l2), (3, .int l3), (4, .int l4)]) C dX7_rock_77 rfl (by decide) (by decide) rfl (fun x17 ex17 => ?_)
      have hD := hD x17 ex17
      refine g_goto (pc := 80) 38 C dX7_rock_80 (by decide) ?_
      refine g_sub [1, 2, 3, 4, 5, 0] rfl ?_
      exact hK38 l4 x17 h14 hD
    · have hD := hD.2 c16
      refine g_aload_n (pc := 54) rfl 0 rfl C dX7_rock_54 ?_
      refine g_iload (pc := 55) 5 rfl C dX7_rock_55 ?_
      refine g_iload_n (pc := 57) rfl 1 rfl C dX7_rock_57 ?_
      refine g_callVi (pc := 58) (As := [.int l5, .int l1]) C mv_RX7_292 (M_SR_lostWithRock t0 hD) t0 (by decide) rfl rfl (Nat.le_of_ble_eq_true rfl) dX7_rock_58 (fun x19 h18 hD => ?_)
      refine g_iload_n (pc := 61) rfl 2 rfl C dX7_rock_61 ?_
      refine g_icmp_ne (pc := 62) 77 C dX7_rock_62 (by decide) (fun c20 => ?_) (fun c20 => ?_)
      · have hD := hD.1 c20
        refine g_iinc (pc := 77) (q := 5) (c := 1) (fun x21 => [(5, .int x21), (0, .ref l0), (1, .int l1), (2, .int l2), (3, .int l3), (4, .int l4)]) C dX7_rock_77 rfl (by decide) (by decide) rfl (fun x21 ex21 => ?_)
        have hD := hD x21 ex21
        refine g_goto (pc := 80) 38 C dX7_rock_80 (by decide) ?_
        refine g_sub [1, 2, 3, 4, 5, 0] rfl ?_
        exact hK38 l4 x21 h18 hD
      · have hD := hD.2 c20
        refine g_iload (pc := 65) 4 rfl C dX7_rock_65 ?_
        refine g_iload_n (pc := 67) rfl 3 rfl C dX7_rock_67 ?_
        refine g_icmp_ne (pc := 68) 74 C dX7_rock_68 (by decide) (fun c22 => ?_) (fun c22 => ?_)
        · have hD := hD.1 c22
          refine g_iinc (pc := 74) (q := 4) (c := 1) (fun x23 => [(4, .int x23), (0, .ref l0), (1, .int l1), (2, .int l2), (3, .int l3), (5, .int l5)]) C dX7_rock_74 rfl (by decide) (by decide) rfl (fun x23 ex23 => ?_)
          have hD := hD x23 ex23
          refine g_iinc (pc := 77) (q := 5) (c := 1) (fun x24 => [(5, .int x24), (4, .int x23), (0, .ref l0), (1, .int l1), (2, .int l2), (3, .int l3)]) C dX7_rock_77 rfl (by decide) (by decide) rfl (fun x24 ex24 => ?_)
          have hD := hD x24 ex24
          refine g_goto (pc := 80) 38 C dX7_rock_80 (by decide) ?_
          refine g_sub [2, 3, 4, 5, 1, 0] rfl ?_
          exact hK38 x23 x24 h18 hD
        · have hD := hD.2 c22
          refine g_iload (pc := 71) 5 rfl C dX7_rock_71 ?_
          exact g_iret (pc := 73) C R dX7_rock_73 hD
def D_SR_rock (r : TR) (o : Nat) (a1 : Int32) (a2 : Int32) (a3 : Int32) (h : TH) (Q : Int32 → TH → Prop) : Prop :=
  D_SR_isWithin r a1 1 60 h (fun x2 h1 => ((x2 = 0 → Q (-1) h1) ∧ (¬ x2 = 0 → D_Bay_allBoats r (r o 1) h1 (fun x6 h5 => D_SR_isWithin r a2 0 x6 h5 (fun x8 h7 => ((x8 = 0 → Q (-1) h7) ∧ (¬ x8 = 0 → (((-1) ≤ a3 → ∃ n, lp (fun (K : Int32 × Int32 × TH → Prop) (s : Int32 × Int32 × TH) => DB_SR_rock_38 r o a1 a2 a3 s.1 s.2.1 s.2.2 (fun y25 y26 h27 => K (y25, y26, h27)) (fun x28 h29 => ((¬ a3 = (-1) → Q (-1) h29) ∧ (a3 = (-1) → Q x28 h29))) Q) n (0, 0, h7)) ∧ (¬ (-1) ≤ a3 → Q (-1) h7)))))))))
set_option maxRecDepth 100000 in
set_option maxHeartbeats 4000000 in
theorem M_SR_rock {Y : CG} {r : TR} {l : Launch} {o : Nat} {a1 : Int32} {a2 : Int32} {a3 : Int32} {h : TH} {Q : Int32 → TH → Prop} (t0 : TO Y o 7) (hD : D_SR_rock r o a1 a2 a3 h Q) : Mi Y r l yX7_rock cX7_rock 6 .int 8 [.ref o, .int a1, .int a2, .int a3] h Q := by
  unfold D_SR_rock at hD
  refine Mi.of RX7 rfl (by decide) (by simp [lg_sl, Value.category]) [(0, .ref o), (1, .int a1), (2, .int a2), (3, .int a3)] rfl (fun X hXl C R => ?_)
  subst hXl
  refine g_wt (fun hw => ?_)
  refine g_iload_n (pc := 0) rfl 1 rfl C dX7_rock_0 ?_
  refine g_iconst (pc := 1) (v := 1) (by decide) C dX7_rock_1 ?_
  refine g_bipush (pc := 2) (v := 60) (by decide) C dX7_rock_2 ?_
  refine g_callSi (pc := 4) (As := [.int a1, .int 1, .int 60]) C ms_RX7_169 (M_SR_isWithin  hD) (by decide) rfl rfl (Nat.le_of_ble_eq_true rfl) dX7_rock_4 (fun x2 h1 hD => ?_)
  refine g_if_eq (pc := 7) 30 C dX7_rock_7 (by decide) (fun c3 => ?_) (fun c3 => ?_)
  · have hD := hD.1 c3
    refine g_iconst (pc := 30) (v := (-1)) (by decide) C dX7_rock_30 ?_
    exact g_iret (pc := 31) C R dX7_rock_31 hD
  · have hD := hD.2 c3
    refine g_iload_n (pc := 10) rfl 2 rfl C dX7_rock_10 ?_
    refine g_iconst (pc := 11) (v := 0) (by decide) C dX7_rock_11 ?_
    refine g_aload_n (pc := 12) rfl 0 rfl C dX7_rock_12 ?_
    have u4 : TO Y (r o 1) 0 := wt_o hw t0 (by decide) rfl
    refine g_getR (pc := 13) C fl_RX7_19 t0 rfl dX7_rock_13 ?_
    refine g_callVi (pc := 16) (As := []) C mv_RX7_286 (M_Bay_allBoats u4 hD) u4 (by decide) rfl rfl (Nat.le_of_ble_eq_true rfl) dX7_rock_16 (fun x6 h5 hD => ?_)
    refine g_callSi (pc := 19) (As := [.int a2, .int 0, .int x6]) C ms_RX7_169 (M_SR_isWithin  hD) (by decide) rfl rfl (Nat.le_of_ble_eq_true rfl) dX7_rock_19 (fun x8 h7 hD => ?_)
    refine g_if_eq (pc := 22) 30 C dX7_rock_22 (by decide) (fun c9 => ?_) (fun c9 => ?_)
    · have hD := hD.1 c9
      refine g_iconst (pc := 30) (v := (-1)) (by decide) C dX7_rock_30 ?_
      exact g_iret (pc := 31) C R dX7_rock_31 hD
    · have hD := hD.2 c9
      refine g_iload_n (pc := 25) rfl 3 rfl C dX7_rock_25 ?_
      refine g_iconst (pc := 26) (v := (-1)) (by decide) C dX7_rock_26 ?_
      refine g_icmp_ge (pc := 27) 32 C dX7_rock_27 (by decide) (fun c10 => ?_) (fun c10 => ?_)
      · have hD := hD.1 c10
        refine g_iconst (pc := 32) (v := 0) (by decide) C dX7_rock_32 ?_
        refine g_istore (pc := 33) (fun _ => [(4, .int 0), (0, .ref o), (1, .int a1), (2, .int a2), (3, .int a3)]) C dX7_rock_33 (by decide) rfl (fun _ _ => ?_)
        refine g_iconst (pc := 35) (v := 0) (by decide) C dX7_rock_35 ?_
        refine g_istore (pc := 36) (fun _ => [(5, .int 0), (4, .int 0), (0, .ref o), (1, .int a1), (2, .int a2), (3, .int a3)]) C dX7_rock_36 (by decide) rfl (fun _ _ => ?_)
        obtain ⟨n, hD⟩ := hD
        refine g_sub [2, 3, 4, 5, 1, 0] rfl ?_
        refine lp_run (fun s : Int32 × Int32 × TH => G Y X 6 38 [(0, .ref o), (1, .int a1), (2, .int a2), (3, .int a3), (4, .int s.1), (5, .int s.2.1)] [] r s.2.2) (fun K s hB hK => ?_) n (0, 0, h7) hD
        refine WB_SR_rock_38 C R t0 (fun y25 y26 h27 hk => hK _ hk) (fun x28 h29 hD => ?_) hB
        · refine g_iload_n (pc := 83) rfl 0 rfl C dX7_rock_83 ?_
          refine g_iconst (pc := 84) (v := (-1)) (by decide) C dX7_rock_84 ?_
          refine g_icmp_ne (pc := 85) 93 C dX7_rock_85 (by decide) (fun c30 => ?_) (fun c30 => ?_)
          · have hD := hD.1 c30
            refine g_iconst (pc := 93) (v := (-1)) (by decide) C dX7_rock_93 ?_
            exact g_iret (pc := 94) C R dX7_rock_94 hD
          · have hD := hD.2 c30
            refine g_iload (pc := 88) 1 rfl C dX7_rock_88 ?_
            refine g_goto (pc := 90) 94 C dX7_rock_90 (by decide) ?_
            exact g_iret (pc := 94) C R dX7_rock_94 hD
      · have hD := hD.2 c10
        refine g_iconst (pc := 30) (v := (-1)) (by decide) C dX7_rock_30 ?_
        exact g_iret (pc := 31) C R dX7_rock_31 hD
def DB_SR_route_48 (r : TR) (l0 : Nat) (l2 : Int32) (l4 : Int32) (l5 : Int32) (h : TH) (K48 : Int32 → Int32 → TH → Prop) (K80 : Int32 → TH → Prop) (Q : Int32 → TH → Prop) : Prop :=
  ((l2 ≤ l5 → K80 l4 h) ∧ (¬ l2 ≤ l5 → D_Bay_wayNearer r (r l0 1) l4 h (fun x18 h17 => D_Bay_beside r (r l0 1) l4 x18 h17 (fun x20 h19 => ∀ x22 : Int32, x22 = l5 + 1 → K48 x20 x22 h19))))
set_option maxRecDepth 100000 in
set_option maxHeartbeats 4000000 in
theorem WB_SR_route_48 {Y : CG} {X : CX} {r : TR} {l0 : Nat} {l2 : Int32} {l4 : Int32} {l5 : Int32} {h : TH} {K48 : Int32 → Int32 → TH → Prop} {K80 : Int32 → TH → Prop} {Q : Int32 → TH → Prop} (C : Gd Y X cX7_route 6 RX7 4) (R : Ri Y r X .int Q) (t0 : TO Y l0 7) (hK48 : ∀ (k4 : Int32) (k5 : Int32) (hh : TH), K48 k4 k5 hh → G Y X 6 48 [(0, .ref l0), (2, .int l2), (4, .int k4), (5, .int k5)] [] r hh) (hK80 : ∀ (k4 : Int32) (hh : TH), K80 k4 hh → G Y X 6 80 [(0, .ref l0), (4, .int k4)] [] r hh) (hD : DB_SR_route_48 r l0 l2 l4 l5 h K48 K80 Q) : G Y X 6 48 [(0, .ref l0), (2, .int l2), (4, .int l4), (5, .int l5)] [] r h := by
  unfold DB_SR_route_48 at hD
  refine g_wt (fun hw => ?_)
  refine g_iload (pc := 48) 3 rfl C dX7_route_48 ?_
  refine g_iload_n (pc := 50) rfl 1 rfl C dX7_route_50 ?_
  refine g_icmp_ge (pc := 51) 80 C dX7_route_51 (by decide) (fun c14 => ?_) (fun c14 => ?_)
  · have hD := hD.1 c14
    refine g_sub [0, 2] rfl ?_
    exact hK80 l4 h hD
  · have hD := hD.2 c14
    refine g_aload_n (pc := 54) rfl 0 rfl C dX7_route_54 ?_
    have u15 : TO Y (r l0 1) 0 := wt_o hw t0 (by decide) rfl
    refine g_getR (pc := 55) C fl_RX7_19 t0 rfl dX7_route_55 ?_
    refine g_iload (pc := 58) 2 rfl C dX7_route_58 ?_
    refine g_aload_n (pc := 60) rfl 0 rfl C dX7_route_60 ?_
    have u16 : TO Y (r l0 1) 0 := wt_o hw t0 (by decide) rfl
    refine g_getR (pc := 61) C fl_RX7_19 t0 rfl dX7_route_61 ?_
    refine g_iload (pc := 64) 2 rfl C dX7_route_64 ?_
    refine g_callVi (pc := 66) (As := [.int l4]) C mv_RX7_210 (M_Bay_wayNearer u16 hD) u16 (by decide) rfl rfl (Nat.le_of_ble_eq_true rfl) dX7_route_66 (fun x18 h17 hD => ?_)
    refine g_callVi (pc := 69) (As := [.int l4, .int x18]) C mv_RX7_213 (M_Bay_beside u15 hD) u15 (by decide) rfl rfl (Nat.le_of_ble_eq_true rfl) dX7_route_69 (fun x20 h19 hD => ?_)
    refine g_istore (pc := 72) (fun _ => [(4, .int x20), (0, .ref l0), (2, .int l2), (5, .int l5)]) C dX7_route_72 (by decide) rfl (fun _ _ => ?_)
    refine g_iinc (pc := 74) (q := 3) (c := 1) (fun x22 => [(5, .int x22), (4, .int x20), (0, .ref l0), (2, .int l2)]) C dX7_route_74 rfl (by decide) (by decide) rfl (fun x22 ex22 => ?_)
    have hD := hD x22 ex22
    refine g_goto (pc := 77) 48 C dX7_route_77 (by decide) ?_
    refine g_sub [2, 3, 1, 0] rfl ?_
    exact hK48 x20 x22 h19 hD
def D_SR_route (r : TR) (o : Nat) (a1 : Int32) (a2 : Int32) (h : TH) (Q : Int32 → TH → Prop) : Prop :=
  D_SR_isBoat r o a1 h (fun x2 h1 => ((x2 = 0 → Q (-1) h1) ∧ (¬ x2 = 0 → ((0 ≤ a2 → D_SR_stepsToMark r o a1 h1 (fun x6 h5 => ((0 < x6 → ((a2 < x6 → vp_in a1 6 ∧ ∀ x12 : Int32, x12 = h5.1 (r (r o 2) 4) a1.toNatClampNeg → ∃ n, lp (fun (K : Int32 × Int32 × TH → Prop) (s : Int32 × Int32 × TH) => DB_SR_route_48 r o a2 s.1 s.2.1 s.2.2 (fun y23 y24 h25 => K (y23, y24, h25)) (fun x26 h27 => D_Bay_wayNearer r (r o 1) x26 h27 (fun x30 h29 => Q x30 h29)) Q) n (x12, 0, h5)) ∧ (¬ a2 < x6 → Q (-1) h5))) ∧ (¬ 0 < x6 → Q (-2) h5)))) ∧ (¬ 0 ≤ a2 → Q (-1) h1)))))
set_option maxRecDepth 100000 in
set_option maxHeartbeats 4000000 in
theorem M_SR_route {Y : CG} {r : TR} {l : Launch} {o : Nat} {a1 : Int32} {a2 : Int32} {h : TH} {Q : Int32 → TH → Prop} (t0 : TO Y o 7) (hD : D_SR_route r o a1 a2 h Q) : Mi Y r l yX7_route cX7_route 6 .int 4 [.ref o, .int a1, .int a2] h Q := by
  unfold D_SR_route at hD
  refine Mi.of RX7 rfl (by decide) (by simp [lg_sl, Value.category]) [(0, .ref o), (1, .int a1), (2, .int a2)] rfl (fun X hXl C R => ?_)
  subst hXl
  refine g_wt (fun hw => ?_)
  refine g_aload_n (pc := 0) rfl 0 rfl C dX7_route_0 ?_
  refine g_iload_n (pc := 1) rfl 1 rfl C dX7_route_1 ?_
  refine g_callVi (pc := 2) (As := [.int a1]) C mv_RX7_99 (M_SR_isBoat t0 hD) t0 (by decide) rfl rfl (Nat.le_of_ble_eq_true rfl) dX7_route_2 (fun x2 h1 hD => ?_)
  refine g_if_eq (pc := 5) 12 C dX7_route_5 (by decide) (fun c3 => ?_) (fun c3 => ?_)
  · have hD := hD.1 c3
    refine g_iconst (pc := 12) (v := (-1)) (by decide) C dX7_route_12 ?_
    exact g_iret (pc := 13) C R dX7_route_13 hD
  · have hD := hD.2 c3
    refine g_iload_n (pc := 8) rfl 2 rfl C dX7_route_8 ?_
    refine g_if_ge (pc := 9) 14 C dX7_route_9 (by decide) (fun c4 => ?_) (fun c4 => ?_)
    · have hD := hD.1 c4
      refine g_aload_n (pc := 14) rfl 0 rfl C dX7_route_14 ?_
      refine g_iload_n (pc := 15) rfl 1 rfl C dX7_route_15 ?_
      refine g_callVi (pc := 16) (As := [.int a1]) C mv_RX7_207 (M_SR_stepsToMark t0 hD) t0 (by decide) rfl rfl (Nat.le_of_ble_eq_true rfl) dX7_route_16 (fun x6 h5 hD => ?_)
      refine g_istore_n (pc := 19) (fun _ => [(3, .int x6), (0, .ref o), (1, .int a1), (2, .int a2)]) C dX7_route_19 rfl (by decide) rfl (fun _ _ => ?_)
      refine g_iload_n (pc := 20) rfl 0 rfl C dX7_route_20 ?_
      refine g_if_gt (pc := 21) 27 C dX7_route_21 (by decide) (fun c8 => ?_) (fun c8 => ?_)
      · have hD := hD.1 c8
        refine g_iload_n (pc := 27) rfl 3 rfl C dX7_route_27 ?_
        refine g_iload_n (pc := 28) rfl 0 rfl C dX7_route_28 ?_
        refine g_icmp_lt (pc := 29) 34 C dX7_route_29 (by decide) (fun c9 => ?_) (fun c9 => ?_)
        · have hD := hD.1 c9
          refine g_aload_n (pc := 34) rfl 1 rfl C dX7_route_34 ?_
          have u10 : TO Y (r o 2) 5 := wt_o hw t0 (by decide) rfl
          refine g_getR (pc := 35) C fl_RX7_26 t0 rfl dX7_route_35 ?_
          have u11 : TA Y (r (r o 2) 4) 10 6 := wt_a hw u10 (by decide) (by decide) rfl
          refine g_getR (pc := 38) C fl_RX7_157 u10 rfl dX7_route_38 ?_
          refine g_iload_n (pc := 41) rfl 2 rfl C dX7_route_41 ?_
          obtain ⟨hb, hD⟩ := hD
          refine g_iald (pc := 42) C u11 hb dX7_route_42 ?_
          refine g_istore (pc := 43) (fun x12 => [(4, .int x12), (3, .int x6), (0, .ref o), (1, .int a1), (2, .int a2)]) C dX7_route_43 (by decide) rfl (fun x12 ex12 => ?_)
          have hD := hD x12 ex12
          refine g_iconst (pc := 45) (v := 0) (by decide) C dX7_route_45 ?_
          refine g_istore (pc := 46) (fun _ => [(5, .int 0), (4, .int x12), (3, .int x6), (0, .ref o), (1, .int a1), (2, .int a2)]) C dX7_route_46 (by decide) rfl (fun _ _ => ?_)
          obtain ⟨n, hD⟩ := hD
          refine g_sub [3, 5, 1, 0] rfl ?_
          refine lp_run (fun s : Int32 × Int32 × TH => G Y X 6 48 [(0, .ref o), (2, .int a2), (4, .int s.1), (5, .int s.2.1)] [] r s.2.2) (fun K s hB hK => ?_) n (x12, 0, h5) hD
          refine WB_SR_route_48 C R t0 (fun y23 y24 h25 hk => hK _ hk) (fun x26 h27 hD => ?_) hB
          · refine g_aload_n (pc := 80) rfl 0 rfl C dX7_route_80 ?_
            have u28 : TO Y (r o 1) 0 := wt_o hw t0 (by decide) rfl
            refine g_getR (pc := 81) C fl_RX7_19 t0 rfl dX7_route_81 ?_
            refine g_iload (pc := 84) 1 rfl C dX7_route_84 ?_
            refine g_callVi (pc := 86) (As := [.int x26]) C mv_RX7_210 (M_Bay_wayNearer u28 hD) u28 (by decide) rfl rfl (Nat.le_of_ble_eq_true rfl) dX7_route_86 (fun x30 h29 hD => ?_)
            exact g_iret (pc := 89) C R dX7_route_89 hD
        · have hD := hD.2 c9
          refine g_iconst (pc := 32) (v := (-1)) (by decide) C dX7_route_32 ?_
          exact g_iret (pc := 33) C R dX7_route_33 hD
      · have hD := hD.2 c8
        refine g_bipush (pc := 24) (v := (-2)) (by decide) C dX7_route_24 ?_
        exact g_iret (pc := 26) C R dX7_route_26 hD
    · have hD := hD.2 c4
      refine g_iconst (pc := 12) (v := (-1)) (by decide) C dX7_route_12 ?_
      exact g_iret (pc := 13) C R dX7_route_13 hD
def DB_SR_smelt_18 (r : TR) (l0 : Nat) (l1 : Int32) (l2 : Int32) (l3 : Int32) (h : TH) (K18 : Int32 → TH → Prop) (K77 : TH → Prop) (Q : Int32 → TH → Prop) : Prop :=
  ((100 < l3 → K77 h) ∧ (¬ 100 < l3 → D_Bay_dishesSmelledBy r (r l0 1) (r l0 3) l1 (h.1 (r l0 1) 4) h (fun x12 h11 => ((¬ ((x12 >>> (l2 &&& 31)) &&& 1) = 1 → D_Bay_passHour r (r l0 1) (r l0 3) (h11.1 (r l0 1) 4) h11 (fun h17 => ∀ x19 : Int32, x19 = l3 + 1 → K18 x19 h17)) ∧ (((x12 >>> (l2 &&& 31)) &&& 1) = 1 → Q l3 h11)))))
set_option maxRecDepth 100000 in
set_option maxHeartbeats 4000000 in
theorem WB_SR_smelt_18 {Y : CG} {X : CX} {r : TR} {l0 : Nat} {l1 : Int32} {l2 : Int32} {l3 : Int32} {h : TH} {K18 : Int32 → TH → Prop} {K77 : TH → Prop} {Q : Int32 → TH → Prop} (C : Gd Y X cX7_smelt 4 RX7 8) (R : Ri Y r X .int Q) (t0 : TO Y l0 7) (hK18 : ∀ (k3 : Int32) (hh : TH), K18 k3 hh → G Y X 4 18 [(0, .ref l0), (1, .int l1), (2, .int l2), (3, .int k3)] [] r hh) (hK77 : ∀ (hh : TH), K77 hh → G Y X 4 77 [] [] r hh) (hD : DB_SR_smelt_18 r l0 l1 l2 l3 h K18 K77 Q) : G Y X 4 18 [(0, .ref l0), (1, .int l1), (2, .int l2), (3, .int l3)] [] r h := by
  unfold DB_SR_smelt_18 at hD
  refine g_wt (fun hw => ?_)
  refine g_iload_n (pc := 18) rfl 3 rfl C dX7_smelt_18 ?_
  refine g_bipush (pc := 19) (v := 100) (by decide) C dX7_smelt_19 ?_
  refine g_icmp_gt (pc := 21) 77 C dX7_smelt_21 (by decide) (fun c7 => ?_) (fun c7 => ?_)
  · have hD := hD.1 c7
    refine g_sub [] rfl ?_
    exact hK77 h hD
  · have hD := hD.2 c7
    refine g_aload_n (pc := 24) rfl 0 rfl C dX7_smelt_24 ?_
    have u8 : TO Y (r l0 1) 0 := wt_o hw t0 (by decide) rfl
    refine g_getR (pc := 25) C fl_RX7_19 t0 rfl dX7_smelt_25 ?_
    refine g_aload_n (pc := 28) rfl 0 rfl C dX7_smelt_28 ?_
    have u9 : TO Y (r l0 3) 5 := wt_o hw t0 (by decide) rfl
    refine g_getR (pc := 29) C fl_RX7_30 t0 rfl dX7_smelt_29 ?_
    refine g_iload_n (pc := 32) rfl 1 rfl C dX7_smelt_32 ?_
    refine g_aload_n (pc := 33) rfl 0 rfl C dX7_smelt_33 ?_
    have u10 : TO Y (r l0 1) 0 := wt_o hw t0 (by decide) rfl
    refine g_getR (pc := 34) C fl_RX7_19 t0 rfl dX7_smelt_34 ?_
    refine g_getI (pc := 37) C fl_RX7_119 u10 rfl dX7_smelt_37 ?_
    refine g_callVi (pc := 40) (As := [.ref (r l0 3), .int l1, .int (h.1 (r l0 1) 4)]) C mv_RX7_122 (M_Bay_dishesSmelledBy u8 u9 hD) u8 (by decide) rfl rfl (Nat.le_of_ble_eq_true rfl) dX7_smelt_40 (fun x12 h11 hD => ?_)
    refine g_iload_n (pc := 43) rfl 2 rfl C dX7_smelt_43 ?_
    refine g_ishr (pc := 44) C dX7_smelt_44 ?_
    refine g_iconst (pc := 45) (v := 1) (by decide) C dX7_smelt_45 ?_
    refine g_iand (pc := 46) C dX7_smelt_46 ?_
    refine g_iconst (pc := 47) (v := 1) (by decide) C dX7_smelt_47 ?_
    refine g_icmp_ne (pc := 48) 53 C dX7_smelt_48 (by decide) (fun c13 => ?_) (fun c13 => ?_)
    · have hD := hD.1 c13
      refine g_aload_n (pc := 53) rfl 0 rfl C dX7_smelt_53 ?_
      have u14 : TO Y (r l0 1) 0 := wt_o hw t0 (by decide) rfl
      refine g_getR (pc := 54) C fl_RX7_19 t0 rfl dX7_smelt_54 ?_
      refine g_aload_n (pc := 57) rfl 0 rfl C dX7_smelt_57 ?_
      have u15 : TO Y (r l0 3) 5 := wt_o hw t0 (by decide) rfl
      refine g_getR (pc := 58) C fl_RX7_30 t0 rfl dX7_smelt_58 ?_
      refine g_aload_n (pc := 61) rfl 0 rfl C dX7_smelt_61 ?_
      have u16 : TO Y (r l0 1) 0 := wt_o hw t0 (by decide) rfl
      refine g_getR (pc := 62) C fl_RX7_19 t0 rfl dX7_smelt_62 ?_
      refine g_getI (pc := 65) C fl_RX7_119 u16 rfl dX7_smelt_65 ?_
      refine g_callVv (pc := 68) (As := [.ref (r l0 3), .int (h11.1 (r l0 1) 4)]) C mv_RX7_226 (M_Bay_passHour u14 u15 hD) u14 (by decide) rfl rfl (Nat.le_of_ble_eq_true rfl) dX7_smelt_68 (fun h17 hD => ?_)
      refine g_iinc (pc := 71) (q := 3) (c := 1) (fun x19 => [(3, .int x19), (0, .ref l0), (1, .int l1), (2, .int l2)]) C dX7_smelt_71 rfl (by decide) (by decide) rfl (fun x19 ex19 => ?_)
      have hD := hD x19 ex19
      refine g_goto (pc := 74) 18 C dX7_smelt_74 (by decide) ?_
      refine g_sub [1, 2, 3, 0] rfl ?_
      exact hK18 x19 h17 hD
    · have hD := hD.2 c13
      refine g_iload_n (pc := 51) rfl 3 rfl C dX7_smelt_51 ?_
      exact g_iret (pc := 52) C R dX7_smelt_52 hD
def D_SR_smelt (r : TR) (o : Nat) (a1 : Int32) (a2 : Int32) (h : TH) (Q : Int32 → TH → Prop) : Prop :=
  D_SR_arePair r o a1 a2 h (fun x2 h1 => ((¬ x2 = 0 → D_SR_lookAhead r o 0 h1 (fun h4 => ∃ n, lp (fun (K : Int32 × TH → Prop) (s : Int32 × TH) => DB_SR_smelt_18 r o a1 a2 s.1 s.2 (fun y20 h21 => K (y20, h21)) (fun h22 => Q (-2) h22) Q) n (0, h4))) ∧ (x2 = 0 → Q (-1) h1)))
set_option maxRecDepth 100000 in
set_option maxHeartbeats 4000000 in
theorem M_SR_smelt {Y : CG} {r : TR} {l : Launch} {o : Nat} {a1 : Int32} {a2 : Int32} {h : TH} {Q : Int32 → TH → Prop} (t0 : TO Y o 7) (hD : D_SR_smelt r o a1 a2 h Q) : Mi Y r l yX7_smelt cX7_smelt 4 .int 8 [.ref o, .int a1, .int a2] h Q := by
  unfold D_SR_smelt at hD
  refine Mi.of RX7 rfl (by decide) (by simp [lg_sl, Value.category]) [(0, .ref o), (1, .int a1), (2, .int a2)] rfl (fun X hXl C R => ?_)
  subst hXl
  refine g_wt (fun hw => ?_)
  refine g_aload_n (pc := 0) rfl 0 rfl C dX7_smelt_0 ?_
  refine g_iload_n (pc := 1) rfl 1 rfl C dX7_smelt_1 ?_
  refine g_iload_n (pc := 2) rfl 2 rfl C dX7_smelt_2 ?_
  refine g_callVi (pc := 3) (As := [.int a1, .int a2]) C mv_RX7_241 (M_SR_arePair t0 hD) t0 (by decide) rfl rfl (Nat.le_of_ble_eq_true rfl) dX7_smelt_3 (fun x2 h1 hD => ?_)
  refine g_if_ne (pc := 6) 11 C dX7_smelt_6 (by decide) (fun c3 => ?_) (fun c3 => ?_)
  · have hD := hD.1 c3
    refine g_aload_n (pc := 11) rfl 0 rfl C dX7_smelt_11 ?_
    refine g_iconst (pc := 12) (v := 0) (by decide) C dX7_smelt_12 ?_
    refine g_callVv (pc := 13) (As := [.int 0]) C mv_RX7_193 (M_SR_lookAhead t0 hD) t0 (by decide) rfl rfl (Nat.le_of_ble_eq_true rfl) dX7_smelt_13 (fun h4 hD => ?_)
    refine g_iconst (pc := 16) (v := 0) (by decide) C dX7_smelt_16 ?_
    refine g_istore_n (pc := 17) (fun _ => [(3, .int 0), (0, .ref o), (1, .int a1), (2, .int a2)]) C dX7_smelt_17 rfl (by decide) rfl (fun _ _ => ?_)
    obtain ⟨n, hD⟩ := hD
    refine g_sub [1, 2, 3, 0] rfl ?_
    refine lp_run (fun s : Int32 × TH => G Y X 4 18 [(0, .ref o), (1, .int a1), (2, .int a2), (3, .int s.1)] [] r s.2) (fun K s hB hK => ?_) n (0, h4) hD
    refine WB_SR_smelt_18 C R t0 (fun y20 h21 hk => hK _ hk) (fun h22 hD => ?_) hB
    · refine g_bipush (pc := 77) (v := (-2)) (by decide) C dX7_smelt_77 ?_
      exact g_iret (pc := 79) C R dX7_smelt_79 hD
  · have hD := hD.2 c3
    refine g_iconst (pc := 9) (v := (-1)) (by decide) C dX7_smelt_9 ?_
    exact g_iret (pc := 10) C R dX7_smelt_10 hD
def D_SR_soonest (r : TR) (o : Nat) (a1 : Int32) (h : TH) (Q : Int32 → TH → Prop) : Prop :=
  D_SR_isBoat r o a1 h (fun x2 h1 => ((¬ x2 = 0 → D_SR_stepsToMark r o a1 h1 (fun x5 h4 => Q x5 h4)) ∧ (x2 = 0 → Q (-1) h1)))
set_option maxRecDepth 100000 in
set_option maxHeartbeats 4000000 in
theorem M_SR_soonest {Y : CG} {r : TR} {l : Launch} {o : Nat} {a1 : Int32} {h : TH} {Q : Int32 → TH → Prop} (t0 : TO Y o 7) (hD : D_SR_soonest r o a1 h Q) : Mi Y r l yX7_soonest cX7_soonest 2 .int 3 [.ref o, .int a1] h Q := by
  unfold D_SR_soonest at hD
  refine Mi.of RX7 rfl (by decide) (by simp [lg_sl, Value.category]) [(0, .ref o), (1, .int a1)] rfl (fun X hXl C R => ?_)
  subst hXl
  refine g_wt (fun hw => ?_)
  refine g_aload_n (pc := 0) rfl 0 rfl C dX7_soonest_0 ?_
  refine g_iload_n (pc := 1) rfl 1 rfl C dX7_soonest_1 ?_
  refine g_callVi (pc := 2) (As := [.int a1]) C mv_RX7_99 (M_SR_isBoat t0 hD) t0 (by decide) rfl rfl (Nat.le_of_ble_eq_true rfl) dX7_soonest_2 (fun x2 h1 hD => ?_)
  refine g_if_ne (pc := 5) 10 C dX7_soonest_5 (by decide) (fun c3 => ?_) (fun c3 => ?_)
  · have hD := hD.1 c3
    refine g_aload_n (pc := 10) rfl 0 rfl C dX7_soonest_10 ?_
    refine g_iload_n (pc := 11) rfl 1 rfl C dX7_soonest_11 ?_
    refine g_callVi (pc := 12) (As := [.int a1]) C mv_RX7_207 (M_SR_stepsToMark t0 hD) t0 (by decide) rfl rfl (Nat.le_of_ble_eq_true rfl) dX7_soonest_12 (fun x5 h4 hD => ?_)
    exact g_iret (pc := 15) C R dX7_soonest_15 hD
  · have hD := hD.2 c3
    refine g_iconst (pc := 8) (v := (-1)) (by decide) C dX7_soonest_8 ?_
    exact g_iret (pc := 9) C R dX7_soonest_9 hD
def D_SR_steers (r : TR) (o : Nat) (a1 : Int32) (h : TH) (Q : Int32 → TH → Prop) : Prop :=
  D_SR_isBoat r o a1 h (fun x2 h1 => ((¬ x2 = 0 → D_Sc_isSailing r (r o 2) a1 h1 (fun x6 h5 => ((x6 = 0 → Q (-2) h5) ∧ (¬ x6 = 0 → D_Bay_windAt r (r o 1) (h5.1 (r o 2) 0) h5 (fun x13 h12 => D_Bay_wayOf r (r o 1) (r o 2) a1 x13 (h12.1 (r o 1) 4) h12 (fun x16 h15 => Q x16 h15)))))) ∧ (x2 = 0 → Q (-1) h1)))
set_option maxRecDepth 100000 in
set_option maxHeartbeats 4000000 in
theorem M_SR_steers {Y : CG} {r : TR} {l : Launch} {o : Nat} {a1 : Int32} {h : TH} {Q : Int32 → TH → Prop} (t0 : TO Y o 7) (hD : D_SR_steers r o a1 h Q) : Mi Y r l yX7_steers cX7_steers 2 .int 5 [.ref o, .int a1] h Q := by
  unfold D_SR_steers at hD
  refine Mi.of RX7 rfl (by decide) (by simp [lg_sl, Value.category]) [(0, .ref o), (1, .int a1)] rfl (fun X hXl C R => ?_)
  subst hXl
  refine g_wt (fun hw => ?_)
  refine g_aload_n (pc := 0) rfl 0 rfl C dX7_steers_0 ?_
  refine g_iload_n (pc := 1) rfl 1 rfl C dX7_steers_1 ?_
  refine g_callVi (pc := 2) (As := [.int a1]) C mv_RX7_99 (M_SR_isBoat t0 hD) t0 (by decide) rfl rfl (Nat.le_of_ble_eq_true rfl) dX7_steers_2 (fun x2 h1 hD => ?_)
  refine g_if_ne (pc := 5) 10 C dX7_steers_5 (by decide) (fun c3 => ?_) (fun c3 => ?_)
  · have hD := hD.1 c3
    refine g_aload_n (pc := 10) rfl 0 rfl C dX7_steers_10 ?_
    have u4 : TO Y (r o 2) 5 := wt_o hw t0 (by decide) rfl
    refine g_getR (pc := 11) C fl_RX7_26 t0 rfl dX7_steers_11 ?_
    refine g_iload_n (pc := 14) rfl 1 rfl C dX7_steers_14 ?_
    refine g_callVi (pc := 15) (As := [.int a1]) C mv_RX7_154 (M_Sc_isSailing u4 hD) u4 (by decide) rfl rfl (Nat.le_of_ble_eq_true rfl) dX7_steers_15 (fun x6 h5 hD => ?_)
    refine g_if_eq (pc := 18) 57 C dX7_steers_18 (by decide) (fun c7 => ?_) (fun c7 => ?_)
    · have hD := hD.1 c7
      refine g_bipush (pc := 57) (v := (-2)) (by decide) C dX7_steers_57 ?_
      exact g_iret (pc := 59) C R dX7_steers_59 hD
    · have hD := hD.2 c7
      refine g_aload_n (pc := 21) rfl 0 rfl C dX7_steers_21 ?_
      have u8 : TO Y (r o 1) 0 := wt_o hw t0 (by decide) rfl
      refine g_getR (pc := 22) C fl_RX7_19 t0 rfl dX7_steers_22 ?_
      refine g_aload_n (pc := 25) rfl 0 rfl C dX7_steers_25 ?_
      have u9 : TO Y (r o 2) 5 := wt_o hw t0 (by decide) rfl
      refine g_getR (pc := 26) C fl_RX7_26 t0 rfl dX7_steers_26 ?_
      refine g_iload_n (pc := 29) rfl 1 rfl C dX7_steers_29 ?_
      refine g_aload_n (pc := 30) rfl 0 rfl C dX7_steers_30 ?_
      have u10 : TO Y (r o 1) 0 := wt_o hw t0 (by decide) rfl
      refine g_getR (pc := 31) C fl_RX7_19 t0 rfl dX7_steers_31 ?_
      refine g_aload_n (pc := 34) rfl 0 rfl C dX7_steers_34 ?_
      have u11 : TO Y (r o 2) 5 := wt_o hw t0 (by decide) rfl
      refine g_getR (pc := 35) C fl_RX7_26 t0 rfl dX7_steers_35 ?_
      refine g_getI (pc := 38) C fl_RX7_126 u11 rfl dX7_steers_38 ?_
      refine g_callVi (pc := 41) (As := [.int (h5.1 (r o 2) 0)]) C mv_RX7_172 (M_Bay_windAt u10 hD) u10 (by decide) rfl rfl (Nat.le_of_ble_eq_true rfl) dX7_steers_41 (fun x13 h12 hD => ?_)
      refine g_aload_n (pc := 44) rfl 0 rfl C dX7_steers_44 ?_
      have u14 : TO Y (r o 1) 0 := wt_o hw t0 (by decide) rfl
      refine g_getR (pc := 45) C fl_RX7_19 t0 rfl dX7_steers_45 ?_
      refine g_getI (pc := 48) C fl_RX7_119 u14 rfl dX7_steers_48 ?_
      refine g_callVi (pc := 51) (As := [.ref (r o 2), .int a1, .int x13, .int (h12.1 (r o 1) 4)]) C mv_RX7_175 (M_Bay_wayOf u8 u9 hD) u8 (by decide) rfl rfl (Nat.le_of_ble_eq_true rfl) dX7_steers_51 (fun x16 h15 hD => ?_)
      refine g_goto (pc := 54) 59 C dX7_steers_54 (by decide) ?_
      exact g_iret (pc := 59) C R dX7_steers_59 hD
  · have hD := hD.2 c3
    refine g_iconst (pc := 8) (v := (-1)) (by decide) C dX7_steers_8 ?_
    exact g_iret (pc := 9) C R dX7_steers_9 hD
def D_SR_sure (r : TR) (o : Nat) (a1 : Int32) (a2 : Int32) (h : TH) (Q : Int32 → TH → Prop) : Prop :=
  D_SR_isWithin r a1 0 (h.1 (r o 7) 0) h (fun x3 h2 => ((x3 = 0 → Q (-1) h2) ∧ (¬ x3 = 0 → D_SR_isBoat r o a2 h2 (fun x6 h5 => ((¬ x6 = 0 → D_Told_allowFirst r (r o 7) a1 (h5.1 (r o 1) 2) h5 (fun h10 => D_Told_ownerOf r (r o 7) a2 (h10.1 (r o 1) 2) h10 (fun x15 h14 => Q x15 h14))) ∧ (x6 = 0 → Q (-1) h5))))))
set_option maxRecDepth 100000 in
set_option maxHeartbeats 4000000 in
theorem M_SR_sure {Y : CG} {r : TR} {l : Launch} {o : Nat} {a1 : Int32} {a2 : Int32} {h : TH} {Q : Int32 → TH → Prop} (t0 : TO Y o 7) (hD : D_SR_sure r o a1 a2 h Q) : Mi Y r l yX7_sure cX7_sure 3 .int 4 [.ref o, .int a1, .int a2] h Q := by
  unfold D_SR_sure at hD
  refine Mi.of RX7 rfl (by decide) (by simp [lg_sl, Value.category]) [(0, .ref o), (1, .int a1), (2, .int a2)] rfl (fun X hXl C R => ?_)
  subst hXl
  refine g_wt (fun hw => ?_)
  refine g_iload_n (pc := 0) rfl 1 rfl C dX7_sure_0 ?_
  refine g_iconst (pc := 1) (v := 0) (by decide) C dX7_sure_1 ?_
  refine g_aload_n (pc := 2) rfl 0 rfl C dX7_sure_2 ?_
  have u1 : TO Y (r o 7) 6 := wt_o hw t0 (by decide) rfl
  refine g_getR (pc := 3) C fl_RX7_51 t0 rfl dX7_sure_3 ?_
  refine g_getI (pc := 6) C fl_RX7_93 u1 rfl dX7_sure_6 ?_
  refine g_callSi (pc := 9) (As := [.int a1, .int 0, .int (h.1 (r o 7) 0)]) C ms_RX7_169 (M_SR_isWithin  hD) (by decide) rfl rfl (Nat.le_of_ble_eq_true rfl) dX7_sure_9 (fun x3 h2 hD => ?_)
  refine g_if_eq (pc := 12) 23 C dX7_sure_12 (by decide) (fun c4 => ?_) (fun c4 => ?_)
  · have hD := hD.1 c4
    refine g_iconst (pc := 23) (v := (-1)) (by decide) C dX7_sure_23 ?_
    exact g_iret (pc := 24) C R dX7_sure_24 hD
  · have hD := hD.2 c4
    refine g_aload_n (pc := 15) rfl 0 rfl C dX7_sure_15 ?_
    refine g_iload_n (pc := 16) rfl 2 rfl C dX7_sure_16 ?_
    refine g_callVi (pc := 17) (As := [.int a2]) C mv_RX7_99 (M_SR_isBoat t0 hD) t0 (by decide) rfl rfl (Nat.le_of_ble_eq_true rfl) dX7_sure_17 (fun x6 h5 hD => ?_)
    refine g_if_ne (pc := 20) 25 C dX7_sure_20 (by decide) (fun c7 => ?_) (fun c7 => ?_)
    · have hD := hD.1 c7
      refine g_aload_n (pc := 25) rfl 0 rfl C dX7_sure_25 ?_
      have u8 : TO Y (r o 7) 6 := wt_o hw t0 (by decide) rfl
      refine g_getR (pc := 26) C fl_RX7_51 t0 rfl dX7_sure_26 ?_
      refine g_iload_n (pc := 29) rfl 1 rfl C dX7_sure_29 ?_
      refine g_aload_n (pc := 30) rfl 0 rfl C dX7_sure_30 ?_
      have u9 : TO Y (r o 1) 0 := wt_o hw t0 (by decide) rfl
      refine g_getR (pc := 31) C fl_RX7_19 t0 rfl dX7_sure_31 ?_
      refine g_getI (pc := 34) C fl_RX7_133 u9 rfl dX7_sure_34 ?_
      refine g_callVv (pc := 37) (As := [.int a1, .int (h5.1 (r o 1) 2)]) C mv_RX7_276 (M_Told_allowFirst u8 hD) u8 (by decide) rfl rfl (Nat.le_of_ble_eq_true rfl) dX7_sure_37 (fun h10 hD => ?_)
      refine g_aload_n (pc := 40) rfl 0 rfl C dX7_sure_40 ?_
      have u12 : TO Y (r o 7) 6 := wt_o hw t0 (by decide) rfl
      refine g_getR (pc := 41) C fl_RX7_51 t0 rfl dX7_sure_41 ?_
      refine g_iload_n (pc := 44) rfl 2 rfl C dX7_sure_44 ?_
      refine g_aload_n (pc := 45) rfl 0 rfl C dX7_sure_45 ?_
      have u13 : TO Y (r o 1) 0 := wt_o hw t0 (by decide) rfl
      refine g_getR (pc := 46) C fl_RX7_19 t0 rfl dX7_sure_46 ?_
      refine g_getI (pc := 49) C fl_RX7_133 u13 rfl dX7_sure_49 ?_
      refine g_callVi (pc := 52) (As := [.int a2, .int (h10.1 (r o 1) 2)]) C mv_RX7_283 (M_Told_ownerOf u12 hD) u12 (by decide) rfl rfl (Nat.le_of_ble_eq_true rfl) dX7_sure_52 (fun x15 h14 hD => ?_)
      exact g_iret (pc := 55) C R dX7_sure_55 hD
    · have hD := hD.2 c7
      refine g_iconst (pc := 23) (v := (-1)) (by decide) C dX7_sure_23 ?_
      exact g_iret (pc := 24) C R dX7_sure_24 hD
def D_SR_tell (r : TR) (o : Nat) (a1 : Int32) (a2 : Int32) (h : TH) (Q : Int32 → TH → Prop) : Prop :=
  ((20 ≤ (h.1 (r o 7) 0) → Q (-1) h) ∧ (¬ 20 ≤ (h.1 (r o 7) 0) → D_SR_isBoat r o a1 h (fun x4 h3 => ((x4 = 0 → Q (-1) h3) ∧ (¬ x4 = 0 → D_SR_isBoat r o a2 h3 (fun x7 h6 => ((¬ x7 = 0 → D_Bay_dishesSmelledBy r (r o 1) (r o 2) a1 (h6.1 (r o 1) 4) h6 (fun x14 h13 => D_Told_add r (r o 7) a2 x14 h13 (fun x16 h15 => Q x16 h15))) ∧ (x7 = 0 → Q (-1) h6))))))))
set_option maxRecDepth 100000 in
set_option maxHeartbeats 4000000 in
theorem M_SR_tell {Y : CG} {r : TR} {l : Launch} {o : Nat} {a1 : Int32} {a2 : Int32} {h : TH} {Q : Int32 → TH → Prop} (t0 : TO Y o 7) (hD : D_SR_tell r o a1 a2 h Q) : Mi Y r l yX7_tell cX7_tell 3 .int 4 [.ref o, .int a1, .int a2] h Q := by
  unfold D_SR_tell at hD
  refine Mi.of RX7 rfl (by decide) (by simp [lg_sl, Value.category]) [(0, .ref o), (1, .int a1), (2, .int a2)] rfl (fun X hXl C R => ?_)
  subst hXl
  refine g_wt (fun hw => ?_)
  refine g_aload_n (pc := 0) rfl 0 rfl C dX7_tell_0 ?_
  have u1 : TO Y (r o 7) 6 := wt_o hw t0 (by decide) rfl
  refine g_getR (pc := 1) C fl_RX7_51 t0 rfl dX7_tell_1 ?_
  refine g_getI (pc := 4) C fl_RX7_93 u1 rfl dX7_tell_4 ?_
  refine g_bipush (pc := 7) (v := 20) (by decide) C dX7_tell_7 ?_
  refine g_icmp_ge (pc := 9) 28 C dX7_tell_9 (by decide) (fun c2 => ?_) (fun c2 => ?_)
  · have hD := hD.1 c2
    refine g_iconst (pc := 28) (v := (-1)) (by decide) C dX7_tell_28 ?_
    exact g_iret (pc := 29) C R dX7_tell_29 hD
  · have hD := hD.2 c2
    refine g_aload_n (pc := 12) rfl 0 rfl C dX7_tell_12 ?_
    refine g_iload_n (pc := 13) rfl 1 rfl C dX7_tell_13 ?_
    refine g_callVi (pc := 14) (As := [.int a1]) C mv_RX7_99 (M_SR_isBoat t0 hD) t0 (by decide) rfl rfl (Nat.le_of_ble_eq_true rfl) dX7_tell_14 (fun x4 h3 hD => ?_)
    refine g_if_eq (pc := 17) 28 C dX7_tell_17 (by decide) (fun c5 => ?_) (fun c5 => ?_)
    · have hD := hD.1 c5
      refine g_iconst (pc := 28) (v := (-1)) (by decide) C dX7_tell_28 ?_
      exact g_iret (pc := 29) C R dX7_tell_29 hD
    · have hD := hD.2 c5
      refine g_aload_n (pc := 20) rfl 0 rfl C dX7_tell_20 ?_
      refine g_iload_n (pc := 21) rfl 2 rfl C dX7_tell_21 ?_
      refine g_callVi (pc := 22) (As := [.int a2]) C mv_RX7_99 (M_SR_isBoat t0 hD) t0 (by decide) rfl rfl (Nat.le_of_ble_eq_true rfl) dX7_tell_22 (fun x7 h6 hD => ?_)
      refine g_if_ne (pc := 25) 30 C dX7_tell_25 (by decide) (fun c8 => ?_) (fun c8 => ?_)
      · have hD := hD.1 c8
        refine g_aload_n (pc := 30) rfl 0 rfl C dX7_tell_30 ?_
        have u9 : TO Y (r o 7) 6 := wt_o hw t0 (by decide) rfl
        refine g_getR (pc := 31) C fl_RX7_51 t0 rfl dX7_tell_31 ?_
        refine g_iload_n (pc := 34) rfl 2 rfl C dX7_tell_34 ?_
        refine g_aload_n (pc := 35) rfl 0 rfl C dX7_tell_35 ?_
        have u10 : TO Y (r o 1) 0 := wt_o hw t0 (by decide) rfl
        refine g_getR (pc := 36) C fl_RX7_19 t0 rfl dX7_tell_36 ?_
        refine g_aload_n (pc := 39) rfl 0 rfl C dX7_tell_39 ?_
        have u11 : TO Y (r o 2) 5 := wt_o hw t0 (by decide) rfl
        refine g_getR (pc := 40) C fl_RX7_26 t0 rfl dX7_tell_40 ?_
        refine g_iload_n (pc := 43) rfl 1 rfl C dX7_tell_43 ?_
        refine g_aload_n (pc := 44) rfl 0 rfl C dX7_tell_44 ?_
        have u12 : TO Y (r o 1) 0 := wt_o hw t0 (by decide) rfl
        refine g_getR (pc := 45) C fl_RX7_19 t0 rfl dX7_tell_45 ?_
        refine g_getI (pc := 48) C fl_RX7_119 u12 rfl dX7_tell_48 ?_
        refine g_callVi (pc := 51) (As := [.ref (r o 2), .int a1, .int (h6.1 (r o 1) 4)]) C mv_RX7_122 (M_Bay_dishesSmelledBy u10 u11 hD) u10 (by decide) rfl rfl (Nat.le_of_ble_eq_true rfl) dX7_tell_51 (fun x14 h13 hD => ?_)
        refine g_callVi (pc := 54) (As := [.int a2, .int x14]) C mv_RX7_273 (M_Told_add u9 hD) u9 (by decide) rfl rfl (Nat.le_of_ble_eq_true rfl) dX7_tell_54 (fun x16 h15 hD => ?_)
        exact g_iret (pc := 57) C R dX7_tell_57 hD
      · have hD := hD.2 c8
        refine g_iconst (pc := 28) (v := (-1)) (by decide) C dX7_tell_28 ?_
        exact g_iret (pc := 29) C R dX7_tell_29 hD
def D_SR_then (r : TR) (o : Nat) (a1 : Int32) (a2 : Int32) (a3 : Int32) (h : TH) (Q : Int32 → TH → Prop) : Prop :=
  D_SR_isBoat r o a1 h (fun x2 h1 => ((x2 = 0 → Q (-1) h1) ∧ (¬ x2 = 0 → D_SR_isWithin r a2 0 100 h1 (fun x5 h4 => ((x5 = 0 → Q (-1) h4) ∧ (¬ x5 = 0 → D_SR_isWithin r a3 0 2 h4 (fun x8 h7 => ((¬ x8 = 0 → D_SR_lookAhead r o a2 h7 (fun h10 => ((¬ a3 = 0 → ((¬ a3 = 1 → D_Sc_arrivalOf r (r o 3) a1 h10 (fun x16 h15 => Q x16 h15)) ∧ (a3 = 1 → D_Sc_southOf r (r o 3) a1 h10 (fun x19 h18 => Q x19 h18)))) ∧ (a3 = 0 → D_Sc_eastOf r (r o 3) a1 h10 (fun x22 h21 => Q x22 h21))))) ∧ (x8 = 0 → Q (-1) h7)))))))))
set_option maxRecDepth 100000 in
set_option maxHeartbeats 4000000 in
theorem M_SR_then {Y : CG} {r : TR} {l : Launch} {o : Nat} {a1 : Int32} {a2 : Int32} {a3 : Int32} {h : TH} {Q : Int32 → TH → Prop} (t0 : TO Y o 7) (hD : D_SR_then r o a1 a2 a3 h Q) : Mi Y r l yX7_then cX7_then 4 .int 8 [.ref o, .int a1, .int a2, .int a3] h Q := by
  unfold D_SR_then at hD
  refine Mi.of RX7 rfl (by decide) (by simp [lg_sl, Value.category]) [(0, .ref o), (1, .int a1), (2, .int a2), (3, .int a3)] rfl (fun X hXl C R => ?_)
  subst hXl
  refine g_wt (fun hw => ?_)
  refine g_aload_n (pc := 0) rfl 0 rfl C dX7_then_0 ?_
  refine g_iload_n (pc := 1) rfl 1 rfl C dX7_then_1 ?_
  refine g_callVi (pc := 2) (As := [.int a1]) C mv_RX7_99 (M_SR_isBoat t0 hD) t0 (by decide) rfl rfl (Nat.le_of_ble_eq_true rfl) dX7_then_2 (fun x2 h1 hD => ?_)
  refine g_if_eq (pc := 5) 27 C dX7_then_5 (by decide) (fun c3 => ?_) (fun c3 => ?_)
  · have hD := hD.1 c3
    refine g_iconst (pc := 27) (v := (-1)) (by decide) C dX7_then_27 ?_
    exact g_iret (pc := 28) C R dX7_then_28 hD
  · have hD := hD.2 c3
    refine g_iload_n (pc := 8) rfl 2 rfl C dX7_then_8 ?_
    refine g_iconst (pc := 9) (v := 0) (by decide) C dX7_then_9 ?_
    refine g_bipush (pc := 10) (v := 100) (by decide) C dX7_then_10 ?_
    refine g_callSi (pc := 12) (As := [.int a2, .int 0, .int 100]) C ms_RX7_169 (M_SR_isWithin  hD) (by decide) rfl rfl (Nat.le_of_ble_eq_true rfl) dX7_then_12 (fun x5 h4 hD => ?_)
    refine g_if_eq (pc := 15) 27 C dX7_then_15 (by decide) (fun c6 => ?_) (fun c6 => ?_)
    · have hD := hD.1 c6
      refine g_iconst (pc := 27) (v := (-1)) (by decide) C dX7_then_27 ?_
      exact g_iret (pc := 28) C R dX7_then_28 hD
    · have hD := hD.2 c6
      refine g_iload_n (pc := 18) rfl 3 rfl C dX7_then_18 ?_
      refine g_iconst (pc := 19) (v := 0) (by decide) C dX7_then_19 ?_
      refine g_iconst (pc := 20) (v := 2) (by decide) C dX7_then_20 ?_
      refine g_callSi (pc := 21) (As := [.int a3, .int 0, .int 2]) C ms_RX7_169 (M_SR_isWithin  hD) (by decide) rfl rfl (Nat.le_of_ble_eq_true rfl) dX7_then_21 (fun x8 h7 hD => ?_)
      refine g_if_ne (pc := 24) 29 C dX7_then_24 (by decide) (fun c9 => ?_) (fun c9 => ?_)
      · have hD := hD.1 c9
        refine g_aload_n (pc := 29) rfl 0 rfl C dX7_then_29 ?_
        refine g_iload_n (pc := 30) rfl 2 rfl C dX7_then_30 ?_
        refine g_callVv (pc := 31) (As := [.int a2]) C mv_RX7_193 (M_SR_lookAhead t0 hD) t0 (by decide) rfl rfl (Nat.le_of_ble_eq_true rfl) dX7_then_31 (fun h10 hD => ?_)
        refine g_iload_n (pc := 34) rfl 3 rfl C dX7_then_34 ?_
        refine g_if_ne (pc := 35) 47 C dX7_then_35 (by decide) (fun c12 => ?_) (fun c12 => ?_)
        · have hD := hD.1 c12
          refine g_iload_n (pc := 47) rfl 3 rfl C dX7_then_47 ?_
          refine g_iconst (pc := 48) (v := 1) (by decide) C dX7_then_48 ?_
          refine g_icmp_ne (pc := 49) 63 C dX7_then_49 (by decide) (fun c13 => ?_) (fun c13 => ?_)
          · have hD := hD.1 c13
            refine g_aload_n (pc := 63) rfl 0 rfl C dX7_then_63 ?_
            have u14 : TO Y (r o 3) 5 := wt_o hw t0 (by decide) rfl
            refine g_getR (pc := 64) C fl_RX7_30 t0 rfl dX7_then_64 ?_
            refine g_iload_n (pc := 67) rfl 1 rfl C dX7_then_67 ?_
            refine g_callVi (pc := 68) (As := [.int a1]) C mv_RX7_110 (M_Sc_arrivalOf u14 hD) u14 (by decide) rfl rfl (Nat.le_of_ble_eq_true rfl) dX7_then_68 (fun x16 h15 hD => ?_)
            exact g_iret (pc := 71) C R dX7_then_71 hD
          · have hD := hD.2 c13
            refine g_aload_n (pc := 52) rfl 0 rfl C dX7_then_52 ?_
            have u17 : TO Y (r o 3) 5 := wt_o hw t0 (by decide) rfl
            refine g_getR (pc := 53) C fl_RX7_30 t0 rfl dX7_then_53 ?_
            refine g_iload_n (pc := 56) rfl 1 rfl C dX7_then_56 ?_
            refine g_callVi (pc := 57) (As := [.int a1]) C mv_RX7_107 (M_Sc_southOf u17 hD) u17 (by decide) rfl rfl (Nat.le_of_ble_eq_true rfl) dX7_then_57 (fun x19 h18 hD => ?_)
            refine g_goto (pc := 60) 71 C dX7_then_60 (by decide) ?_
            exact g_iret (pc := 71) C R dX7_then_71 hD
        · have hD := hD.2 c12
          refine g_aload_n (pc := 38) rfl 0 rfl C dX7_then_38 ?_
          have u20 : TO Y (r o 3) 5 := wt_o hw t0 (by decide) rfl
          refine g_getR (pc := 39) C fl_RX7_30 t0 rfl dX7_then_39 ?_
          refine g_iload_n (pc := 42) rfl 1 rfl C dX7_then_42 ?_
          refine g_callVi (pc := 43) (As := [.int a1]) C mv_RX7_103 (M_Sc_eastOf u20 hD) u20 (by decide) rfl rfl (Nat.le_of_ble_eq_true rfl) dX7_then_43 (fun x22 h21 hD => ?_)
          exact g_iret (pc := 46) C R dX7_then_46 hD
      · have hD := hD.2 c9
        refine g_iconst (pc := 27) (v := (-1)) (by decide) C dX7_then_27 ?_
        exact g_iret (pc := 28) C R dX7_then_28 hD
def D_SR_undo (r : TR) (o : Nat) (h : TH) (Q : Int32 → TH → Prop) : Prop :=
  D_Past_giveBack r (r o 4) (r o 2) h (fun x4 h3 => (narrow .boolean (.int x4) = .int x4 ∧ Q x4 h3))
set_option maxRecDepth 100000 in
set_option maxHeartbeats 4000000 in
theorem M_SR_undo {Y : CG} {r : TR} {l : Launch} {o : Nat} {h : TH} {Q : Int32 → TH → Prop} (t0 : TO Y o 7) (hD : D_SR_undo r o h Q) : Mi Y r l yX7_undo cX7_undo 1 .boolean 3 [.ref o] h Q := by
  unfold D_SR_undo at hD
  refine Mi.of RX7 rfl (by decide) (by simp [lg_sl, Value.category]) [(0, .ref o)] rfl (fun X hXl C R => ?_)
  subst hXl
  refine g_wt (fun hw => ?_)
  refine g_aload_n (pc := 0) rfl 0 rfl C dX7_undo_0 ?_
  have u1 : TO Y (r o 4) 3 := wt_o hw t0 (by decide) rfl
  refine g_getR (pc := 1) C fl_RX7_36 t0 rfl dX7_undo_1 ?_
  refine g_aload_n (pc := 4) rfl 0 rfl C dX7_undo_4 ?_
  have u2 : TO Y (r o 2) 5 := wt_o hw t0 (by decide) rfl
  refine g_getR (pc := 5) C fl_RX7_26 t0 rfl dX7_undo_5 ?_
  refine g_callVi (pc := 8) (As := [.ref (r o 2)]) C mv_RX7_189 (M_Past_giveBack u1 u2 hD) u1 (by decide) rfl rfl (Nat.le_of_ble_eq_true rfl) dX7_undo_8 (fun x4 h3 hD => ?_)
  exact g_zret (pc := 11) C R hD.1 dX7_undo_11 hD.2
def D_SR_wind (r : TR) (o : Nat) (a1 : Int32) (h : TH) (Q : Int32 → TH → Prop) : Prop :=
  D_SR_isWithin r a1 0 999 h (fun x2 h1 => ((x2 = 0 → Q (-1) h1) ∧ (¬ x2 = 0 → D_Bay_windAt r (r o 1) a1 h1 (fun x6 h5 => Q x6 h5))))
set_option maxRecDepth 100000 in
set_option maxHeartbeats 4000000 in
theorem M_SR_wind {Y : CG} {r : TR} {l : Launch} {o : Nat} {a1 : Int32} {h : TH} {Q : Int32 → TH → Prop} (t0 : TO Y o 7) (hD : D_SR_wind r o a1 h Q) : Mi Y r l yX7_wind cX7_wind 2 .int 4 [.ref o, .int a1] h Q := by
  unfold D_SR_wind at hD
  refine Mi.of RX7 rfl (by decide) (by simp [lg_sl, Value.category]) [(0, .ref o), (1, .int a1)] rfl (fun X hXl C R => ?_)
  subst hXl
  refine g_wt (fun hw => ?_)
  refine g_iload_n (pc := 0) rfl 1 rfl C dX7_wind_0 ?_
  refine g_iconst (pc := 1) (v := 0) (by decide) C dX7_wind_1 ?_
  refine g_sipush (pc := 2) (v := 999) (by decide) C dX7_wind_2 ?_
  refine g_callSi (pc := 5) (As := [.int a1, .int 0, .int 999]) C ms_RX7_169 (M_SR_isWithin  hD) (by decide) rfl rfl (Nat.le_of_ble_eq_true rfl) dX7_wind_5 (fun x2 h1 hD => ?_)
  refine g_if_eq (pc := 8) 22 C dX7_wind_8 (by decide) (fun c3 => ?_) (fun c3 => ?_)
  · have hD := hD.1 c3
    refine g_iconst (pc := 22) (v := (-1)) (by decide) C dX7_wind_22 ?_
    exact g_iret (pc := 23) C R dX7_wind_23 hD
  · have hD := hD.2 c3
    refine g_aload_n (pc := 11) rfl 0 rfl C dX7_wind_11 ?_
    have u4 : TO Y (r o 1) 0 := wt_o hw t0 (by decide) rfl
    refine g_getR (pc := 12) C fl_RX7_19 t0 rfl dX7_wind_12 ?_
    refine g_iload_n (pc := 15) rfl 1 rfl C dX7_wind_15 ?_
    refine g_callVi (pc := 16) (As := [.int a1]) C mv_RX7_172 (M_Bay_windAt u4 hD) u4 (by decide) rfl rfl (Nat.le_of_ble_eq_true rfl) dX7_wind_16 (fun x6 h5 hD => ?_)
    refine g_goto (pc := 19) 23 C dX7_wind_19 (by decide) ?_
    exact g_iret (pc := 23) C R dX7_wind_23 hD
