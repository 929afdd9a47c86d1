def D_Law_addCode (r : TR) (o : Nat) (a1 : Int32) (h : TH) (Q : TH → Prop) : Prop :=
  ((400 ≤ (h.1 o 4) → Q h) ∧ (¬ 400 ≤ (h.1 o 4) → vp_in (h.1 o 4) 400 ∧ ∀ h3, h3 = pI h (r o 1) ((h.1 o 4).toNatClampNeg) a1 → ∀ h4, h4 = pI h3 o 4 ((h3.1 o 4) + 1) → Q h4))
set_option maxRecDepth 100000 in
set_option maxHeartbeats 4000000 in
theorem M_Law_addCode {Y : CG} {r : TR} {l : Launch} {o : Nat} {a1 : Int32} {h : TH} {Q : TH → Prop} (t0 : TO Y o 1) (hD : D_Law_addCode r o a1 h Q) : Mv Y r l yX1_addCode cX1_addCode 2 1 [.ref o, .int a1] h Q := by
  unfold D_Law_addCode at hD
  refine Mv.of RX1 rfl (by decide) (by simp [lg_sl, Value.category]) [(0, .ref o), (1, .int a1)] rfl (fun X hXl C R => ?_)
  subst hXl
  refine g_wt (fun hw => ?_)
  refine g_aload_n (pc := 0) rfl 0 rfl C dX1_addCode_0 ?_
  refine g_getI (pc := 1) C fl_RX1_24 t0 rfl dX1_addCode_1 ?_
  refine g_sipush (pc := 4) (v := 400) (by decide) C dX1_addCode_4 ?_
  refine g_icmp_ge (pc := 7) 30 C dX1_addCode_7 (by decide) (fun c1 => ?_) (fun c1 => ?_)
  · have hD := hD.1 c1
    exact g_vret (pc := 30) C R dX1_addCode_30 hD
  · have hD := hD.2 c1
    refine g_aload_n (pc := 10) rfl 0 rfl C dX1_addCode_10 ?_
    have t2 : TA Y (r o 1) 10 400 := wt_a hw t0 (by decide) (by decide) rfl
    refine g_getR (pc := 11) C fl_RX1_15 t0 rfl dX1_addCode_11 ?_
    refine g_aload_n (pc := 14) rfl 0 rfl C dX1_addCode_14 ?_
    refine g_getI (pc := 15) C fl_RX1_24 t0 rfl dX1_addCode_15 ?_
    refine g_iload_n (pc := 18) rfl 1 rfl C dX1_addCode_18 ?_
    obtain ⟨hb, hD⟩ := hD
    refine g_iast (pc := 19) C t2 hb dX1_addCode_19 (fun h3 eh3 => ?_)
    have hD := hD h3 eh3
    refine g_aload_n (pc := 20) rfl 0 rfl C dX1_addCode_20 ?_
    refine g_dup (pc := 21) rfl C dX1_addCode_21 ?_
    refine g_getI (pc := 22) C fl_RX1_24 t0 rfl dX1_addCode_22 ?_
    refine g_iconst (pc := 25) (v := 1) (by decide) C dX1_addCode_25 ?_
    refine g_iadd (pc := 26) C dX1_addCode_26 ?_
    refine g_putI (pc := 27) C fl_RX1_24 t0 rfl rfl rfl dX1_addCode_27 (fun h4 eh4 => ?_)
    have hD := hD h4 eh4
    exact g_vret (pc := 30) C R dX1_addCode_30 hD
def D_Law_clear (r : TR) (o : Nat) (h : TH) (Q : TH → Prop) : Prop :=
  ∀ h1, h1 = pI h o 4 0 → ∀ h2, h2 = pI h1 o 5 0 → Q h2
set_option maxRecDepth 100000 in
set_option maxHeartbeats 4000000 in
theorem M_Law_clear {Y : CG} {r : TR} {l : Launch} {o : Nat} {h : TH} {Q : TH → Prop} (t0 : TO Y o 1) (hD : D_Law_clear r o h Q) : Mv Y r l yX1_clear cX1_clear 1 1 [.ref o] h Q := by
  unfold D_Law_clear at hD
  refine Mv.of RX1 rfl (by decide) (by simp [lg_sl, Value.category]) [(0, .ref o)] rfl (fun X hXl C R => ?_)
  subst hXl
  refine g_wt (fun hw => ?_)
  refine g_aload_n (pc := 0) rfl 0 rfl C dX1_clear_0 ?_
  refine g_iconst (pc := 1) (v := 0) (by decide) C dX1_clear_1 ?_
  refine g_putI (pc := 2) C fl_RX1_24 t0 rfl rfl rfl dX1_clear_2 (fun h1 eh1 => ?_)
  have hD := hD h1 eh1
  refine g_aload_n (pc := 5) rfl 0 rfl C dX1_clear_5 ?_
  refine g_iconst (pc := 6) (v := 0) (by decide) C dX1_clear_6 ?_
  refine g_putI (pc := 7) C fl_RX1_28 t0 rfl rfl rfl dX1_clear_7 (fun h2 eh2 => ?_)
  have hD := hD h2 eh2
  exact g_vret (pc := 10) C R dX1_clear_10 hD
def D_Law_endPiece (r : TR) (o : Nat) (h : TH) (Q : TH → Prop) : Prop :=
  ((13 ≤ (h.1 o 5) → Q h) ∧ (¬ 13 ≤ (h.1 o 5) → vp_in (h.1 o 5) 13 ∧ ∀ h3, h3 = pI h (r o 2) ((h.1 o 5).toNatClampNeg) (h.1 o 4) → ∀ h4, h4 = pI h3 o 5 ((h3.1 o 5) + 1) → Q h4))
set_option maxRecDepth 100000 in
set_option maxHeartbeats 4000000 in
theorem M_Law_endPiece {Y : CG} {r : TR} {l : Launch} {o : Nat} {h : TH} {Q : TH → Prop} (t0 : TO Y o 1) (hD : D_Law_endPiece r o h Q) : Mv Y r l yX1_endPiece cX1_endPiece 1 1 [.ref o] h Q := by
  unfold D_Law_endPiece at hD
  refine Mv.of RX1 rfl (by decide) (by simp [lg_sl, Value.category]) [(0, .ref o)] rfl (fun X hXl C R => ?_)
  subst hXl
  refine g_wt (fun hw => ?_)
  refine g_aload_n (pc := 0) rfl 0 rfl C dX1_endPiece_0 ?_
  refine g_getI (pc := 1) C fl_RX1_28 t0 rfl dX1_endPiece_1 ?_
  refine g_bipush (pc := 4) (v := 13) (by decide) C dX1_endPiece_4 ?_
  refine g_icmp_ge (pc := 6) 32 C dX1_endPiece_6 (by decide) (fun c1 => ?_) (fun c1 => ?_)
  · have hD := hD.1 c1
    exact g_vret (pc := 32) C R dX1_endPiece_32 hD
  · have hD := hD.2 c1
    refine g_aload_n (pc := 9) rfl 0 rfl C dX1_endPiece_9 ?_
    have t2 : TA Y (r o 2) 10 13 := wt_a hw t0 (by decide) (by decide) rfl
    refine g_getR (pc := 10) C fl_RX1_18 t0 rfl dX1_endPiece_10 ?_
    refine g_aload_n (pc := 13) rfl 0 rfl C dX1_endPiece_13 ?_
    refine g_getI (pc := 14) C fl_RX1_28 t0 rfl dX1_endPiece_14 ?_
    refine g_aload_n (pc := 17) rfl 0 rfl C dX1_endPiece_17 ?_
    refine g_getI (pc := 18) C fl_RX1_24 t0 rfl dX1_endPiece_18 ?_
    obtain ⟨hb, hD⟩ := hD
    refine g_iast (pc := 21) C t2 hb dX1_endPiece_21 (fun h3 eh3 => ?_)
    have hD := hD h3 eh3
    refine g_aload_n (pc := 22) rfl 0 rfl C dX1_endPiece_22 ?_
    refine g_dup (pc := 23) rfl C dX1_endPiece_23 ?_
    refine g_getI (pc := 24) C fl_RX1_28 t0 rfl dX1_endPiece_24 ?_
    refine g_iconst (pc := 27) (v := 1) (by decide) C dX1_endPiece_27 ?_
    refine g_iadd (pc := 28) C dX1_endPiece_28 ?_
    refine g_putI (pc := 29) C fl_RX1_28 t0 rfl rfl rfl dX1_endPiece_29 (fun h4 eh4 => ?_)
    have hD := hD h4 eh4
    exact g_vret (pc := 32) C R dX1_endPiece_32 hD
def D_Law_becomeNumber (r : TR) (o : Nat) (a1 : Int32) (h : TH) (Q : TH → Prop) : Prop :=
  D_Law_clear r o h (fun h1 => D_Law_addCode r o a1 h1 (fun h3 => D_Law_endPiece r o h3 (fun h5 => Q h5)))
set_option maxRecDepth 100000 in
set_option maxHeartbeats 4000000 in
theorem M_Law_becomeNumber {Y : CG} {r : TR} {l : Launch} {o : Nat} {a1 : Int32} {h : TH} {Q : TH → Prop} (t0 : TO Y o 1) (hD : D_Law_becomeNumber r o a1 h Q) : Mv Y r l yX1_becomeNumber cX1_becomeNumber 2 2 [.ref o, .int a1] h Q := by
  unfold D_Law_becomeNumber at hD
  refine Mv.of RX1 rfl (by decide) (by simp [lg_sl, Value.category]) [(0, .ref o), (1, .int a1)] rfl (fun X hXl C R => ?_)
  subst hXl
  refine g_wt (fun hw => ?_)
  refine g_aload_n (pc := 0) rfl 0 rfl C dX1_becomeNumber_0 ?_
  refine g_callVv (pc := 1) (As := []) C mv_RX1_35 (M_Law_clear t0 hD) t0 (by decide) rfl rfl (Nat.le_of_ble_eq_true rfl) dX1_becomeNumber_1 (fun h1 hD => ?_)
  refine g_aload_n (pc := 4) rfl 0 rfl C dX1_becomeNumber_4 ?_
  refine g_iload_n (pc := 5) rfl 1 rfl C dX1_becomeNumber_5 ?_
  refine g_callVv (pc := 6) (As := [.int a1]) C mv_RX1_38 (M_Law_addCode t0 hD) t0 (by decide) rfl rfl (Nat.le_of_ble_eq_true rfl) dX1_becomeNumber_6 (fun h3 hD => ?_)
  refine g_aload_n (pc := 9) rfl 0 rfl C dX1_becomeNumber_9 ?_
  refine g_callVv (pc := 10) (As := []) C mv_RX1_42 (M_Law_endPiece t0 hD) t0 (by decide) rfl rfl (Nat.le_of_ble_eq_true rfl) dX1_becomeNumber_10 (fun h5 hD => ?_)
  exact g_vret (pc := 13) C R dX1_becomeNumber_13 hD
def DB_JA_fill_5 (r : TR) (l0 : Nat) (n0 : Nat) (l1 : Int32) (l2 : Int32) (l3 : Int32) (h : TH) (K5 : Int32 → TH → Prop) (K20 : TH → Prop) (Q : TH → Prop) : Prop :=
  ((l3 ≤ l2 → K20 h) ∧ (¬ l3 ≤ l2 → vp_in l2 n0 ∧ ∀ h4, h4 = pI h l0 l2.toNatClampNeg l1 → ∀ x5, x5 = l2 + 1 → K5 x5 h4))
set_option maxRecDepth 100000 in
set_option maxHeartbeats 4000000 in
theorem WB_JA_fill_5 {Y : CG} {X : CX} {r : TR} {l0 : Nat} {n0 : Nat} {l1 : Int32} {l2 : Int32} {l3 : Int32} {h : TH} {K5 : Int32 → TH → Prop} {K20 : TH → Prop} {Q : TH → Prop} (C : Gd Y X cJ7_fill_53178 4 RJ7 1) (R : Rv Y r X Q) (t0 : TA Y l0 10 n0) (hK5 : ∀ (k2 : Int32) (hh : TH), K5 k2 hh → G Y X 4 5 [(0, .ref l0), (1, .int l1), (2, .int k2), (3, .int l3)] [] r hh) (hK20 : ∀ (hh : TH), K20 hh → G Y X 4 20 [] [] r hh) (hD : DB_JA_fill_5 r l0 n0 l1 l2 l3 h K5 K20 Q) : G Y X 4 5 [(0, .ref l0), (1, .int l1), (2, .int l2), (3, .int l3)] [] r h := by
  unfold DB_JA_fill_5 at hD
  refine g_wt (fun hw => ?_)
  refine g_iload_n (pc := 5) rfl 2 rfl C dJ7_fill_53178_5 ?_
  refine g_iload_n (pc := 6) rfl 3 rfl C dJ7_fill_53178_6 ?_
  refine g_icmp_ge (pc := 7) 20 C dJ7_fill_53178_7 (by decide) (fun c3 => ?_) (fun c3 => ?_)
  · have hD := hD.1 c3
    refine g_sub [] rfl ?_
    exact hK20 h hD
  · have hD := hD.2 c3
    refine g_aload_n (pc := 10) rfl 0 rfl C dJ7_fill_53178_10 ?_
    refine g_iload_n (pc := 11) rfl 2 rfl C dJ7_fill_53178_11 ?_
    refine g_iload_n (pc := 12) rfl 1 rfl C dJ7_fill_53178_12 ?_
    obtain ⟨hb, hD⟩ := hD
    refine g_iast (pc := 13) C t0 hb dJ7_fill_53178_13 (fun h4 eh4 => ?_)
    have hD := hD h4 eh4
    refine g_iinc (pc := 14) (q := 2) (c := 1) (fun x5 => [(2, .int x5), (0, .ref l0), (1, .int l1), (3, .int l3)]) C dJ7_fill_53178_14 rfl (by decide) (by decide) rfl (fun x5 ex5 => ?_)
    have hD := hD x5 ex5
    refine g_goto (pc := 17) 5 C dJ7_fill_53178_17 (by decide) ?_
    refine g_sub [1, 2, 0, 3] rfl ?_
    exact hK5 x5 h4 hD
def D_JA_fill (r : TR) (a0 : Nat) (n0 : Nat) (a1 : Int32) (h : TH) (Q : TH → Prop) : Prop :=
  ∀ x2, x2 = Int32.ofNat n0 → ∃ n, lp (fun (K : Int32 × TH → Prop) (s : Int32 × TH) => DB_JA_fill_5 r a0 n0 a1 s.1 x2 s.2 (fun y6 h7 => K (y6, h7)) (fun h8 => Q h8) Q) n (0, h)
set_option maxRecDepth 100000 in
set_option maxHeartbeats 4000000 in
theorem M_JA_fill {Y : CG} {r : TR} {l : Launch} {a0 : Nat} {n0 : Nat} {a1 : Int32} {h : TH} {Q : TH → Prop} (t0 : TA Y a0 10 n0) (hD : D_JA_fill r a0 n0 a1 h Q) : Mv Y r l yJ7_fill_53178 cJ7_fill_53178 4 1 [.ref a0, .int a1] h Q := by
  unfold D_JA_fill at hD
  refine Mv.of RJ7 rfl (by decide) (by simp [lg_sl, Value.category]) [(0, .ref a0), (1, .int a1)] rfl (fun X hXl C R => ?_)
  subst hXl
  refine g_wt (fun hw => ?_)
  refine g_iconst (pc := 0) (v := 0) (by decide) C dJ7_fill_53178_0 ?_
  refine g_istore_n (pc := 1) (fun _ => [(2, .int 0), (0, .ref a0), (1, .int a1)]) C dJ7_fill_53178_1 rfl (by decide) rfl (fun _ _ => ?_)
  refine g_aload_n (pc := 2) rfl 1 rfl C dJ7_fill_53178_2 ?_
  refine g_alen (pc := 3) C t0 rfl dJ7_fill_53178_3 ?_
  refine g_istore_n (pc := 4) (fun x2 => [(3, .int x2), (2, .int 0), (0, .ref a0), (1, .int a1)]) C dJ7_fill_53178_4 rfl (by decide) rfl (fun x2 ex2 => ?_)
  have hD := hD x2 ex2
  obtain ⟨n, hD⟩ := hD
  refine g_sub [2, 3, 1, 0] rfl ?_
  refine lp_run (fun s : Int32 × TH => G Y X 4 5 [(0, .ref a0), (1, .int a1), (2, .int s.1), (3, .int x2)] [] r s.2) (fun K s hB hK => ?_) n (0, h) hD
  refine WB_JA_fill_5 C R t0 (fun y6 h7 hk => hK _ hk) (fun h8 hD => ?_) hB
  · exact g_vret (pc := 20) C R dJ7_fill_53178_20 hD
def DJ_Law_value_101 (r : TR) (l0 : Nat) (l1 : Int32) (l2 : Int32) (l3 : Int32) (l4 : Int32) (h : TH) (K33 : Int32 → Int32 → TH → Prop) (K241 : TH → Prop) (Q : Int32 → TH → Prop) : Prop :=
  ((l4 < 10100 → ∀ x14, x14 = l3 + 1 → K33 l2 x14 h) ∧ (¬ l4 < 10100 → ((l2 < 2 → ∀ x16, x16 = l3 + 1 → K33 l2 x16 h) ∧ (¬ l2 < 2 → ∀ x17, x17 = l2 + (-1) → ∀ i19, i19 = x17 - 1 → vp_in i19 32 ∧ ∀ x20, x20 = h.1 (r l0 3) i19.toNatClampNeg → vp_in x17 32 ∧ ∀ x22, x22 = h.1 (r l0 3) x17.toNatClampNeg → ((¬ l4 = 10100 → ((¬ l4 = 10101 → ((¬ l4 = 10102 → ((x22 = 0 → ∀ h27, h27 = pI h l0 6 1 → Q 0 h27) ∧ (¬ x22 = 0 → ¬ x22 = 0 ∧ vp_in (x17 - 1) 32 ∧ ∀ h29, h29 = pI h (r l0 3) ((x17 - 1).toNatClampNeg) (x20 / x22) → ∀ x30, x30 = l3 + 1 → K33 x17 x30 h29))) ∧ (l4 = 10102 → vp_in (x17 - 1) 32 ∧ ∀ h32, h32 = pI h (r l0 3) ((x17 - 1).toNatClampNeg) (x20 * x22) → ∀ x33, x33 = l3 + 1 → K33 x17 x33 h32))) ∧ (l4 = 10101 → vp_in (x17 - 1) 32 ∧ ∀ h35, h35 = pI h (r l0 3) ((x17 - 1).toNatClampNeg) (x20 - x22) → ∀ x36, x36 = l3 + 1 → K33 x17 x36 h35))) ∧ (l4 = 10100 → vp_in (x17 - 1) 32 ∧ ∀ h38, h38 = pI h (r l0 3) ((x17 - 1).toNatClampNeg) (x20 + x22) → ∀ x39, x39 = l3 + 1 → K33 x17 x39 h38))))))
set_option maxRecDepth 100000 in
set_option maxHeartbeats 4000000 in
theorem WJ_Law_value_101 {Y : CG} {X : CX} {r : TR} {l0 : Nat} {l1 : Int32} {l2 : Int32} {l3 : Int32} {l4 : Int32} {h : TH} {K33 : Int32 → Int32 → TH → Prop} {K241 : TH → Prop} {Q : Int32 → TH → Prop} (C : Gd Y X cX1_value 7 RX1 1) (R : Ri Y r X .int Q) (t0 : TO Y l0 1) (hK33 : ∀ (k2 : Int32) (k3 : Int32) (hh : TH), K33 k2 k3 hh → G Y X 7 33 [(0, .ref l0), (1, .int l1), (2, .int k2), (3, .int k3)] [] r hh) (hK241 : ∀ (hh : TH), K241 hh → G Y X 7 241 [(0, .ref l0)] [] r hh) (hD : DJ_Law_value_101 r l0 l1 l2 l3 l4 h K33 K241 Q) : G Y X 7 101 [(0, .ref l0), (1, .int l1), (2, .int l2), (3, .int l3), (4, .int l4)] [] r h := by
  unfold DJ_Law_value_101 at hD
  refine g_wt (fun hw => ?_)
  refine g_iload (pc := 101) 4 rfl C dX1_value_101 ?_
  refine g_sipush (pc := 103) (v := 10100) (by decide) C dX1_value_103 ?_
  refine g_icmp_lt (pc := 106) 235 C dX1_value_106 (by decide) (fun c13 => ?_) (fun c13 => ?_)
  · have hD := hD.1 c13
    refine g_iinc (pc := 235) (q := 3) (c := 1) (fun x14 => [(3, .int x14), (0, .ref l0), (1, .int l1), (2, .int l2), (4, .int l4)]) C dX1_value_235 rfl (by decide) (by decide) rfl (fun x14 ex14 => ?_)
    have hD := hD x14 ex14
    refine g_goto (pc := 238) 33 C dX1_value_238 (by decide) ?_
    refine g_sub [1, 2, 3, 0] rfl ?_
    exact hK33 l2 x14 h hD
  · have hD := hD.2 c13
    refine g_iload_n (pc := 109) rfl 2 rfl C dX1_value_109 ?_
    refine g_iconst (pc := 110) (v := 2) (by decide) C dX1_value_110 ?_
    refine g_icmp_lt (pc := 111) 235 C dX1_value_111 (by decide) (fun c15 => ?_) (fun c15 => ?_)
    · have hD := hD.1 c15
      refine g_iinc (pc := 235) (q := 3) (c := 1) (fun x16 => [(3, .int x16), (0, .ref l0), (1, .int l1), (2, .int l2), (4, .int l4)]) C dX1_value_235 rfl (by decide) (by decide) rfl (fun x16 ex16 => ?_)
      have hD := hD x16 ex16
      refine g_goto (pc := 238) 33 C dX1_value_238 (by decide) ?_
      refine g_sub [1, 2, 3, 0] rfl ?_
      exact hK33 l2 x16 h hD
    · have hD := hD.2 c15
      refine g_iinc (pc := 114) (q := 2) (c := (-1)) (fun x17 => [(2, .int x17), (0, .ref l0), (1, .int l1), (3, .int l3), (4, .int l4)]) C dX1_value_114 rfl (by decide) (by decide) rfl (fun x17 ex17 => ?_)
      have hD := hD x17 ex17
      refine g_aload_n (pc := 117) rfl 1 rfl C dX1_value_117 ?_
      have t18 : TA Y (r l0 3) 10 32 := wt_a hw t0 (by decide) (by decide) rfl
      refine g_getR (pc := 118) C fl_RX1_21 t0 rfl dX1_value_118 ?_
      refine g_iload_n (pc := 121) rfl 0 rfl C dX1_value_121 ?_
      refine g_iconst (pc := 122) (v := 1) (by decide) C dX1_value_122 ?_
      refine g_isub (pc := 123) C dX1_value_123 ?_
      refine g_topi (fun i19 ei19 => ?_)
      have hD := hD i19 ei19
      obtain ⟨hb, hD⟩ := hD
      refine g_iald (pc := 124) C t18 hb dX1_value_124 ?_
      refine g_istore (pc := 125) (fun x20 => [(5, .int x20), (2, .int x17), (0, .ref l0), (1, .int l1), (3, .int l3), (4, .int l4)]) C dX1_value_125 (by decide) rfl (fun x20 ex20 => ?_)
      have hD := hD x20 ex20
      refine g_aload_n (pc := 127) rfl 2 rfl C dX1_value_127 ?_
      have t21 : TA Y (r l0 3) 10 32 := wt_a hw t0 (by decide) (by decide) rfl
      refine g_getR (pc := 128) C fl_RX1_21 t0 rfl dX1_value_128 ?_
      refine g_iload_n (pc := 131) rfl 1 rfl C dX1_value_131 ?_
      obtain ⟨hb, hD⟩ := hD
      refine g_iald (pc := 132) C t21 hb dX1_value_132 ?_
      refine g_istore (pc := 133) (fun x22 => [(6, .int x22), (5, .int x20), (2, .int x17), (0, .ref l0), (1, .int l1), (3, .int l3), (4, .int l4)]) C dX1_value_133 (by decide) rfl (fun x22 ex22 => ?_)
      have hD := hD x22 ex22
      refine g_iload (pc := 135) 6 rfl C dX1_value_135 ?_
      refine g_sipush (pc := 137) (v := 10100) (by decide) C dX1_value_137 ?_
      refine g_icmp_ne (pc := 140) 159 C dX1_value_140 (by decide) (fun c23 => ?_) (fun c23 => ?_)
      · have hD := hD.1 c23
        refine g_iload (pc := 159) 6 rfl C dX1_value_159 ?_
        refine g_sipush (pc := 161) (v := 10101) (by decide) C dX1_value_161 ?_
        refine g_icmp_ne (pc := 164) 183 C dX1_value_164 (by decide) (fun c24 => ?_) (fun c24 => ?_)
        · have hD := hD.1 c24
          refine g_iload (pc := 183) 6 rfl C dX1_value_183 ?_
          refine g_sipush (pc := 185) (v := 10102) (by decide) C dX1_value_185 ?_
          refine g_icmp_ne (pc := 188) 207 C dX1_value_188 (by decide) (fun c25 => ?_) (fun c25 => ?_)
          · have hD := hD.1 c25
            refine g_iload (pc := 207) 0 rfl C dX1_value_207 ?_
            refine g_if_eq (pc := 209) 228 C dX1_value_209 (by decide) (fun c26 => ?_) (fun c26 => ?_)
            · have hD := hD.1 c26
              refine g_aload_n (pc := 228) rfl 3 rfl C dX1_value_228 ?_
              refine g_iconst (pc := 229) (v := 1) (by decide) C dX1_value_229 ?_
              refine g_putI (pc := 230) C fl_RX1_31 t0 rfl (by decide) (by decide) dX1_value_230 (fun h27 eh27 => ?_)
              have hD := hD h27 eh27
              refine g_iconst (pc := 233) (v := 0) (by decide) C dX1_value_233 ?_
              exact g_iret (pc := 234) C R dX1_value_234 hD
            · have hD := hD.2 c26
              refine g_aload_n (pc := 212) rfl 3 rfl C dX1_value_212 ?_
              have t28 : TA Y (r l0 3) 10 32 := wt_a hw t0 (by decide) (by decide) rfl
              refine g_getR (pc := 213) C fl_RX1_21 t0 rfl dX1_value_213 ?_
              refine g_iload_n (pc := 216) rfl 2 rfl C dX1_value_216 ?_
              refine g_iconst (pc := 217) (v := 1) (by decide) C dX1_value_217 ?_
              refine g_isub (pc := 218) C dX1_value_218 ?_
              refine g_iload (pc := 219) 1 rfl C dX1_value_219 ?_
              refine g_iload (pc := 221) 0 rfl C dX1_value_221 ?_
              obtain ⟨hz, hD⟩ := hD
              refine g_idiv (pc := 223) hz C dX1_value_223 ?_
              obtain ⟨hb, hD⟩ := hD
              refine g_iast (pc := 224) C t28 hb dX1_value_224 (fun h29 eh29 => ?_)
              have hD := hD h29 eh29
              refine g_goto (pc := 225) 235 C dX1_value_225 (by decide) ?_
              refine g_iinc (pc := 235) (q := 5) (c := 1) (fun x30 => [(3, .int x30), (6, .int x22), (5, .int x20), (2, .int x17), (0, .ref l0), (1, .int l1), (4, .int l4)]) C dX1_value_235 rfl (by decide) (by decide) rfl (fun x30 ex30 => ?_)
              have hD := hD x30 ex30
              refine g_goto (pc := 238) 33 C dX1_value_238 (by decide) ?_
              refine g_sub [4, 5, 3, 0] rfl ?_
              exact hK33 x17 x30 h29 hD
          · have hD := hD.2 c25
            refine g_aload_n (pc := 191) rfl 3 rfl C dX1_value_191 ?_
            have t31 : TA Y (r l0 3) 10 32 := wt_a hw t0 (by decide) (by decide) rfl
            refine g_getR (pc := 192) C fl_RX1_21 t0 rfl dX1_value_192 ?_
            refine g_iload_n (pc := 195) rfl 2 rfl C dX1_value_195 ?_
            refine g_iconst (pc := 196) (v := 1) (by decide) C dX1_value_196 ?_
            refine g_isub (pc := 197) C dX1_value_197 ?_
            refine g_iload (pc := 198) 1 rfl C dX1_value_198 ?_
            refine g_iload (pc := 200) 0 rfl C dX1_value_200 ?_
            refine g_imul (pc := 202) C dX1_value_202 ?_
            obtain ⟨hb, hD⟩ := hD
            refine g_iast (pc := 203) C t31 hb dX1_value_203 (fun h32 eh32 => ?_)
            have hD := hD h32 eh32
            refine g_goto (pc := 204) 235 C dX1_value_204 (by decide) ?_
            refine g_iinc (pc := 235) (q := 5) (c := 1) (fun x33 => [(3, .int x33), (6, .int x22), (5, .int x20), (2, .int x17), (0, .ref l0), (1, .int l1), (4, .int l4)]) C dX1_value_235 rfl (by decide) (by decide) rfl (fun x33 ex33 => ?_)
            have hD := hD x33 ex33
            refine g_goto (pc := 238) 33 C dX1_value_238 (by decide) ?_
            refine g_sub [4, 5, 3, 0] rfl ?_
            exact hK33 x17 x33 h32 hD
        · have hD := hD.2 c24
          refine g_aload_n (pc := 167) rfl 3 rfl C dX1_value_167 ?_
          have t34 : TA Y (r l0 3) 10 32 := wt_a hw t0 (by decide) (by decide) rfl
          refine g_getR (pc := 168) C fl_RX1_21 t0 rfl dX1_value_168 ?_
          refine g_iload_n (pc := 171) rfl 2 rfl C dX1_value_171 ?_
          refine g_iconst (pc := 172) (v := 1) (by decide) C dX1_value_172 ?_
          refine g_isub (pc := 173) C dX1_value_173 ?_
          refine g_iload (pc := 174) 1 rfl C dX1_value_174 ?_
          refine g_iload (pc := 176) 0 rfl C dX1_value_176 ?_
          refine g_isub (pc := 178) C dX1_value_178 ?_
          obtain ⟨hb, hD⟩ := hD
          refine g_iast (pc := 179) C t34 hb dX1_value_179 (fun h35 eh35 => ?_)
          have hD := hD h35 eh35
          refine g_goto (pc := 180) 235 C dX1_value_180 (by decide) ?_
          refine g_iinc (pc := 235) (q := 5) (c := 1) (fun x36 => [(3, .int x36), (6, .int x22), (5, .int x20), (2, .int x17), (0, .ref l0), (1, .int l1), (4, .int l4)]) C dX1_value_235 rfl (by decide) (by decide) rfl (fun x36 ex36 => ?_)
          have hD := hD x36 ex36
          refine g_goto (pc := 238) 33 C dX1_value_238 (by decide) ?_
          refine g_sub [4, 5, 3, 0] rfl ?_
          exact hK33 x17 x36 h35 hD
      · have hD := hD.2 c23
        refine g_aload_n (pc := 143) rfl 3 rfl C dX1_value_143 ?_
        have t37 : TA Y (r l0 3) 10 32 := wt_a hw t0 (by decide) (by decide) rfl
        refine g_getR (pc := 144) C fl_RX1_21 t0 rfl dX1_value_144 ?_
        refine g_iload_n (pc := 147) rfl 2 rfl C dX1_value_147 ?_
        refine g_iconst (pc := 148) (v := 1) (by decide) C dX1_value_148 ?_
        refine g_isub (pc := 149) C dX1_value_149 ?_
        refine g_iload (pc := 150) 1 rfl C dX1_value_150 ?_
        refine g_iload (pc := 152) 0 rfl C dX1_value_152 ?_
        refine g_iadd (pc := 154) C dX1_value_154 ?_
        obtain ⟨hb, hD⟩ := hD
        refine g_iast (pc := 155) C t37 hb dX1_value_155 (fun h38 eh38 => ?_)
        have hD := hD h38 eh38
        refine g_goto (pc := 156) 235 C dX1_value_156 (by decide) ?_
        refine g_iinc (pc := 235) (q := 5) (c := 1) (fun x39 => [(3, .int x39), (6, .int x22), (5, .int x20), (2, .int x17), (0, .ref l0), (1, .int l1), (4, .int l4)]) C dX1_value_235 rfl (by decide) (by decide) rfl (fun x39 ex39 => ?_)
        have hD := hD x39 ex39
        refine g_goto (pc := 238) 33 C dX1_value_238 (by decide) ?_
        refine g_sub [4, 5, 3, 0] rfl ?_
        exact hK33 x17 x39 h38 hD
def DB_Law_value_33 (r : TR) (l0 : Nat) (l1 : Int32) (l2 : Int32) (l3 : Int32) (h : TH) (K33 : Int32 → Int32 → TH → Prop) (K241 : TH → Prop) (Q : Int32 → TH → Prop) : Prop :=
  vp_in l1 13 ∧ (((h.1 (r l0 2) l1.toNatClampNeg) ≤ l3 → K241 h) ∧ (¬ (h.1 (r l0 2) l1.toNatClampNeg) ≤ l3 → vp_in l3 400 ∧ ∀ x11, x11 = h.1 (r l0 1) l3.toNatClampNeg → ((10100 ≤ x11 → DJ_Law_value_101 r l0 l1 l2 l3 x11 h (K33) (K241) Q) ∧ (¬ 10100 ≤ x11 → ((32 ≤ l2 → DJ_Law_value_101 r l0 l1 l2 l3 x11 h (K33) (K241) Q) ∧ (¬ 32 ≤ l2 → ((10000 ≤ x11 → ∀ i44, i44 = x11 - 10000 → vp_in i44 9 ∧ vp_in l2 32 ∧ ∀ h45, h45 = pI h (r l0 3) l2.toNatClampNeg (h.1 (r l0 0) i44.toNatClampNeg) → ∀ x46, x46 = l2 + 1 → ∀ x47, x47 = l3 + 1 → K33 x46 x47 h45) ∧ (¬ 10000 ≤ x11 → vp_in l2 32 ∧ ∀ h48, h48 = pI h (r l0 3) l2.toNatClampNeg x11 → ∀ x49, x49 = l2 + 1 → ∀ x50, x50 = l3 + 1 → K33 x49 x50 h48))))))))
set_option maxRecDepth 100000 in
set_option maxHeartbeats 4000000 in
theorem WB_Law_value_33 {Y : CG} {X : CX} {r : TR} {l0 : Nat} {l1 : Int32} {l2 : Int32} {l3 : Int32} {h : TH} {K33 : Int32 → Int32 → TH → Prop} {K241 : TH → Prop} {Q : Int32 → TH → Prop} (C : Gd Y X cX1_value 7 RX1 1) (R : Ri Y r X .int Q) (t0 : TO Y l0 1) (hK33 : ∀ (k2 : Int32) (k3 : Int32) (hh : TH), K33 k2 k3 hh → G Y X 7 33 [(0, .ref l0), (1, .int l1), (2, .int k2), (3, .int k3)] [] r hh) (hK241 : ∀ (hh : TH), K241 hh → G Y X 7 241 [(0, .ref l0)] [] r hh) (hD : DB_Law_value_33 r l0 l1 l2 l3 h K33 K241 Q) : G Y X 7 33 [(0, .ref l0), (1, .int l1), (2, .int l2), (3, .int l3)] [] r h := by
  unfold DB_Law_value_33 at hD
  refine g_wt (fun hw => ?_)
  refine g_iload_n (pc := 33) rfl 3 rfl C dX1_value_33 ?_
  refine g_aload_n (pc := 34) rfl 0 rfl C dX1_value_34 ?_
  have t8 : TA Y (r l0 2) 10 13 := wt_a hw t0 (by decide) (by decide) rfl
  refine g_getR (pc := 35) C fl_RX1_18 t0 rfl dX1_value_35 ?_
  refine g_iload_n (pc := 38) rfl 1 rfl C dX1_value_38 ?_
  obtain ⟨hb, hD⟩ := hD
  refine g_iald (pc := 39) C t8 hb dX1_value_39 ?_
  refine g_icmp_ge (pc := 40) 241 C dX1_value_40 (by decide) (fun c9 => ?_) (fun c9 => ?_)
  · have hD := hD.1 c9
    refine g_sub [0] rfl ?_
    exact hK241 h hD
  · have hD := hD.2 c9
    refine g_aload_n (pc := 43) rfl 0 rfl C dX1_value_43 ?_
    have t10 : TA Y (r l0 1) 10 400 := wt_a hw t0 (by decide) (by decide) rfl
    refine g_getR (pc := 44) C fl_RX1_15 t0 rfl dX1_value_44 ?_
    refine g_iload_n (pc := 47) rfl 3 rfl C dX1_value_47 ?_
    obtain ⟨hb, hD⟩ := hD
    refine g_iald (pc := 48) C t10 hb dX1_value_48 ?_
    refine g_istore (pc := 49) (fun x11 => [(4, .int x11), (0, .ref l0), (1, .int l1), (2, .int l2), (3, .int l3)]) C dX1_value_49 (by decide) rfl (fun x11 ex11 => ?_)
    have hD := hD x11 ex11
    refine g_iload (pc := 51) 0 rfl C dX1_value_51 ?_
    refine g_sipush (pc := 53) (v := 10100) (by decide) C dX1_value_53 ?_
    refine g_icmp_ge (pc := 56) 101 C dX1_value_56 (by decide) (fun c12 => ?_) (fun c12 => ?_)
    · have hD := hD.1 c12
      refine g_sub [1, 2, 3, 4, 0] rfl ?_
      exact WJ_Law_value_101 C R t0 (hK33) (hK241) hD
    · have hD := hD.2 c12
      refine g_iload_n (pc := 59) rfl 3 rfl C dX1_value_59 ?_
      refine g_bipush (pc := 60) (v := 32) (by decide) C dX1_value_60 ?_
      refine g_icmp_ge (pc := 62) 101 C dX1_value_62 (by decide) (fun c40 => ?_) (fun c40 => ?_)
      · have hD := hD.1 c40
        refine g_sub [1, 2, 3, 4, 0] rfl ?_
        exact WJ_Law_value_101 C R t0 (hK33) (hK241) hD
      · have hD := hD.2 c40
        refine g_aload_n (pc := 65) rfl 1 rfl C dX1_value_65 ?_
        have t41 : TA Y (r l0 3) 10 32 := wt_a hw t0 (by decide) (by decide) rfl
        refine g_getR (pc := 66) C fl_RX1_21 t0 rfl dX1_value_66 ?_
        refine g_iload_n (pc := 69) rfl 3 rfl C dX1_value_69 ?_
        refine g_iload (pc := 70) 0 rfl C dX1_value_70 ?_
        refine g_sipush (pc := 72) (v := 10000) (by decide) C dX1_value_72 ?_
        refine g_icmp_ge (pc := 75) 83 C dX1_value_75 (by decide) (fun c42 => ?_) (fun c42 => ?_)
        · have hD := hD.1 c42
          refine g_aload_n (pc := 83) rfl 1 rfl C dX1_value_83 ?_
          have t43 : TA Y (r l0 0) 10 9 := wt_a hw t0 (by decide) (by decide) rfl
          refine g_getR (pc := 84) C fl_RX1_9 t0 rfl dX1_value_84 ?_
          refine g_iload (pc := 87) 0 rfl C dX1_value_87 ?_
          refine g_sipush (pc := 89) (v := 10000) (by decide) C dX1_value_89 ?_
          refine g_isub (pc := 92) C dX1_value_92 ?_
          refine g_topi (fun i44 ei44 => ?_)
          have hD := hD i44 ei44
          obtain ⟨hb, hD⟩ := hD
          refine g_iald (pc := 93) C t43 hb dX1_value_93 ?_
          obtain ⟨hb, hD⟩ := hD
          refine g_iast (pc := 94) C t41 hb dX1_value_94 (fun h45 eh45 => ?_)
          have hD := hD h45 eh45
          refine g_iinc (pc := 95) (q := 3) (c := 1) (fun x46 => [(2, .int x46), (4, .int x11), (0, .ref l0), (1, .int l1), (3, .int l3)]) C dX1_value_95 rfl (by decide) (by decide) rfl (fun x46 ex46 => ?_)
          have hD := hD x46 ex46
          refine g_goto (pc := 98) 235 C dX1_value_98 (by decide) ?_
          refine g_iinc (pc := 235) (q := 4) (c := 1) (fun x47 => [(3, .int x47), (2, .int x46), (4, .int x11), (0, .ref l0), (1, .int l1)]) C dX1_value_235 rfl (by decide) (by decide) rfl (fun x47 ex47 => ?_)
          have hD := hD x47 ex47
          refine g_goto (pc := 238) 33 C dX1_value_238 (by decide) ?_
          refine g_sub [3, 4, 1, 0] rfl ?_
          exact hK33 x46 x47 h45 hD
        · have hD := hD.2 c42
          refine g_iload (pc := 78) 0 rfl C dX1_value_78 ?_
          refine g_goto (pc := 80) 94 C dX1_value_80 (by decide) ?_
          obtain ⟨hb, hD⟩ := hD
          refine g_iast (pc := 94) C t41 hb dX1_value_94 (fun h48 eh48 => ?_)
          have hD := hD h48 eh48
          refine g_iinc (pc := 95) (q := 3) (c := 1) (fun x49 => [(2, .int x49), (4, .int x11), (0, .ref l0), (1, .int l1), (3, .int l3)]) C dX1_value_95 rfl (by decide) (by decide) rfl (fun x49 ex49 => ?_)
          have hD := hD x49 ex49
          refine g_goto (pc := 98) 235 C dX1_value_98 (by decide) ?_
          refine g_iinc (pc := 235) (q := 4) (c := 1) (fun x50 => [(3, .int x50), (2, .int x49), (4, .int x11), (0, .ref l0), (1, .int l1)]) C dX1_value_235 rfl (by decide) (by decide) rfl (fun x50 ex50 => ?_)
          have hD := hD x50 ex50
          refine g_goto (pc := 238) 33 C dX1_value_238 (by decide) ?_
          refine g_sub [3, 4, 1, 0] rfl ?_
          exact hK33 x49 x50 h48 hD
def D_Law_value (r : TR) (o : Nat) (a1 : Int32) (h : TH) (Q : Int32 → TH → Prop) : Prop :=
  ((a1 < 0 → Q 0 h) ∧ (¬ a1 < 0 → ((a1 < (h.1 o 5) → ((¬ a1 = 0 → ∀ i6, i6 = a1 - 1 → vp_in i6 13 ∧ ∀ x7, x7 = h.1 (r o 2) i6.toNatClampNeg → ∃ n, lp (fun (K : Int32 × Int32 × TH → Prop) (s : Int32 × Int32 × TH) => DB_Law_value_33 r o a1 s.1 s.2.1 s.2.2 (fun y51 y52 h53 => K (y51, y52, h53)) (fun h54 => Q (h54.1 (r o 3) ((0 : Int32).toNatClampNeg)) h54) Q) n (0, x7, h)) ∧ (a1 = 0 → ∃ n, lp (fun (K : Int32 × Int32 × TH → Prop) (s : Int32 × Int32 × TH) => DB_Law_value_33 r o a1 s.1 s.2.1 s.2.2 (fun y57 y58 h59 => K (y57, y58, h59)) (fun h60 => Q (h60.1 (r o 3) ((0 : Int32).toNatClampNeg)) h60) Q) n (0, 0, h)))) ∧ (¬ a1 < (h.1 o 5) → Q 0 h))))
set_option maxRecDepth 100000 in
set_option maxHeartbeats 4000000 in
theorem M_Law_value {Y : CG} {r : TR} {l : Launch} {o : Nat} {a1 : Int32} {h : TH} {Q : Int32 → TH → Prop} (t0 : TO Y o 1) (hD : D_Law_value r o a1 h Q) : Mi Y r l yX1_value cX1_value 7 .int 1 [.ref o, .int a1] h Q := by
  unfold D_Law_value at hD
  refine Mi.of RX1 rfl (by decide) (by simp [lg_sl, Value.category]) [(0, .ref o), (1, .int a1)] rfl (fun X hXl C R => ?_)
  subst hXl
  refine g_wt (fun hw => ?_)
  refine g_iload_n (pc := 0) rfl 1 rfl C dX1_value_0 ?_
  refine g_if_lt (pc := 1) 12 C dX1_value_1 (by decide) (fun c1 => ?_) (fun c1 => ?_)
  · have hD := hD.1 c1
    refine g_iconst (pc := 12) (v := 0) (by decide) C dX1_value_12 ?_
    exact g_iret (pc := 13) C R dX1_value_13 hD
  · have hD := hD.2 c1
    refine g_iload_n (pc := 4) rfl 1 rfl C dX1_value_4 ?_
    refine g_aload_n (pc := 5) rfl 0 rfl C dX1_value_5 ?_
    refine g_getI (pc := 6) C fl_RX1_28 t0 rfl dX1_value_6 ?_
    refine g_icmp_lt (pc := 9) 14 C dX1_value_9 (by decide) (fun c2 => ?_) (fun c2 => ?_)
    · have hD := hD.1 c2
      refine g_iconst (pc := 14) (v := 0) (by decide) C dX1_value_14 ?_
      refine g_istore_n (pc := 15) (fun _ => [(2, .int 0), (0, .ref o), (1, .int a1)]) C dX1_value_15 rfl (by decide) rfl (fun _ _ => ?_)
      refine g_iload_n (pc := 16) rfl 2 rfl C dX1_value_16 ?_
      refine g_if_ne (pc := 17) 24 C dX1_value_17 (by decide) (fun c4 => ?_) (fun c4 => ?_)
      · have hD := hD.1 c4
        refine g_aload_n (pc := 24) rfl 1 rfl C dX1_value_24 ?_
        have t5 : TA Y (r o 2) 10 13 := wt_a hw t0 (by decide) (by decide) rfl
        refine g_getR (pc := 25) C fl_RX1_18 t0 rfl dX1_value_25 ?_
        refine g_iload_n (pc := 28) rfl 2 rfl C dX1_value_28 ?_
        refine g_iconst (pc := 29) (v := 1) (by decide) C dX1_value_29 ?_
        refine g_isub (pc := 30) C dX1_value_30 ?_
        refine g_topi (fun i6 ei6 => ?_)
        have hD := hD i6 ei6
        obtain ⟨hb, hD⟩ := hD
        refine g_iald (pc := 31) C t5 hb dX1_value_31 ?_
        refine g_istore_n (pc := 32) (fun x7 => [(3, .int x7), (2, .int 0), (0, .ref o), (1, .int a1)]) C dX1_value_32 rfl (by decide) rfl (fun x7 ex7 => ?_)
        have hD := hD x7 ex7
        obtain ⟨n, hD⟩ := hD
        refine g_sub [2, 3, 1, 0] rfl ?_
        refine lp_run (fun s : Int32 × Int32 × TH => G Y X 7 33 [(0, .ref o), (1, .int a1), (2, .int s.1), (3, .int s.2.1)] [] r s.2.2) (fun K s hB hK => ?_) n (0, x7, h) hD
        refine WB_Law_value_33 C R t0 (fun y51 y52 h53 hk => hK _ hk) (fun h54 hD => ?_) hB
        · refine g_aload_n (pc := 241) rfl 0 rfl C dX1_value_241 ?_
          have t55 : TA Y (r o 3) 10 32 := wt_a hw t0 (by decide) (by decide) rfl
          refine g_getR (pc := 242) C fl_RX1_21 t0 rfl dX1_value_242 ?_
          refine g_iconst (pc := 245) (v := 0) (by decide) C dX1_value_245 ?_
          refine g_iald (pc := 246) C t55 (by unfold vp_in; decide) dX1_value_246 ?_
          exact g_iret (pc := 247) C R dX1_value_247 hD
      · have hD := hD.2 c4
        refine g_iconst (pc := 20) (v := 0) (by decide) C dX1_value_20 ?_
        refine g_goto (pc := 21) 32 C dX1_value_21 (by decide) ?_
        refine g_istore_n (pc := 32) (fun _ => [(3, .int 0), (2, .int 0), (0, .ref o), (1, .int a1)]) C dX1_value_32 rfl (by decide) rfl (fun _ _ => ?_)
        obtain ⟨n, hD⟩ := hD
        refine g_sub [2, 3, 1, 0] rfl ?_
        refine lp_run (fun s : Int32 × Int32 × TH => G Y X 7 33 [(0, .ref o), (1, .int a1), (2, .int s.1), (3, .int s.2.1)] [] r s.2.2) (fun K s hB hK => ?_) n (0, 0, h) hD
        refine WB_Law_value_33 C R t0 (fun y57 y58 h59 hk => hK _ hk) (fun h60 hD => ?_) hB
        · refine g_aload_n (pc := 241) rfl 0 rfl C dX1_value_241 ?_
          have t61 : TA Y (r o 3) 10 32 := wt_a hw t0 (by decide) (by decide) rfl
          refine g_getR (pc := 242) C fl_RX1_21 t0 rfl dX1_value_242 ?_
          refine g_iconst (pc := 245) (v := 0) (by decide) C dX1_value_245 ?_
          refine g_iald (pc := 246) C t61 (by unfold vp_in; decide) dX1_value_246 ?_
          exact g_iret (pc := 247) C R dX1_value_247 hD
    · have hD := hD.2 c2
      refine g_iconst (pc := 12) (v := 0) (by decide) C dX1_value_12 ?_
      exact g_iret (pc := 13) C R dX1_value_13 hD
def D_Law_whole (r : TR) (o : Nat) (a1 : Int32) (h : TH) (Q : Int32 → TH → Prop) : Prop :=
  (((h.1 o 6) = 0 → Q a1 h) ∧ (¬ (h.1 o 6) = 0 → Q 0 h))
set_option maxRecDepth 100000 in
set_option maxHeartbeats 4000000 in
theorem M_Law_whole {Y : CG} {r : TR} {l : Launch} {o : Nat} {a1 : Int32} {h : TH} {Q : Int32 → TH → Prop} (t0 : TO Y o 1) (hD : D_Law_whole r o a1 h Q) : Mi Y r l yX1_whole cX1_whole 2 .int 1 [.ref o, .int a1] h Q := by
  unfold D_Law_whole at hD
  refine Mi.of RX1 rfl (by decide) (by simp [lg_sl, Value.category]) [(0, .ref o), (1, .int a1)] rfl (fun X hXl C R => ?_)
  subst hXl
  refine g_wt (fun hw => ?_)
  refine g_aload_n (pc := 0) rfl 0 rfl C dX1_whole_0 ?_
  refine g_getI (pc := 1) C fl_RX1_31 t0 rfl dX1_whole_1 ?_
  refine g_if_eq (pc := 4) 11 C dX1_whole_4 (by decide) (fun c1 => ?_) (fun c1 => ?_)
  · have hD := hD.1 c1
    refine g_iload_n (pc := 11) rfl 1 rfl C dX1_whole_11 ?_
    exact g_iret (pc := 12) C R dX1_whole_12 hD
  · have hD := hD.2 c1
    refine g_iconst (pc := 7) (v := 0) (by decide) C dX1_whole_7 ?_
    refine g_goto (pc := 8) 12 C dX1_whole_8 (by decide) ?_
    exact g_iret (pc := 12) C R dX1_whole_12 hD
def DB_Law_tells_14 (r : TR) (l0 : Nat) (l1 : Int32) (l2 : Int32) (h : TH) (K14 : Int32 → TH → Prop) (K69 : TH → Prop) (Q : Int32 → TH → Prop) : Prop :=
  ((l1 ≤ (l2 + 2) → K69 h) ∧ (¬ l1 ≤ (l2 + 2) → D_Law_value r l0 l2 h (fun x6 h5 => D_Law_value r l0 (l2 + 1) h5 (fun x9 h8 => (((h8.1 l0 6) = 0 → ((x9 ≤ x6 → ∀ x13, x13 = l2 + 3 → K14 x13 h8) ∧ (¬ x9 ≤ x6 → D_Law_value r l0 (l2 + 2) h8 (fun x15 h14 => D_Law_whole r l0 x15 h14 (fun x17 h16 => Q x17 h16))))) ∧ (¬ (h8.1 l0 6) = 0 → Q 0 h8))))))
set_option maxRecDepth 100000 in
set_option maxHeartbeats 4000000 in
theorem WB_Law_tells_14 {Y : CG} {X : CX} {r : TR} {l0 : Nat} {l1 : Int32} {l2 : Int32} {h : TH} {K14 : Int32 → TH → Prop} {K69 : TH → Prop} {Q : Int32 → TH → Prop} (C : Gd Y X cX1_tells 5 RX1 2) (R : Ri Y r X .int Q) (t0 : TO Y l0 1) (hK14 : ∀ (k2 : Int32) (hh : TH), K14 k2 hh → G Y X 5 14 [(0, .ref l0), (1, .int l1), (2, .int k2)] [] r hh) (hK69 : ∀ (hh : TH), K69 hh → G Y X 5 69 [(0, .ref l0), (1, .int l1)] [] r hh) (hD : DB_Law_tells_14 r l0 l1 l2 h K14 K69 Q) : G Y X 5 14 [(0, .ref l0), (1, .int l1), (2, .int l2)] [] r h := by
  unfold DB_Law_tells_14 at hD
  refine g_wt (fun hw => ?_)
  refine g_iload_n (pc := 14) rfl 2 rfl C dX1_tells_14 ?_
  refine g_iconst (pc := 15) (v := 2) (by decide) C dX1_tells_15 ?_
  refine g_iadd (pc := 16) C dX1_tells_16 ?_
  refine g_iload_n (pc := 17) rfl 1 rfl C dX1_tells_17 ?_
  refine g_icmp_ge (pc := 18) 69 C dX1_tells_18 (by decide) (fun c4 => ?_) (fun c4 => ?_)
  · have hD := hD.1 c4
    refine g_sub [0, 1] rfl ?_
    exact hK69 h hD
  · have hD := hD.2 c4
    refine g_aload_n (pc := 21) rfl 0 rfl C dX1_tells_21 ?_
    refine g_iload_n (pc := 22) rfl 2 rfl C dX1_tells_22 ?_
    refine g_callVi (pc := 23) (As := [.int l2]) C mv_RX1_45 (M_Law_value t0 hD) t0 (by decide) rfl rfl (Nat.le_of_ble_eq_true rfl) dX1_tells_23 (fun x6 h5 hD => ?_)
    refine g_istore_n (pc := 26) (fun _ => [(3, .int x6), (0, .ref l0), (1, .int l1), (2, .int l2)]) C dX1_tells_26 rfl (by decide) rfl (fun _ _ => ?_)
    refine g_aload_n (pc := 27) rfl 1 rfl C dX1_tells_27 ?_
    refine g_iload_n (pc := 28) rfl 3 rfl C dX1_tells_28 ?_
    refine g_iconst (pc := 29) (v := 1) (by decide) C dX1_tells_29 ?_
    refine g_iadd (pc := 30) C dX1_tells_30 ?_
    refine g_callVi (pc := 31) (As := [.int (l2 + 1)]) C mv_RX1_45 (M_Law_value t0 hD) t0 (by decide) rfl rfl (Nat.le_of_ble_eq_true rfl) dX1_tells_31 (fun x9 h8 hD => ?_)
    refine g_istore (pc := 34) (fun _ => [(4, .int x9), (3, .int x6), (0, .ref l0), (1, .int l1), (2, .int l2)]) C dX1_tells_34 (by decide) rfl (fun _ _ => ?_)
    refine g_aload_n (pc := 36) rfl 2 rfl C dX1_tells_36 ?_
    refine g_getI (pc := 37) C fl_RX1_31 t0 rfl dX1_tells_37 ?_
    refine g_if_eq (pc := 40) 45 C dX1_tells_40 (by decide) (fun c11 => ?_) (fun c11 => ?_)
    · have hD := hD.1 c11
      refine g_iload_n (pc := 45) rfl 1 rfl C dX1_tells_45 ?_
      refine g_iload (pc := 46) 0 rfl C dX1_tells_46 ?_
      refine g_icmp_ge (pc := 48) 63 C dX1_tells_48 (by decide) (fun c12 => ?_) (fun c12 => ?_)
      · have hD := hD.1 c12
        refine g_iinc (pc := 63) (q := 4) (c := 3) (fun x13 => [(2, .int x13), (4, .int x9), (3, .int x6), (0, .ref l0), (1, .int l1)]) C dX1_tells_63 rfl (by decide) (by decide) rfl (fun x13 ex13 => ?_)
        have hD := hD x13 ex13
        refine g_goto (pc := 66) 14 C dX1_tells_66 (by decide) ?_
        refine g_sub [3, 4, 0] rfl ?_
        exact hK14 x13 h8 hD
      · have hD := hD.2 c12
        refine g_aload_n (pc := 51) rfl 2 rfl C dX1_tells_51 ?_
        refine g_aload_n (pc := 52) rfl 2 rfl C dX1_tells_52 ?_
        refine g_iload_n (pc := 53) rfl 4 rfl C dX1_tells_53 ?_
        refine g_iconst (pc := 54) (v := 2) (by decide) C dX1_tells_54 ?_
        refine g_iadd (pc := 55) C dX1_tells_55 ?_
        refine g_callVi (pc := 56) (As := [.int (l2 + 2)]) C mv_RX1_45 (M_Law_value t0 hD) t0 (by decide) rfl rfl (Nat.le_of_ble_eq_true rfl) dX1_tells_56 (fun x15 h14 hD => ?_)
        refine g_callVi (pc := 59) (As := [.int x15]) C mv_RX1_49 (M_Law_whole t0 hD) t0 (by decide) rfl rfl (Nat.le_of_ble_eq_true rfl) dX1_tells_59 (fun x17 h16 hD => ?_)
        exact g_iret (pc := 62) C R dX1_tells_62 hD
    · have hD := hD.2 c11
      refine g_iconst (pc := 43) (v := 0) (by decide) C dX1_tells_43 ?_
      exact g_iret (pc := 44) C R dX1_tells_44 hD
def D_Law_tells (r : TR) (o : Nat) (h : TH) (Q : Int32 → TH → Prop) : Prop :=
  ∀ h1, h1 = pI h o 6 0 → ∀ x2, x2 = (h1.1 o 5) - 1 → ∃ n, lp (fun (K : Int32 × TH → Prop) (s : Int32 × TH) => DB_Law_tells_14 r o x2 s.1 s.2 (fun y18 h19 => K (y18, h19)) (fun h20 => D_Law_value r o x2 h20 (fun x22 h21 => D_Law_whole r o x22 h21 (fun x24 h23 => Q x24 h23))) Q) n (0, h1)
set_option maxRecDepth 100000 in
set_option maxHeartbeats 4000000 in
theorem M_Law_tells {Y : CG} {r : TR} {l : Launch} {o : Nat} {h : TH} {Q : Int32 → TH → Prop} (t0 : TO Y o 1) (hD : D_Law_tells r o h Q) : Mi Y r l yX1_tells cX1_tells 5 .int 2 [.ref o] h Q := by
  unfold D_Law_tells at hD
  refine Mi.of RX1 rfl (by decide) (by simp [lg_sl, Value.category]) [(0, .ref o)] rfl (fun X hXl C R => ?_)
  subst hXl
  refine g_wt (fun hw => ?_)
  refine g_aload_n (pc := 0) rfl 0 rfl C dX1_tells_0 ?_
  refine g_iconst (pc := 1) (v := 0) (by decide) C dX1_tells_1 ?_
  refine g_putI (pc := 2) C fl_RX1_31 t0 rfl (by decide) (by decide) dX1_tells_2 (fun h1 eh1 => ?_)
  have hD := hD h1 eh1
  refine g_aload_n (pc := 5) rfl 0 rfl C dX1_tells_5 ?_
  refine g_getI (pc := 6) C fl_RX1_28 t0 rfl dX1_tells_6 ?_
  refine g_iconst (pc := 9) (v := 1) (by decide) C dX1_tells_9 ?_
  refine g_isub (pc := 10) C dX1_tells_10 ?_
  refine g_istore_n (pc := 11) (fun x2 => [(1, .int x2), (0, .ref o)]) C dX1_tells_11 rfl (by decide) rfl (fun x2 ex2 => ?_)
  have hD := hD x2 ex2
  refine g_iconst (pc := 12) (v := 0) (by decide) C dX1_tells_12 ?_
  refine g_istore_n (pc := 13) (fun _ => [(2, .int 0), (1, .int x2), (0, .ref o)]) C dX1_tells_13 rfl (by decide) rfl (fun _ _ => ?_)
  obtain ⟨n, hD⟩ := hD
  refine g_sub [2, 1, 0] rfl ?_
  refine lp_run (fun s : Int32 × TH => G Y X 5 14 [(0, .ref o), (1, .int x2), (2, .int s.1)] [] r s.2) (fun K s hB hK => ?_) n (0, h1) hD
  refine WB_Law_tells_14 C R t0 (fun y18 h19 hk => hK _ hk) (fun h20 hD => ?_) hB
  · refine g_aload_n (pc := 69) rfl 0 rfl C dX1_tells_69 ?_
    refine g_aload_n (pc := 70) rfl 0 rfl C dX1_tells_70 ?_
    refine g_iload_n (pc := 71) rfl 1 rfl C dX1_tells_71 ?_
    refine g_callVi (pc := 72) (As := [.int x2]) C mv_RX1_45 (M_Law_value t0 hD) t0 (by decide) rfl rfl (Nat.le_of_ble_eq_true rfl) dX1_tells_72 (fun x22 h21 hD => ?_)
    refine g_callVi (pc := 75) (As := [.int x22]) C mv_RX1_49 (M_Law_whole t0 hD) t0 (by decide) rfl rfl (Nat.le_of_ble_eq_true rfl) dX1_tells_75 (fun x24 h23 hD => ?_)
    exact g_iret (pc := 78) C R dX1_tells_78 hD
def D_Sc_lay (r : TR) (o : Nat) (a1 : Int32) (a2 : Int32) (h : TH) (Q : TH → Prop) : Prop :=
  vp_in a1 240 ∧ ∀ h2, h2 = pI h (r o 6) a1.toNatClampNeg ((16 * ((h.1 o 0) + 1)) + a2) → Q h2
set_option maxRecDepth 100000 in
set_option maxHeartbeats 4000000 in
theorem M_Sc_lay {Y : CG} {r : TR} {l : Launch} {o : Nat} {a1 : Int32} {a2 : Int32} {h : TH} {Q : TH → Prop} (t0 : TO Y o 5) (hD : D_Sc_lay r o a1 a2 h Q) : Mv Y r l yX5_lay cX5_lay 3 1 [.ref o, .int a1, .int a2] h Q := by
  unfold D_Sc_lay at hD
  refine Mv.of RX5 rfl (by decide) (by simp [lg_sl, Value.category]) [(0, .ref o), (1, .int a1), (2, .int a2)] rfl (fun X hXl C R => ?_)
  subst hXl
  refine g_wt (fun hw => ?_)
  refine g_aload_n (pc := 0) rfl 0 rfl C dX5_lay_0 ?_
  have t1 : TA Y (r o 6) 10 240 := wt_a hw t0 (by decide) (by decide) rfl
  refine g_getR (pc := 1) C fl_RX5_31 t0 rfl dX5_lay_1 ?_
  refine g_iload_n (pc := 4) rfl 1 rfl C dX5_lay_4 ?_
  refine g_bipush (pc := 5) (v := 16) (by decide) C dX5_lay_5 ?_
  refine g_aload_n (pc := 7) rfl 0 rfl C dX5_lay_7 ?_
  refine g_getI (pc := 8) C fl_RX5_9 t0 rfl dX5_lay_8 ?_
  refine g_iconst (pc := 11) (v := 1) (by decide) C dX5_lay_11 ?_
  refine g_iadd (pc := 12) C dX5_lay_12 ?_
  refine g_imul (pc := 13) C dX5_lay_13 ?_
  refine g_iload_n (pc := 14) rfl 2 rfl C dX5_lay_14 ?_
  refine g_iadd (pc := 15) C dX5_lay_15 ?_
  obtain ⟨hb, hD⟩ := hD
  refine g_iast (pc := 16) C t1 hb dX5_lay_16 (fun h2 eh2 => ?_)
  have hD := hD h2 eh2
  exact g_vret (pc := 17) C R dX5_lay_17 hD
def D_JI_bitCount (r : TR) (a0 : Int32) (h : TH) (Q : Int32 → TH → Prop) : Prop :=
  ∀ x1, x1 = a0 - ((jushr a0 1) &&& 1431655765) → ∀ x2, x2 = (x1 &&& 858993459) + ((jushr x1 2) &&& 858993459) → ∀ x3, x3 = (x2 + (jushr x2 4)) &&& 252645135 → ∀ x4, x4 = x3 + (jushr x3 8) → ∀ x5, x5 = x4 + (jushr x4 16) → Q (x5 &&& 63) h
set_option maxRecDepth 100000 in
set_option maxHeartbeats 4000000 in
theorem M_JI_bitCount {Y : CG} {r : TR} {l : Launch} {a0 : Int32} {h : TH} {Q : Int32 → TH → Prop} (hD : D_JI_bitCount r a0 h Q) : Mi Y r l yJ6_bitCount_0f7a4 cJ6_bitCount_0f7a4 1 .int 1 [.int a0] h Q := by
  unfold D_JI_bitCount at hD
  refine Mi.of RJ6 rfl (by decide) (by simp [lg_sl, Value.category]) [(0, .int a0)] rfl (fun X hXl C R => ?_)
  subst hXl
  refine g_wt (fun hw => ?_)
  refine g_iload_n (pc := 0) rfl 0 rfl C dJ6_bitCount_0f7a4_0 ?_
  refine g_iload_n (pc := 1) rfl 0 rfl C dJ6_bitCount_0f7a4_1 ?_
  refine g_iconst (pc := 2) (v := 1) (by decide) C dJ6_bitCount_0f7a4_2 ?_
  refine g_iushr (pc := 3) C dJ6_bitCount_0f7a4_3 ?_
  refine g_ldcw (pc := 4) cn_RJ6_265 C dJ6_bitCount_0f7a4_4 ?_
  refine g_iand (pc := 7) C dJ6_bitCount_0f7a4_7 ?_
  refine g_isub (pc := 8) C dJ6_bitCount_0f7a4_8 ?_
  refine g_istore_n (pc := 9) (fun x1 => [(0, .int x1)]) C dJ6_bitCount_0f7a4_9 rfl (by decide) rfl (fun x1 ex1 => ?_)
  have hD := hD x1 ex1
  refine g_iload_n (pc := 10) rfl 0 rfl C dJ6_bitCount_0f7a4_10 ?_
  refine g_ldcw (pc := 11) cn_RJ6_266 C dJ6_bitCount_0f7a4_11 ?_
  refine g_iand (pc := 14) C dJ6_bitCount_0f7a4_14 ?_
  refine g_iload_n (pc := 15) rfl 0 rfl C dJ6_bitCount_0f7a4_15 ?_
  refine g_iconst (pc := 16) (v := 2) (by decide) C dJ6_bitCount_0f7a4_16 ?_
  refine g_iushr (pc := 17) C dJ6_bitCount_0f7a4_17 ?_
  refine g_ldcw (pc := 18) cn_RJ6_266 C dJ6_bitCount_0f7a4_18 ?_
  refine g_iand (pc := 21) C dJ6_bitCount_0f7a4_21 ?_
  refine g_iadd (pc := 22) C dJ6_bitCount_0f7a4_22 ?_
  refine g_istore_n (pc := 23) (fun x2 => [(0, .int x2)]) C dJ6_bitCount_0f7a4_23 rfl (by decide) rfl (fun x2 ex2 => ?_)
  have hD := hD x2 ex2
  refine g_iload_n (pc := 24) rfl 0 rfl C dJ6_bitCount_0f7a4_24 ?_
  refine g_iload_n (pc := 25) rfl 0 rfl C dJ6_bitCount_0f7a4_25 ?_
  refine g_iconst (pc := 26) (v := 4) (by decide) C dJ6_bitCount_0f7a4_26 ?_
  refine g_iushr (pc := 27) C dJ6_bitCount_0f7a4_27 ?_
  refine g_iadd (pc := 28) C dJ6_bitCount_0f7a4_28 ?_
  refine g_ldcw (pc := 29) cn_RJ6_267 C dJ6_bitCount_0f7a4_29 ?_
  refine g_iand (pc := 32) C dJ6_bitCount_0f7a4_32 ?_
  refine g_istore_n (pc := 33) (fun x3 => [(0, .int x3)]) C dJ6_bitCount_0f7a4_33 rfl (by decide) rfl (fun x3 ex3 => ?_)
  have hD := hD x3 ex3
  refine g_iload_n (pc := 34) rfl 0 rfl C dJ6_bitCount_0f7a4_34 ?_
  refine g_iload_n (pc := 35) rfl 0 rfl C dJ6_bitCount_0f7a4_35 ?_
  refine g_bipush (pc := 36) (v := 8) (by decide) C dJ6_bitCount_0f7a4_36 ?_
  refine g_iushr (pc := 38) C dJ6_bitCount_0f7a4_38 ?_
  refine g_iadd (pc := 39) C dJ6_bitCount_0f7a4_39 ?_
  refine g_istore_n (pc := 40) (fun x4 => [(0, .int x4)]) C dJ6_bitCount_0f7a4_40 rfl (by decide) rfl (fun x4 ex4 => ?_)
  have hD := hD x4 ex4
  refine g_iload_n (pc := 41) rfl 0 rfl C dJ6_bitCount_0f7a4_41 ?_
  refine g_iload_n (pc := 42) rfl 0 rfl C dJ6_bitCount_0f7a4_42 ?_
  refine g_bipush (pc := 43) (v := 16) (by decide) C dJ6_bitCount_0f7a4_43 ?_
  refine g_iushr (pc := 45) C dJ6_bitCount_0f7a4_45 ?_
  refine g_iadd (pc := 46) C dJ6_bitCount_0f7a4_46 ?_
  refine g_istore_n (pc := 47) (fun x5 => [(0, .int x5)]) C dJ6_bitCount_0f7a4_47 rfl (by decide) rfl (fun x5 ex5 => ?_)
  have hD := hD x5 ex5
  refine g_iload_n (pc := 48) rfl 0 rfl C dJ6_bitCount_0f7a4_48 ?_
  refine g_bipush (pc := 49) (v := 63) (by decide) C dJ6_bitCount_0f7a4_49 ?_
  refine g_iand (pc := 51) C dJ6_bitCount_0f7a4_51 ?_
  exact g_iret (pc := 52) C R dJ6_bitCount_0f7a4_52 hD
def D_Sc_bringHome (r : TR) (o : Nat) (a1 : Int32) (h : TH) (Q : TH → Prop) : Prop :=
  ∀ h1, h1 = pI h o 3 ((h.1 o 3) ||| (1 <<< (a1 &&& 31))) → D_JI_bitCount r (h1.1 o 3) h1 (fun x4 h3 => vp_in a1 6 ∧ ∀ h5, h5 = pI h3 (r o 5) a1.toNatClampNeg x4 → Q h5)
set_option maxRecDepth 100000 in
set_option maxHeartbeats 4000000 in
theorem M_Sc_bringHome {Y : CG} {r : TR} {l : Launch} {o : Nat} {a1 : Int32} {h : TH} {Q : TH → Prop} (t0 : TO Y o 5) (hD : D_Sc_bringHome r o a1 h Q) : Mv Y r l yX5_bringHome cX5_bringHome 2 2 [.ref o, .int a1] h Q := by
  unfold D_Sc_bringHome at hD
  refine Mv.of RX5 rfl (by decide) (by simp [lg_sl, Value.category]) [(0, .ref o), (1, .int a1)] rfl (fun X hXl C R => ?_)
  subst hXl
  refine g_wt (fun hw => ?_)
  refine g_aload_n (pc := 0) rfl 0 rfl C dX5_bringHome_0 ?_
  refine g_dup (pc := 1) rfl C dX5_bringHome_1 ?_
  refine g_getI (pc := 2) C fl_RX5_21 t0 rfl dX5_bringHome_2 ?_
  refine g_iconst (pc := 5) (v := 1) (by decide) C dX5_bringHome_5 ?_
  refine g_iload_n (pc := 6) rfl 1 rfl C dX5_bringHome_6 ?_
  refine g_ishl (pc := 7) C dX5_bringHome_7 ?_
  refine g_ior (pc := 8) C dX5_bringHome_8 ?_
  refine g_putI (pc := 9) C fl_RX5_21 t0 rfl rfl rfl dX5_bringHome_9 (fun h1 eh1 => ?_)
  have hD := hD h1 eh1
  refine g_aload_n (pc := 12) rfl 0 rfl C dX5_bringHome_12 ?_
  have t2 : TA Y (r o 5) 10 6 := wt_a hw t0 (by decide) (by decide) rfl
  refine g_getR (pc := 13) C fl_RX5_28 t0 rfl dX5_bringHome_13 ?_
  refine g_iload_n (pc := 16) rfl 1 rfl C dX5_bringHome_16 ?_
  refine g_aload_n (pc := 17) rfl 0 rfl C dX5_bringHome_17 ?_
  refine g_getI (pc := 18) C fl_RX5_21 t0 rfl dX5_bringHome_18 ?_
  refine g_callSi (pc := 21) (As := [.int (h1.1 o 3)]) C ms_RX5_56 (M_JI_bitCount  hD) (by decide) rfl rfl (Nat.le_of_ble_eq_true rfl) dX5_bringHome_21 (fun x4 h3 hD => ?_)
  obtain ⟨hb, hD⟩ := hD
  refine g_iast (pc := 24) C t2 hb dX5_bringHome_24 (fun h5 eh5 => ?_)
  have hD := hD h5 eh5
  exact g_vret (pc := 25) C R dX5_bringHome_25 hD
def D_Sc_clear (r : TR) (o : Nat) (h : TH) (Q : TH → Prop) : Prop :=
  ∀ h1, h1 = pI h o 0 0 → ∀ h2, h2 = pI h1 o 1 0 → ∀ h3, h3 = pI h2 o 2 0 → ∀ h4, h4 = pI h3 o 3 0 → D_JA_fill r (r o 4) 6 0 h4 (fun h6 => D_JA_fill r (r o 5) 6 0 h6 (fun h9 => D_JA_fill r (r o 6) 240 0 h9 (fun h12 => Q h12)))
set_option maxRecDepth 100000 in
set_option maxHeartbeats 4000000 in
theorem M_Sc_clear {Y : CG} {r : TR} {l : Launch} {o : Nat} {h : TH} {Q : TH → Prop} (t0 : TO Y o 5) (hD : D_Sc_clear r o h Q) : Mv Y r l yX5_clear cX5_clear 1 2 [.ref o] h Q := by
  unfold D_Sc_clear at hD
  refine Mv.of RX5 rfl (by decide) (by simp [lg_sl, Value.category]) [(0, .ref o)] rfl (fun X hXl C R => ?_)
  subst hXl
  refine g_wt (fun hw => ?_)
  refine g_aload_n (pc := 0) rfl 0 rfl C dX5_clear_0 ?_
  refine g_iconst (pc := 1) (v := 0) (by decide) C dX5_clear_1 ?_
  refine g_putI (pc := 2) C fl_RX5_9 t0 rfl rfl rfl dX5_clear_2 (fun h1 eh1 => ?_)
  have hD := hD h1 eh1
  refine g_aload_n (pc := 5) rfl 0 rfl C dX5_clear_5 ?_
  refine g_iconst (pc := 6) (v := 0) (by decide) C dX5_clear_6 ?_
  refine g_putI (pc := 7) C fl_RX5_15 t0 rfl rfl rfl dX5_clear_7 (fun h2 eh2 => ?_)
  have hD := hD h2 eh2
  refine g_aload_n (pc := 10) rfl 0 rfl C dX5_clear_10 ?_
  refine g_iconst (pc := 11) (v := 0) (by decide) C dX5_clear_11 ?_
  refine g_putI (pc := 12) C fl_RX5_18 t0 rfl rfl rfl dX5_clear_12 (fun h3 eh3 => ?_)
  have hD := hD h3 eh3
  refine g_aload_n (pc := 15) rfl 0 rfl C dX5_clear_15 ?_
  refine g_iconst (pc := 16) (v := 0) (by decide) C dX5_clear_16 ?_
  refine g_putI (pc := 17) C fl_RX5_21 t0 rfl rfl rfl dX5_clear_17 (fun h4 eh4 => ?_)
  have hD := hD h4 eh4
  refine g_aload_n (pc := 20) rfl 0 rfl C dX5_clear_20 ?_
  have t5 : TA Y (r o 4) 10 6 := wt_a hw t0 (by decide) (by decide) rfl
  refine g_getR (pc := 21) C fl_RX5_24 t0 rfl dX5_clear_21 ?_
  refine g_iconst (pc := 24) (v := 0) (by decide) C dX5_clear_24 ?_
  refine g_callSv (pc := 25) (As := [.ref (r o 4), .int 0]) C ms_RX5_34 (M_JA_fill t5 hD) (by decide) rfl rfl (Nat.le_of_ble_eq_true rfl) dX5_clear_25 (fun h6 hD => ?_)
  refine g_aload_n (pc := 28) rfl 0 rfl C dX5_clear_28 ?_
  have t8 : TA Y (r o 5) 10 6 := wt_a hw t0 (by decide) (by decide) rfl
  refine g_getR (pc := 29) C fl_RX5_28 t0 rfl dX5_clear_29 ?_
  refine g_iconst (pc := 32) (v := 0) (by decide) C dX5_clear_32 ?_
  refine g_callSv (pc := 33) (As := [.ref (r o 5), .int 0]) C ms_RX5_34 (M_JA_fill t8 hD) (by decide) rfl rfl (Nat.le_of_ble_eq_true rfl) dX5_clear_33 (fun h9 hD => ?_)
  refine g_aload_n (pc := 36) rfl 0 rfl C dX5_clear_36 ?_
  have t11 : TA Y (r o 6) 10 240 := wt_a hw t0 (by decide) (by decide) rfl
  refine g_getR (pc := 37) C fl_RX5_31 t0 rfl dX5_clear_37 ?_
  refine g_iconst (pc := 40) (v := 0) (by decide) C dX5_clear_40 ?_
  refine g_callSv (pc := 41) (As := [.ref (r o 6), .int 0]) C ms_RX5_34 (M_JA_fill t11 hD) (by decide) rfl rfl (Nat.le_of_ble_eq_true rfl) dX5_clear_41 (fun h12 hD => ?_)
  exact g_vret (pc := 44) C R dX5_clear_44 hD
def D_Sc_isSailing (r : TR) (o : Nat) (a1 : Int32) (h : TH) (Q : Int32 → TH → Prop) : Prop :=
  ((¬ ((((h.1 o 2) ||| (h.1 o 3)) >>> (a1 &&& 31)) &&& 1) = 0 → Q 0 h) ∧ (((((h.1 o 2) ||| (h.1 o 3)) >>> (a1 &&& 31)) &&& 1) = 0 → Q 1 h))
set_option maxRecDepth 100000 in
set_option maxHeartbeats 4000000 in
theorem M_Sc_isSailing {Y : CG} {r : TR} {l : Launch} {o : Nat} {a1 : Int32} {h : TH} {Q : Int32 → TH → Prop} (t0 : TO Y o 5) (hD : D_Sc_isSailing r o a1 h Q) : Mi Y r l yX5_isSailing cX5_isSailing 2 .boolean 1 [.ref o, .int a1] h Q := by
  unfold D_Sc_isSailing at hD
  refine Mi.of RX5 rfl (by decide) (by simp [lg_sl, Value.category]) [(0, .ref o), (1, .int a1)] rfl (fun X hXl C R => ?_)
  subst hXl
  refine g_wt (fun hw => ?_)
  refine g_aload_n (pc := 0) rfl 0 rfl C dX5_isSailing_0 ?_
  refine g_getI (pc := 1) C fl_RX5_18 t0 rfl dX5_isSailing_1 ?_
  refine g_aload_n (pc := 4) rfl 0 rfl C dX5_isSailing_4 ?_
  refine g_getI (pc := 5) C fl_RX5_21 t0 rfl dX5_isSailing_5 ?_
  refine g_ior (pc := 8) C dX5_isSailing_8 ?_
  refine g_iload_n (pc := 9) rfl 1 rfl C dX5_isSailing_9 ?_
  refine g_ishr (pc := 10) C dX5_isSailing_10 ?_
  refine g_iconst (pc := 11) (v := 1) (by decide) C dX5_isSailing_11 ?_
  refine g_iand (pc := 12) C dX5_isSailing_12 ?_
  refine g_if_ne (pc := 13) 20 C dX5_isSailing_13 (by decide) (fun c1 => ?_) (fun c1 => ?_)
  · have hD := hD.1 c1
    refine g_iconst (pc := 20) (v := 0) (by decide) C dX5_isSailing_20 ?_
    exact g_zret (pc := 21) C R nz_0 dX5_isSailing_21 hD
  · have hD := hD.2 c1
    refine g_iconst (pc := 16) (v := 1) (by decide) C dX5_isSailing_16 ?_
    refine g_goto (pc := 17) 21 C dX5_isSailing_17 (by decide) ?_
    exact g_zret (pc := 21) C R nz_1 dX5_isSailing_21 hD
def D_Sc_laidHour (r : TR) (o : Nat) (a1 : Int32) (h : TH) (Q : Int32 → TH → Prop) : Prop :=
  vp_in a1 240 ∧ Q (((h.1 (r o 6) a1.toNatClampNeg) / 16) - 1) h
set_option maxRecDepth 100000 in
set_option maxHeartbeats 4000000 in
theorem M_Sc_laidHour {Y : CG} {r : TR} {l : Launch} {o : Nat} {a1 : Int32} {h : TH} {Q : Int32 → TH → Prop} (t0 : TO Y o 5) (hD : D_Sc_laidHour r o a1 h Q) : Mi Y r l yX5_laidHour cX5_laidHour 2 .int 1 [.ref o, .int a1] h Q := by
  unfold D_Sc_laidHour at hD
  refine Mi.of RX5 rfl (by decide) (by simp [lg_sl, Value.category]) [(0, .ref o), (1, .int a1)] rfl (fun X hXl C R => ?_)
  subst hXl
  refine g_wt (fun hw => ?_)
  refine g_aload_n (pc := 0) rfl 0 rfl C dX5_laidHour_0 ?_
  have t1 : TA Y (r o 6) 10 240 := wt_a hw t0 (by decide) (by decide) rfl
  refine g_getR (pc := 1) C fl_RX5_31 t0 rfl dX5_laidHour_1 ?_
  refine g_iload_n (pc := 4) rfl 1 rfl C dX5_laidHour_4 ?_
  obtain ⟨hb, hD⟩ := hD
  refine g_iald (pc := 5) C t1 hb dX5_laidHour_5 ?_
  refine g_bipush (pc := 6) (v := 16) (by decide) C dX5_laidHour_6 ?_
  refine g_idiv (pc := 8) (by decide) C dX5_laidHour_8 ?_
  refine g_iconst (pc := 9) (v := 1) (by decide) C dX5_laidHour_9 ?_
  refine g_isub (pc := 10) C dX5_laidHour_10 ?_
  exact g_iret (pc := 11) C R dX5_laidHour_11 hD
def D_Sc_liesTill (r : TR) (o : Nat) (a1 : Int32) (h : TH) (Q : Int32 → TH → Prop) : Prop :=
  vp_in a1 240 ∧ vp_in a1 240 ∧ Q ((((h.1 (r o 6) a1.toNatClampNeg) / 16) - 1) + (jrem (h.1 (r o 6) a1.toNatClampNeg) 16)) h
set_option maxRecDepth 100000 in
set_option maxHeartbeats 4000000 in
theorem M_Sc_liesTill {Y : CG} {r : TR} {l : Launch} {o : Nat} {a1 : Int32} {h : TH} {Q : Int32 → TH → Prop} (t0 : TO Y o 5) (hD : D_Sc_liesTill r o a1 h Q) : Mi Y r l yX5_liesTill cX5_liesTill 2 .int 1 [.ref o, .int a1] h Q := by
  unfold D_Sc_liesTill at hD
  refine Mi.of RX5 rfl (by decide) (by simp [lg_sl, Value.category]) [(0, .ref o), (1, .int a1)] rfl (fun X hXl C R => ?_)
  subst hXl
  refine g_wt (fun hw => ?_)
  refine g_aload_n (pc := 0) rfl 0 rfl C dX5_liesTill_0 ?_
  have t1 : TA Y (r o 6) 10 240 := wt_a hw t0 (by decide) (by decide) rfl
  refine g_getR (pc := 1) C fl_RX5_31 t0 rfl dX5_liesTill_1 ?_
  refine g_iload_n (pc := 4) rfl 1 rfl C dX5_liesTill_4 ?_
  obtain ⟨hb, hD⟩ := hD
  refine g_iald (pc := 5) C t1 hb dX5_liesTill_5 ?_
  refine g_bipush (pc := 6) (v := 16) (by decide) C dX5_liesTill_6 ?_
  refine g_idiv (pc := 8) (by decide) C dX5_liesTill_8 ?_
  refine g_iconst (pc := 9) (v := 1) (by decide) C dX5_liesTill_9 ?_
  refine g_isub (pc := 10) C dX5_liesTill_10 ?_
  refine g_aload_n (pc := 11) rfl 0 rfl C dX5_liesTill_11 ?_
  have t2 : TA Y (r o 6) 10 240 := wt_a hw t0 (by decide) (by decide) rfl
  refine g_getR (pc := 12) C fl_RX5_31 t0 rfl dX5_liesTill_12 ?_
  refine g_iload_n (pc := 15) rfl 1 rfl C dX5_liesTill_15 ?_
  obtain ⟨hb, hD⟩ := hD
  refine g_iald (pc := 16) C t2 hb dX5_liesTill_16 ?_
  refine g_bipush (pc := 17) (v := 16) (by decide) C dX5_liesTill_17 ?_
  refine g_irem (pc := 19) (by decide) C dX5_liesTill_19 ?_
  refine g_iadd (pc := 20) C dX5_liesTill_20 ?_
  exact g_iret (pc := 21) C R dX5_liesTill_21 hD
def D_Sc_wasLaid (r : TR) (o : Nat) (a1 : Int32) (h : TH) (Q : Int32 → TH → Prop) : Prop :=
  vp_in a1 240 ∧ (((h.1 (r o 6) a1.toNatClampNeg) = 0 → Q 0 h) ∧ (¬ (h.1 (r o 6) a1.toNatClampNeg) = 0 → Q 1 h))
set_option maxRecDepth 100000 in
set_option maxHeartbeats 4000000 in
theorem M_Sc_wasLaid {Y : CG} {r : TR} {l : Launch} {o : Nat} {a1 : Int32} {h : TH} {Q : Int32 → TH → Prop} (t0 : TO Y o 5) (hD : D_Sc_wasLaid r o a1 h Q) : Mi Y r l yX5_wasLaid cX5_wasLaid 2 .boolean 1 [.ref o, .int a1] h Q := by
  unfold D_Sc_wasLaid at hD
  refine Mi.of RX5 rfl (by decide) (by simp [lg_sl, Value.category]) [(0, .ref o), (1, .int a1)] rfl (fun X hXl C R => ?_)
  subst hXl
  refine g_wt (fun hw => ?_)
  refine g_aload_n (pc := 0) rfl 0 rfl C dX5_wasLaid_0 ?_
  have t1 : TA Y (r o 6) 10 240 := wt_a hw t0 (by decide) (by decide) rfl
  refine g_getR (pc := 1) C fl_RX5_31 t0 rfl dX5_wasLaid_1 ?_
  refine g_iload_n (pc := 4) rfl 1 rfl C dX5_wasLaid_4 ?_
  obtain ⟨hb, hD⟩ := hD
  refine g_iald (pc := 5) C t1 hb dX5_wasLaid_5 ?_
  refine g_if_eq (pc := 6) 13 C dX5_wasLaid_6 (by decide) (fun c2 => ?_) (fun c2 => ?_)
  · have hD := hD.1 c2
    refine g_iconst (pc := 13) (v := 0) (by decide) C dX5_wasLaid_13 ?_
    exact g_zret (pc := 14) C R nz_0 dX5_wasLaid_14 hD
  · have hD := hD.2 c2
    refine g_iconst (pc := 9) (v := 1) (by decide) C dX5_wasLaid_9 ?_
    refine g_goto (pc := 10) 14 C dX5_wasLaid_10 (by decide) ?_
    exact g_zret (pc := 14) C R nz_1 dX5_wasLaid_14 hD
def D_Sc_lies (r : TR) (o : Nat) (a1 : Int32) (h : TH) (Q : Int32 → TH → Prop) : Prop :=
  D_Sc_wasLaid r o a1 h (fun x2 h1 => ((x2 = 0 → Q 0 h1) ∧ (¬ x2 = 0 → D_Sc_liesTill r o a1 h1 (fun x5 h4 => ((x5 < (h1.1 o 0) → Q 0 h4) ∧ (¬ x5 < (h1.1 o 0) → Q 1 h4))))))
set_option maxRecDepth 100000 in
set_option maxHeartbeats 4000000 in
theorem M_Sc_lies {Y : CG} {r : TR} {l : Launch} {o : Nat} {a1 : Int32} {h : TH} {Q : Int32 → TH → Prop} (t0 : TO Y o 5) (hD : D_Sc_lies r o a1 h Q) : Mi Y r l yX5_lies cX5_lies 2 .boolean 2 [.ref o, .int a1] h Q := by
  unfold D_Sc_lies at hD
  refine Mi.of RX5 rfl (by decide) (by simp [lg_sl, Value.category]) [(0, .ref o), (1, .int a1)] rfl (fun X hXl C R => ?_)
  subst hXl
  refine g_wt (fun hw => ?_)
  refine g_aload_n (pc := 0) rfl 0 rfl C dX5_lies_0 ?_
  refine g_iload_n (pc := 1) rfl 1 rfl C dX5_lies_1 ?_
  refine g_callVi (pc := 2) (As := [.int a1]) C mv_RX5_72 (M_Sc_wasLaid t0 hD) t0 (by decide) rfl rfl (Nat.le_of_ble_eq_true rfl) dX5_lies_2 (fun x2 h1 hD => ?_)
  refine g_if_eq (pc := 5) 24 C dX5_lies_5 (by decide) (fun c3 => ?_) (fun c3 => ?_)
  · have hD := hD.1 c3
    refine g_iconst (pc := 24) (v := 0) (by decide) C dX5_lies_24 ?_
    exact g_zret (pc := 25) C R nz_0 dX5_lies_25 hD
  · have hD := hD.2 c3
    refine g_aload_n (pc := 8) rfl 0 rfl C dX5_lies_8 ?_
    refine g_getI (pc := 9) C fl_RX5_9 t0 rfl dX5_lies_9 ?_
    refine g_aload_n (pc := 12) rfl 0 rfl C dX5_lies_12 ?_
    refine g_iload_n (pc := 13) rfl 1 rfl C dX5_lies_13 ?_
    refine g_callVi (pc := 14) (As := [.int a1]) C mv_RX5_75 (M_Sc_liesTill t0 hD) t0 (by decide) rfl rfl (Nat.le_of_ble_eq_true rfl) dX5_lies_14 (fun x5 h4 hD => ?_)
    refine g_icmp_gt (pc := 17) 24 C dX5_lies_17 (by decide) (fun c6 => ?_) (fun c6 => ?_)
    · have hD := hD.1 c6
      refine g_iconst (pc := 24) (v := 0) (by decide) C dX5_lies_24 ?_
      exact g_zret (pc := 25) C R nz_0 dX5_lies_25 hD
    · have hD := hD.2 c6
      refine g_iconst (pc := 20) (v := 1) (by decide) C dX5_lies_20 ?_
      refine g_goto (pc := 21) 25 C dX5_lies_21 (by decide) ?_
      exact g_zret (pc := 25) C R nz_1 dX5_lies_25 hD
def D_Sc_isLost (r : TR) (o : Nat) (a1 : Int32) (h : TH) (Q : Int32 → TH → Prop) : Prop :=
  ((¬ (((h.1 o 2) >>> (a1 &&& 31)) &&& 1) = 1 → Q 0 h) ∧ ((((h.1 o 2) >>> (a1 &&& 31)) &&& 1) = 1 → Q 1 h))
set_option maxRecDepth 100000 in
set_option maxHeartbeats 4000000 in
theorem M_Sc_isLost {Y : CG} {r : TR} {l : Launch} {o : Nat} {a1 : Int32} {h : TH} {Q : Int32 → TH → Prop} (t0 : TO Y o 5) (hD : D_Sc_isLost r o a1 h Q) : Mi Y r l yX5_isLost cX5_isLost 2 .boolean 1 [.ref o, .int a1] h Q := by
  unfold D_Sc_isLost at hD
  refine Mi.of RX5 rfl (by decide) (by simp [lg_sl, Value.category]) [(0, .ref o), (1, .int a1)] rfl (fun X hXl C R => ?_)
  subst hXl
  refine g_wt (fun hw => ?_)
  refine g_aload_n (pc := 0) rfl 0 rfl C dX5_isLost_0 ?_
  refine g_getI (pc := 1) C fl_RX5_18 t0 rfl dX5_isLost_1 ?_
  refine g_iload_n (pc := 4) rfl 1 rfl C dX5_isLost_4 ?_
  refine g_ishr (pc := 5) C dX5_isLost_5 ?_
  refine g_iconst (pc := 6) (v := 1) (by decide) C dX5_isLost_6 ?_
  refine g_iand (pc := 7) C dX5_isLost_7 ?_
  refine g_iconst (pc := 8) (v := 1) (by decide) C dX5_isLost_8 ?_
  refine g_icmp_ne (pc := 9) 16 C dX5_isLost_9 (by decide) (fun c1 => ?_) (fun c1 => ?_)
  · have hD := hD.1 c1
    refine g_iconst (pc := 16) (v := 0) (by decide) C dX5_isLost_16 ?_
    exact g_zret (pc := 17) C R nz_0 dX5_isLost_17 hD
  · have hD := hD.2 c1
    refine g_iconst (pc := 12) (v := 1) (by decide) C dX5_isLost_12 ?_
    refine g_goto (pc := 13) 17 C dX5_isLost_13 (by decide) ?_
    exact g_zret (pc := 17) C R nz_1 dX5_isLost_17 hD
def D_Sc_eastOf (r : TR) (o : Nat) (a1 : Int32) (h : TH) (Q : Int32 → TH → Prop) : Prop :=
  D_Sc_isLost r o a1 h (fun x2 h1 => ((x2 = 0 → vp_in a1 6 ∧ Q (jrem (h1.1 (r o 4) a1.toNatClampNeg) 8) h1) ∧ (¬ x2 = 0 → Q (-2) h1)))
set_option maxRecDepth 100000 in
set_option maxHeartbeats 4000000 in
theorem M_Sc_eastOf {Y : CG} {r : TR} {l : Launch} {o : Nat} {a1 : Int32} {h : TH} {Q : Int32 → TH → Prop} (t0 : TO Y o 5) (hD : D_Sc_eastOf r o a1 h Q) : Mi Y r l yX5_eastOf cX5_eastOf 2 .int 2 [.ref o, .int a1] h Q := by
  unfold D_Sc_eastOf at hD
  refine Mi.of RX5 rfl (by decide) (by simp [lg_sl, Value.category]) [(0, .ref o), (1, .int a1)] rfl (fun X hXl C R => ?_)
  subst hXl
  refine g_wt (fun hw => ?_)
  refine g_aload_n (pc := 0) rfl 0 rfl C dX5_eastOf_0 ?_
  refine g_iload_n (pc := 1) rfl 1 rfl C dX5_eastOf_1 ?_
  refine g_callVi (pc := 2) (As := [.int a1]) C mv_RX5_50 (M_Sc_isLost t0 hD) t0 (by decide) rfl rfl (Nat.le_of_ble_eq_true rfl) dX5_eastOf_2 (fun x2 h1 hD => ?_)
  refine g_if_eq (pc := 5) 13 C dX5_eastOf_5 (by decide) (fun c3 => ?_) (fun c3 => ?_)
  · have hD := hD.1 c3
    refine g_aload_n (pc := 13) rfl 0 rfl C dX5_eastOf_13 ?_
    have t4 : TA Y (r o 4) 10 6 := wt_a hw t0 (by decide) (by decide) rfl
    refine g_getR (pc := 14) C fl_RX5_24 t0 rfl dX5_eastOf_14 ?_
    refine g_iload_n (pc := 17) rfl 1 rfl C dX5_eastOf_17 ?_
    obtain ⟨hb, hD⟩ := hD
    refine g_iald (pc := 18) C t4 hb dX5_eastOf_18 ?_
    refine g_bipush (pc := 19) (v := 8) (by decide) C dX5_eastOf_19 ?_
    refine g_irem (pc := 21) (by decide) C dX5_eastOf_21 ?_
    exact g_iret (pc := 22) C R dX5_eastOf_22 hD
  · have hD := hD.2 c3
    refine g_bipush (pc := 8) (v := (-2)) (by decide) C dX5_eastOf_8 ?_
    refine g_goto (pc := 10) 22 C dX5_eastOf_10 (by decide) ?_
    exact g_iret (pc := 22) C R dX5_eastOf_22 hD
def D_Sc_southOf (r : TR) (o : Nat) (a1 : Int32) (h : TH) (Q : Int32 → TH → Prop) : Prop :=
  D_Sc_isLost r o a1 h (fun x2 h1 => ((x2 = 0 → vp_in a1 6 ∧ Q ((h1.1 (r o 4) a1.toNatClampNeg) / 8) h1) ∧ (¬ x2 = 0 → Q (-2) h1)))
set_option maxRecDepth 100000 in
set_option maxHeartbeats 4000000 in
theorem M_Sc_southOf {Y : CG} {r : TR} {l : Launch} {o : Nat} {a1 : Int32} {h : TH} {Q : Int32 → TH → Prop} (t0 : TO Y o 5) (hD : D_Sc_southOf r o a1 h Q) : Mi Y r l yX5_southOf cX5_southOf 2 .int 2 [.ref o, .int a1] h Q := by
  unfold D_Sc_southOf at hD
  refine Mi.of RX5 rfl (by decide) (by simp [lg_sl, Value.category]) [(0, .ref o), (1, .int a1)] rfl (fun X hXl C R => ?_)
  subst hXl
  refine g_wt (fun hw => ?_)
  refine g_aload_n (pc := 0) rfl 0 rfl C dX5_southOf_0 ?_
  refine g_iload_n (pc := 1) rfl 1 rfl C dX5_southOf_1 ?_
  refine g_callVi (pc := 2) (As := [.int a1]) C mv_RX5_50 (M_Sc_isLost t0 hD) t0 (by decide) rfl rfl (Nat.le_of_ble_eq_true rfl) dX5_southOf_2 (fun x2 h1 hD => ?_)
  refine g_if_eq (pc := 5) 13 C dX5_southOf_5 (by decide) (fun c3 => ?_) (fun c3 => ?_)
  · have hD := hD.1 c3
    refine g_aload_n (pc := 13) rfl 0 rfl C dX5_southOf_13 ?_
    have t4 : TA Y (r o 4) 10 6 := wt_a hw t0 (by decide) (by decide) rfl
    refine g_getR (pc := 14) C fl_RX5_24 t0 rfl dX5_southOf_14 ?_
    refine g_iload_n (pc := 17) rfl 1 rfl C dX5_southOf_17 ?_
    obtain ⟨hb, hD⟩ := hD
    refine g_iald (pc := 18) C t4 hb dX5_southOf_18 ?_
    refine g_bipush (pc := 19) (v := 8) (by decide) C dX5_southOf_19 ?_
    refine g_idiv (pc := 21) (by decide) C dX5_southOf_21 ?_
    exact g_iret (pc := 22) C R dX5_southOf_22 hD
  · have hD := hD.2 c3
    refine g_bipush (pc := 8) (v := (-2)) (by decide) C dX5_southOf_8 ?_
    refine g_goto (pc := 10) 22 C dX5_southOf_10 (by decide) ?_
    exact g_iret (pc := 22) C R dX5_southOf_22 hD
def D_Sc_isHome (r : TR) (o : Nat) (a1 : Int32) (h : TH) (Q : Int32 → TH → Prop) : Prop :=
  ((¬ (((h.1 o 3) >>> (a1 &&& 31)) &&& 1) = 1 → Q 0 h) ∧ ((((h.1 o 3) >>> (a1 &&& 31)) &&& 1) = 1 → Q 1 h))
set_option maxRecDepth 100000 in
set_option maxHeartbeats 4000000 in
theorem M_Sc_isHome {Y : CG} {r : TR} {l : Launch} {o : Nat} {a1 : Int32} {h : TH} {Q : Int32 → TH → Prop} (t0 : TO Y o 5) (hD : D_Sc_isHome r o a1 h Q) : Mi Y r l yX5_isHome cX5_isHome 2 .boolean 1 [.ref o, .int a1] h Q := by
  unfold D_Sc_isHome at hD
  refine Mi.of RX5 rfl (by decide) (by simp [lg_sl, Value.category]) [(0, .ref o), (1, .int a1)] rfl (fun X hXl C R => ?_)
  subst hXl
  refine g_wt (fun hw => ?_)
  refine g_aload_n (pc := 0) rfl 0 rfl C dX5_isHome_0 ?_
  refine g_getI (pc := 1) C fl_RX5_21 t0 rfl dX5_isHome_1 ?_
  refine g_iload_n (pc := 4) rfl 1 rfl C dX5_isHome_4 ?_
  refine g_ishr (pc := 5) C dX5_isHome_5 ?_
  refine g_iconst (pc := 6) (v := 1) (by decide) C dX5_isHome_6 ?_
  refine g_iand (pc := 7) C dX5_isHome_7 ?_
  refine g_iconst (pc := 8) (v := 1) (by decide) C dX5_isHome_8 ?_
  refine g_icmp_ne (pc := 9) 16 C dX5_isHome_9 (by decide) (fun c1 => ?_) (fun c1 => ?_)
  · have hD := hD.1 c1
    refine g_iconst (pc := 16) (v := 0) (by decide) C dX5_isHome_16 ?_
    exact g_zret (pc := 17) C R nz_0 dX5_isHome_17 hD
  · have hD := hD.2 c1
    refine g_iconst (pc := 12) (v := 1) (by decide) C dX5_isHome_12 ?_
    refine g_goto (pc := 13) 17 C dX5_isHome_13 (by decide) ?_
    exact g_zret (pc := 17) C R nz_1 dX5_isHome_17 hD
def D_Sc_copyFrom (r : TR) (o : Nat) (a1 : Nat) (h : TH) (Q : TH → Prop) : Prop :=
  ∀ h1, h1 = pI h o 0 (h.1 a1 0) → ∀ h2, h2 = pI h1 o 1 (h1.1 a1 1) → ∀ h3, h3 = pI h2 o 2 (h2.1 a1 2) → ∀ h4, h4 = pI h3 o 3 (h3.1 a1 3) → ∀ h7, h7 = pRow h4 (r o 4) (va_cpy (h4.1 (r a1 4)) (h4.1 (r o 4)) 0 0 (6 : Int32).toNatClampNeg) → ∀ h10, h10 = pRow h7 (r o 5) (va_cpy (h7.1 (r a1 5)) (h7.1 (r o 5)) 0 0 (6 : Int32).toNatClampNeg) → ∀ h13, h13 = pRow h10 (r o 6) (va_cpy (h10.1 (r a1 6)) (h10.1 (r o 6)) 0 0 (240 : Int32).toNatClampNeg) → Q h13
set_option maxRecDepth 100000 in
set_option maxHeartbeats 4000000 in
theorem M_Sc_copyFrom {Y : CG} {r : TR} {l : Launch} {o : Nat} {a1 : Nat} {h : TH} {Q : TH → Prop} (t0 : TO Y o 5) (t1 : TO Y a1 5) (hD : D_Sc_copyFrom r o a1 h Q) : Mv Y r l yX5_copyFrom cX5_copyFrom 2 1 [.ref o, .ref a1] h Q := by
  unfold D_Sc_copyFrom at hD
  refine Mv.of RX5 rfl (by decide) (by simp [lg_sl, Value.category]) [(0, .ref o), (1, .ref a1)] rfl (fun X hXl C R => ?_)
  subst hXl
  refine g_wt (fun hw => ?_)
  refine g_aload_n (pc := 0) rfl 0 rfl C dX5_copyFrom_0 ?_
  refine g_aload_n (pc := 1) rfl 1 rfl C dX5_copyFrom_1 ?_
  refine g_getI (pc := 2) C fl_RX5_9 t1 rfl dX5_copyFrom_2 ?_
  refine g_putI (pc := 5) C fl_RX5_9 t0 rfl rfl rfl dX5_copyFrom_5 (fun h1 eh1 => ?_)
  have hD := hD h1 eh1
  refine g_aload_n (pc := 8) rfl 0 rfl C dX5_copyFrom_8 ?_
  refine g_aload_n (pc := 9) rfl 1 rfl C dX5_copyFrom_9 ?_
  refine g_getI (pc := 10) C fl_RX5_15 t1 rfl dX5_copyFrom_10 ?_
  refine g_putI (pc := 13) C fl_RX5_15 t0 rfl rfl rfl dX5_copyFrom_13 (fun h2 eh2 => ?_)
  have hD := hD h2 eh2
  refine g_aload_n (pc := 16) rfl 0 rfl C dX5_copyFrom_16 ?_
  refine g_aload_n (pc := 17) rfl 1 rfl C dX5_copyFrom_17 ?_
  refine g_getI (pc := 18) C fl_RX5_18 t1 rfl dX5_copyFrom_18 ?_
  refine g_putI (pc := 21) C fl_RX5_18 t0 rfl rfl rfl dX5_copyFrom_21 (fun h3 eh3 => ?_)
  have hD := hD h3 eh3
  refine g_aload_n (pc := 24) rfl 0 rfl C dX5_copyFrom_24 ?_
  refine g_aload_n (pc := 25) rfl 1 rfl C dX5_copyFrom_25 ?_
  refine g_getI (pc := 26) C fl_RX5_21 t1 rfl dX5_copyFrom_26 ?_
  refine g_putI (pc := 29) C fl_RX5_21 t0 rfl rfl rfl dX5_copyFrom_29 (fun h4 eh4 => ?_)
  have hD := hD h4 eh4
  refine g_aload_n (pc := 32) rfl 1 rfl C dX5_copyFrom_32 ?_
  have t5 : TA Y (r a1 4) 10 6 := wt_a hw t1 (by decide) (by decide) rfl
  refine g_getR (pc := 33) C fl_RX5_24 t1 rfl dX5_copyFrom_33 ?_
  refine g_iconst (pc := 36) (v := 0) (by decide) C dX5_copyFrom_36 ?_
  refine g_aload_n (pc := 37) rfl 0 rfl C dX5_copyFrom_37 ?_
  have t6 : TA Y (r o 4) 10 6 := wt_a hw t0 (by decide) (by decide) rfl
  refine g_getR (pc := 38) C fl_RX5_24 t0 rfl dX5_copyFrom_38 ?_
  refine g_iconst (pc := 41) (v := 0) (by decide) C dX5_copyFrom_41 ?_
  refine g_bipush (pc := 42) (v := 6) (by decide) C dX5_copyFrom_42 ?_
  refine g_copyi (pc := 44) C (by decide) lk_RX5_40 anat astat aini t5 t6 (by decide) (by decide) (by decide) (Nat.le_of_ble_eq_true rfl) dX5_copyFrom_44 (fun h7 eh7 => ?_)
  have hD := hD h7 eh7
  refine g_aload_n (pc := 47) rfl 1 rfl C dX5_copyFrom_47 ?_
  have t8 : TA Y (r a1 5) 10 6 := wt_a hw t1 (by decide) (by decide) rfl
  refine g_getR (pc := 48) C fl_RX5_28 t1 rfl dX5_copyFrom_48 ?_
  refine g_iconst (pc := 51) (v := 0) (by decide) C dX5_copyFrom_51 ?_
  refine g_aload_n (pc := 52) rfl 0 rfl C dX5_copyFrom_52 ?_
  have t9 : TA Y (r o 5) 10 6 := wt_a hw t0 (by decide) (by decide) rfl
  refine g_getR (pc := 53) C fl_RX5_28 t0 rfl dX5_copyFrom_53 ?_
  refine g_iconst (pc := 56) (v := 0) (by decide) C dX5_copyFrom_56 ?_
  refine g_bipush (pc := 57) (v := 6) (by decide) C dX5_copyFrom_57 ?_
  refine g_copyi (pc := 59) C (by decide) lk_RX5_40 anat astat aini t8 t9 (by decide) (by decide) (by decide) (Nat.le_of_ble_eq_true rfl) dX5_copyFrom_59 (fun h10 eh10 => ?_)
  have hD := hD h10 eh10
  refine g_aload_n (pc := 62) rfl 1 rfl C dX5_copyFrom_62 ?_
  have t11 : TA Y (r a1 6) 10 240 := wt_a hw t1 (by decide) (by decide) rfl
  refine g_getR (pc := 63) C fl_RX5_31 t1 rfl dX5_copyFrom_63 ?_
  refine g_iconst (pc := 66) (v := 0) (by decide) C dX5_copyFrom_66 ?_
  refine g_aload_n (pc := 67) rfl 0 rfl C dX5_copyFrom_67 ?_
  have t12 : TA Y (r o 6) 10 240 := wt_a hw t0 (by decide) (by decide) rfl
  refine g_getR (pc := 68) C fl_RX5_31 t0 rfl dX5_copyFrom_68 ?_
  refine g_iconst (pc := 71) (v := 0) (by decide) C dX5_copyFrom_71 ?_
  refine g_sipush (pc := 72) (v := 240) (by decide) C dX5_copyFrom_72 ?_
  refine g_copyi (pc := 75) C (by decide) lk_RX5_40 anat astat aini t11 t12 (by decide) (by decide) (by decide) (Nat.le_of_ble_eq_true rfl) dX5_copyFrom_75 (fun h13 eh13 => ?_)
  have hD := hD h13 eh13
  exact g_vret (pc := 78) C R dX5_copyFrom_78 hD
def D_Sc_areTogether (r : TR) (o : Nat) (a1 : Int32) (a2 : Int32) (h : TH) (Q : Int32 → TH → Prop) : Prop :=
  D_Sc_isSailing r o a1 h (fun x2 h1 => ((x2 = 0 → Q 0 h1) ∧ (¬ x2 = 0 → D_Sc_isSailing r o a2 h1 (fun x5 h4 => ((x5 = 0 → Q 0 h4) ∧ (¬ x5 = 0 → vp_in a1 6 ∧ vp_in a2 6 ∧ ((¬ (h4.1 (r o 4) a1.toNatClampNeg) = (h4.1 (r o 4) a2.toNatClampNeg) → Q 0 h4) ∧ ((h4.1 (r o 4) a1.toNatClampNeg) = (h4.1 (r o 4) a2.toNatClampNeg) → Q 1 h4))))))))
set_option maxRecDepth 100000 in
set_option maxHeartbeats 4000000 in
theorem M_Sc_areTogether {Y : CG} {r : TR} {l : Launch} {o : Nat} {a1 : Int32} {a2 : Int32} {h : TH} {Q : Int32 → TH → Prop} (t0 : TO Y o 5) (hD : D_Sc_areTogether r o a1 a2 h Q) : Mi Y r l yX5_areTogether cX5_areTogether 3 .boolean 2 [.ref o, .int a1, .int a2] h Q := by
  unfold D_Sc_areTogether at hD
  refine Mi.of RX5 rfl (by decide) (by simp [lg_sl, Value.category]) [(0, .ref o), (1, .int a1), (2, .int a2)] rfl (fun X hXl C R => ?_)
  subst hXl
  refine g_wt (fun hw => ?_)
  refine g_aload_n (pc := 0) rfl 0 rfl C dX5_areTogether_0 ?_
  refine g_iload_n (pc := 1) rfl 1 rfl C dX5_areTogether_1 ?_
  refine g_callVi (pc := 2) (As := [.int a1]) C mv_RX5_46 (M_Sc_isSailing t0 hD) t0 (by decide) rfl rfl (Nat.le_of_ble_eq_true rfl) dX5_areTogether_2 (fun x2 h1 hD => ?_)
  refine g_if_eq (pc := 5) 35 C dX5_areTogether_5 (by decide) (fun c3 => ?_) (fun c3 => ?_)
  · have hD := hD.1 c3
    refine g_iconst (pc := 35) (v := 0) (by decide) C dX5_areTogether_35 ?_
    exact g_zret (pc := 36) C R nz_0 dX5_areTogether_36 hD
  · have hD := hD.2 c3
    refine g_aload_n (pc := 8) rfl 0 rfl C dX5_areTogether_8 ?_
    refine g_iload_n (pc := 9) rfl 2 rfl C dX5_areTogether_9 ?_
    refine g_callVi (pc := 10) (As := [.int a2]) C mv_RX5_46 (M_Sc_isSailing t0 hD) t0 (by decide) rfl rfl (Nat.le_of_ble_eq_true rfl) dX5_areTogether_10 (fun x5 h4 hD => ?_)
    refine g_if_eq (pc := 13) 35 C dX5_areTogether_13 (by decide) (fun c6 => ?_) (fun c6 => ?_)
    · have hD := hD.1 c6
      refine g_iconst (pc := 35) (v := 0) (by decide) C dX5_areTogether_35 ?_
      exact g_zret (pc := 36) C R nz_0 dX5_areTogether_36 hD
    · have hD := hD.2 c6
      refine g_aload_n (pc := 16) rfl 0 rfl C dX5_areTogether_16 ?_
      have t7 : TA Y (r o 4) 10 6 := wt_a hw t0 (by decide) (by decide) rfl
      refine g_getR (pc := 17) C fl_RX5_24 t0 rfl dX5_areTogether_17 ?_
      refine g_iload_n (pc := 20) rfl 1 rfl C dX5_areTogether_20 ?_
      obtain ⟨hb, hD⟩ := hD
      refine g_iald (pc := 21) C t7 hb dX5_areTogether_21 ?_
      refine g_aload_n (pc := 22) rfl 0 rfl C dX5_areTogether_22 ?_
      have t8 : TA Y (r o 4) 10 6 := wt_a hw t0 (by decide) (by decide) rfl
      refine g_getR (pc := 23) C fl_RX5_24 t0 rfl dX5_areTogether_23 ?_
      refine g_iload_n (pc := 26) rfl 2 rfl C dX5_areTogether_26 ?_
      obtain ⟨hb, hD⟩ := hD
      refine g_iald (pc := 27) C t8 hb dX5_areTogether_27 ?_
      refine g_icmp_ne (pc := 28) 35 C dX5_areTogether_28 (by decide) (fun c9 => ?_) (fun c9 => ?_)
      · have hD := hD.1 c9
        refine g_iconst (pc := 35) (v := 0) (by decide) C dX5_areTogether_35 ?_
        exact g_zret (pc := 36) C R nz_0 dX5_areTogether_36 hD
      · have hD := hD.2 c9
        refine g_iconst (pc := 31) (v := 1) (by decide) C dX5_areTogether_31 ?_
        refine g_goto (pc := 32) 36 C dX5_areTogether_32 (by decide) ?_
        exact g_zret (pc := 36) C R nz_1 dX5_areTogether_36 hD
def D_Sc_arrivalOf (r : TR) (o : Nat) (a1 : Int32) (h : TH) (Q : Int32 → TH → Prop) : Prop :=
  D_Sc_isHome r o a1 h (fun x2 h1 => ((x2 = 0 → Q (-2) h1) ∧ (¬ x2 = 0 → vp_in a1 6 ∧ Q (h1.1 (r o 5) a1.toNatClampNeg) h1)))
set_option maxRecDepth 100000 in
set_option maxHeartbeats 4000000 in
theorem M_Sc_arrivalOf {Y : CG} {r : TR} {l : Launch} {o : Nat} {a1 : Int32} {h : TH} {Q : Int32 → TH → Prop} (t0 : TO Y o 5) (hD : D_Sc_arrivalOf r o a1 h Q) : Mi Y r l yX5_arrivalOf cX5_arrivalOf 2 .int 2 [.ref o, .int a1] h Q := by
  unfold D_Sc_arrivalOf at hD
  refine Mi.of RX5 rfl (by decide) (by simp [lg_sl, Value.category]) [(0, .ref o), (1, .int a1)] rfl (fun X hXl C R => ?_)
  subst hXl
  refine g_wt (fun hw => ?_)
  refine g_aload_n (pc := 0) rfl 0 rfl C dX5_arrivalOf_0 ?_
  refine g_iload_n (pc := 1) rfl 1 rfl C dX5_arrivalOf_1 ?_
  refine g_callVi (pc := 2) (As := [.int a1]) C mv_RX5_53 (M_Sc_isHome t0 hD) t0 (by decide) rfl rfl (Nat.le_of_ble_eq_true rfl) dX5_arrivalOf_2 (fun x2 h1 hD => ?_)
  refine g_if_eq (pc := 5) 17 C dX5_arrivalOf_5 (by decide) (fun c3 => ?_) (fun c3 => ?_)
  · have hD := hD.1 c3
    refine g_bipush (pc := 17) (v := (-2)) (by decide) C dX5_arrivalOf_17 ?_
    exact g_iret (pc := 19) C R dX5_arrivalOf_19 hD
  · have hD := hD.2 c3
    refine g_aload_n (pc := 8) rfl 0 rfl C dX5_arrivalOf_8 ?_
    have t4 : TA Y (r o 5) 10 6 := wt_a hw t0 (by decide) (by decide) rfl
    refine g_getR (pc := 9) C fl_RX5_28 t0 rfl dX5_arrivalOf_9 ?_
    refine g_iload_n (pc := 12) rfl 1 rfl C dX5_arrivalOf_12 ?_
    obtain ⟨hb, hD⟩ := hD
    refine g_iald (pc := 13) C t4 hb dX5_arrivalOf_13 ?_
    refine g_goto (pc := 14) 19 C dX5_arrivalOf_14 (by decide) ?_
    exact g_iret (pc := 19) C R dX5_arrivalOf_19 hD
def D_Sc_behindness (r : TR) (o : Nat) (a1 : Int32) (h : TH) (Q : Int32 → TH → Prop) : Prop :=
  D_Sc_isHome r o a1 h (fun x2 h1 => ((x2 = 0 → D_Sc_isLost r o a1 h1 (fun x5 h4 => ((x5 = 0 → D_Sc_eastOf r o a1 h4 (fun x8 h7 => Q ((10 * (8 - x8)) + a1) h7)) ∧ (¬ x5 = 0 → Q (1000 + a1) h4)))) ∧ (¬ x2 = 0 → vp_in a1 6 ∧ Q (h1.1 (r o 5) a1.toNatClampNeg) h1)))
set_option maxRecDepth 100000 in
set_option maxHeartbeats 4000000 in
theorem M_Sc_behindness {Y : CG} {r : TR} {l : Launch} {o : Nat} {a1 : Int32} {h : TH} {Q : Int32 → TH → Prop} (t0 : TO Y o 5) (hD : D_Sc_behindness r o a1 h Q) : Mi Y r l yX5_behindness cX5_behindness 2 .int 3 [.ref o, .int a1] h Q := by
  unfold D_Sc_behindness at hD
  refine Mi.of RX5 rfl (by decide) (by simp [lg_sl, Value.category]) [(0, .ref o), (1, .int a1)] rfl (fun X hXl C R => ?_)
  subst hXl
  refine g_wt (fun hw => ?_)
  refine g_aload_n (pc := 0) rfl 0 rfl C dX5_behindness_0 ?_
  refine g_iload_n (pc := 1) rfl 1 rfl C dX5_behindness_1 ?_
  refine g_callVi (pc := 2) (As := [.int a1]) C mv_RX5_53 (M_Sc_isHome t0 hD) t0 (by decide) rfl rfl (Nat.le_of_ble_eq_true rfl) dX5_behindness_2 (fun x2 h1 hD => ?_)
  refine g_if_eq (pc := 5) 15 C dX5_behindness_5 (by decide) (fun c3 => ?_) (fun c3 => ?_)
  · have hD := hD.1 c3
    refine g_aload_n (pc := 15) rfl 0 rfl C dX5_behindness_15 ?_
    refine g_iload_n (pc := 16) rfl 1 rfl C dX5_behindness_16 ?_
    refine g_callVi (pc := 17) (As := [.int a1]) C mv_RX5_50 (M_Sc_isLost t0 hD) t0 (by decide) rfl rfl (Nat.le_of_ble_eq_true rfl) dX5_behindness_17 (fun x5 h4 hD => ?_)
    refine g_if_eq (pc := 20) 29 C dX5_behindness_20 (by decide) (fun c6 => ?_) (fun c6 => ?_)
    · have hD := hD.1 c6
      refine g_bipush (pc := 29) (v := 10) (by decide) C dX5_behindness_29 ?_
      refine g_bipush (pc := 31) (v := 8) (by decide) C dX5_behindness_31 ?_
      refine g_aload_n (pc := 33) rfl 0 rfl C dX5_behindness_33 ?_
      refine g_iload_n (pc := 34) rfl 1 rfl C dX5_behindness_34 ?_
      refine g_callVi (pc := 35) (As := [.int a1]) C mv_RX5_69 (M_Sc_eastOf t0 hD) t0 (by decide) rfl rfl (Nat.le_of_ble_eq_true rfl) dX5_behindness_35 (fun x8 h7 hD => ?_)
      refine g_isub (pc := 38) C dX5_behindness_38 ?_
      refine g_imul (pc := 39) C dX5_behindness_39 ?_
      refine g_iload_n (pc := 40) rfl 1 rfl C dX5_behindness_40 ?_
      refine g_iadd (pc := 41) C dX5_behindness_41 ?_
      exact g_iret (pc := 42) C R dX5_behindness_42 hD
    · have hD := hD.2 c6
      refine g_sipush (pc := 23) (v := 1000) (by decide) C dX5_behindness_23 ?_
      refine g_iload_n (pc := 26) rfl 1 rfl C dX5_behindness_26 ?_
      refine g_iadd (pc := 27) C dX5_behindness_27 ?_
      exact g_iret (pc := 28) C R dX5_behindness_28 hD
  · have hD := hD.2 c3
    refine g_aload_n (pc := 8) rfl 0 rfl C dX5_behindness_8 ?_
    have t9 : TA Y (r o 5) 10 6 := wt_a hw t0 (by decide) (by decide) rfl
    refine g_getR (pc := 9) C fl_RX5_28 t0 rfl dX5_behindness_9 ?_
    refine g_iload_n (pc := 12) rfl 1 rfl C dX5_behindness_12 ?_
    obtain ⟨hb, hD⟩ := hD
    refine g_iald (pc := 13) C t9 hb dX5_behindness_13 ?_
    exact g_iret (pc := 14) C R dX5_behindness_14 hD
def DB_Sc_rankOf_5 (r : TR) (l0 : Nat) (l1 : Int32) (l2 : Int32) (l3 : Int32) (l4 : Int32) (h : TH) (K5 : Int32 → Int32 → TH → Prop) (K34 : Int32 → TH → Prop) (Q : Int32 → TH → Prop) : Prop :=
  ((l2 ≤ l4 → K34 l3 h) ∧ (¬ l2 ≤ l4 → D_Sc_behindness r l0 l4 h (fun x5 h4 => D_Sc_behindness r l0 l1 h4 (fun x7 h6 => ((x7 ≤ x5 → ∀ x9, x9 = l4 + 1 → K5 l3 x9 h6) ∧ (¬ x7 ≤ x5 → ∀ x10, x10 = l3 + 1 → ∀ x11, x11 = l4 + 1 → K5 x10 x11 h6))))))
set_option maxRecDepth 100000 in
set_option maxHeartbeats 4000000 in
theorem WB_Sc_rankOf_5 {Y : CG} {X : CX} {r : TR} {l0 : Nat} {l1 : Int32} {l2 : Int32} {l3 : Int32} {l4 : Int32} {h : TH} {K5 : Int32 → Int32 → TH → Prop} {K34 : Int32 → TH → Prop} {Q : Int32 → TH → Prop} (C : Gd Y X cX5_rankOf 5 RX5 4) (R : Ri Y r X .int Q) (t0 : TO Y l0 5) (hK5 : ∀ (k3 : Int32) (k4 : Int32) (hh : TH), K5 k3 k4 hh → G Y X 5 5 [(0, .ref l0), (1, .int l1), (2, .int l2), (3, .int k3), (4, .int k4)] [] r hh) (hK34 : ∀ (k3 : Int32) (hh : TH), K34 k3 hh → G Y X 5 34 [(3, .int k3)] [] r hh) (hD : DB_Sc_rankOf_5 r l0 l1 l2 l3 l4 h K5 K34 Q) : G Y X 5 5 [(0, .ref l0), (1, .int l1), (2, .int l2), (3, .int l3), (4, .int l4)] [] r h := by
  unfold DB_Sc_rankOf_5 at hD
  refine g_wt (fun hw => ?_)
  refine g_iload (pc := 5) 4 rfl C dX5_rankOf_5 ?_
  refine g_iload_n (pc := 7) rfl 2 rfl C dX5_rankOf_7 ?_
  refine g_icmp_ge (pc := 8) 34 C dX5_rankOf_8 (by decide) (fun c3 => ?_) (fun c3 => ?_)
  · have hD := hD.1 c3
    refine g_sub [3] rfl ?_
    exact hK34 l3 h hD
  · have hD := hD.2 c3
    refine g_aload_n (pc := 11) rfl 0 rfl C dX5_rankOf_11 ?_
    refine g_iload (pc := 12) 4 rfl C dX5_rankOf_12 ?_
    refine g_callVi (pc := 14) (As := [.int l4]) C mv_RX5_62 (M_Sc_behindness t0 hD) t0 (by decide) rfl rfl (Nat.le_of_ble_eq_true rfl) dX5_rankOf_14 (fun x5 h4 hD => ?_)
    refine g_aload_n (pc := 17) rfl 0 rfl C dX5_rankOf_17 ?_
    refine g_iload_n (pc := 18) rfl 1 rfl C dX5_rankOf_18 ?_
    refine g_callVi (pc := 19) (As := [.int l1]) C mv_RX5_62 (M_Sc_behindness t0 hD) t0 (by decide) rfl rfl (Nat.le_of_ble_eq_true rfl) dX5_rankOf_19 (fun x7 h6 hD => ?_)
    refine g_icmp_ge (pc := 22) 28 C dX5_rankOf_22 (by decide) (fun c8 => ?_) (fun c8 => ?_)
    · have hD := hD.1 c8
      refine g_iinc (pc := 28) (q := 4) (c := 1) (fun x9 => [(4, .int x9), (0, .ref l0), (1, .int l1), (2, .int l2), (3, .int l3)]) C dX5_rankOf_28 rfl (by decide) (by decide) rfl (fun x9 ex9 => ?_)
      have hD := hD x9 ex9
      refine g_goto (pc := 31) 5 C dX5_rankOf_31 (by decide) ?_
      refine g_sub [1, 2, 3, 4, 0] rfl ?_
      exact hK5 l3 x9 h6 hD
    · have hD := hD.2 c8
      refine g_iinc (pc := 25) (q := 3) (c := 1) (fun x10 => [(3, .int x10), (0, .ref l0), (1, .int l1), (2, .int l2), (4, .int l4)]) C dX5_rankOf_25 rfl (by decide) (by decide) rfl (fun x10 ex10 => ?_)
      have hD := hD x10 ex10
      refine g_iinc (pc := 28) (q := 4) (c := 1) (fun x11 => [(4, .int x11), (3, .int x10), (0, .ref l0), (1, .int l1), (2, .int l2)]) C dX5_rankOf_28 rfl (by decide) (by decide) rfl (fun x11 ex11 => ?_)
      have hD := hD x11 ex11
      refine g_goto (pc := 31) 5 C dX5_rankOf_31 (by decide) ?_
      refine g_sub [2, 3, 4, 1, 0] rfl ?_
      exact hK5 x10 x11 h6 hD
def D_Sc_rankOf (r : TR) (o : Nat) (a1 : Int32) (a2 : Int32) (h : TH) (Q : Int32 → TH → Prop) : Prop :=
  ∃ n, lp (fun (K : Int32 × Int32 × TH → Prop) (s : Int32 × Int32 × TH) => DB_Sc_rankOf_5 r o a1 a2 s.1 s.2.1 s.2.2 (fun y12 y13 h14 => K (y12, y13, h14)) (fun x15 h16 => Q x15 h16) Q) n (0, 0, h)
set_option maxRecDepth 100000 in
set_option maxHeartbeats 4000000 in
theorem M_Sc_rankOf {Y : CG} {r : TR} {l : Launch} {o : Nat} {a1 : Int32} {a2 : Int32} {h : TH} {Q : Int32 → TH → Prop} (t0 : TO Y o 5) (hD : D_Sc_rankOf r o a1 a2 h Q) : Mi Y r l yX5_rankOf cX5_rankOf 5 .int 4 [.ref o, .int a1, .int a2] h Q := by
  unfold D_Sc_rankOf at hD
  refine Mi.of RX5 rfl (by decide) (by simp [lg_sl, Value.category]) [(0, .ref o), (1, .int a1), (2, .int a2)] rfl (fun X hXl C R => ?_)
  subst hXl
  refine g_wt (fun hw => ?_)
  refine g_iconst (pc := 0) (v := 0) (by decide) C dX5_rankOf_0 ?_
  refine g_istore_n (pc := 1) (fun _ => [(3, .int 0), (0, .ref o), (1, .int a1), (2, .int a2)]) C dX5_rankOf_1 rfl (by decide) rfl (fun _ _ => ?_)
  refine g_iconst (pc := 2) (v := 0) (by decide) C dX5_rankOf_2 ?_
  refine g_istore (pc := 3) (fun _ => [(4, .int 0), (3, .int 0), (0, .ref o), (1, .int a1), (2, .int a2)]) C dX5_rankOf_3 (by decide) rfl (fun _ _ => ?_)
  obtain ⟨n, hD⟩ := hD
  refine g_sub [2, 3, 4, 1, 0] rfl ?_
  refine lp_run (fun s : Int32 × Int32 × TH => G Y X 5 5 [(0, .ref o), (1, .int a1), (2, .int a2), (3, .int s.1), (4, .int s.2.1)] [] r s.2.2) (fun K s hB hK => ?_) n (0, 0, h) hD
  refine WB_Sc_rankOf_5 C R t0 (fun y12 y13 h14 hk => hK _ hk) (fun x15 h16 hD => ?_) hB
  · refine g_iload_n (pc := 34) rfl 0 rfl C dX5_rankOf_34 ?_
    exact g_iret (pc := 35) C R dX5_rankOf_35 hD
def DB_Sc_boatRanked_2 (r : TR) (l0 : Nat) (l1 : Int32) (l2 : Int32) (l3 : Int32) (h : TH) (K2 : Int32 → TH → Prop) (K25 : TH → Prop) (Q : Int32 → TH → Prop) : Prop :=
  ((l2 ≤ l3 → K25 h) ∧ (¬ l2 ≤ l3 → D_Sc_rankOf r l0 l3 l2 h (fun x4 h3 => ((¬ x4 = l1 → ∀ x6, x6 = l3 + 1 → K2 x6 h3) ∧ (x4 = l1 → Q l3 h3)))))
set_option maxRecDepth 100000 in
set_option maxHeartbeats 4000000 in
theorem WB_Sc_boatRanked_2 {Y : CG} {X : CX} {r : TR} {l0 : Nat} {l1 : Int32} {l2 : Int32} {l3 : Int32} {h : TH} {K2 : Int32 → TH → Prop} {K25 : TH → Prop} {Q : Int32 → TH → Prop} (C : Gd Y X cX5_boatRanked 4 RX5 5) (R : Ri Y r X .int Q) (t0 : TO Y l0 5) (hK2 : ∀ (k3 : Int32) (hh : TH), K2 k3 hh → G Y X 4 2 [(0, .ref l0), (1, .int l1), (2, .int l2), (3, .int k3)] [] r hh) (hK25 : ∀ (hh : TH), K25 hh → G Y X 4 25 [] [] r hh) (hD : DB_Sc_boatRanked_2 r l0 l1 l2 l3 h K2 K25 Q) : G Y X 4 2 [(0, .ref l0), (1, .int l1), (2, .int l2), (3, .int l3)] [] r h := by
  unfold DB_Sc_boatRanked_2 at hD
  refine g_wt (fun hw => ?_)
  refine g_iload_n (pc := 2) rfl 3 rfl C dX5_boatRanked_2 ?_
  refine g_iload_n (pc := 3) rfl 2 rfl C dX5_boatRanked_3 ?_
  refine g_icmp_ge (pc := 4) 25 C dX5_boatRanked_4 (by decide) (fun c2 => ?_) (fun c2 => ?_)
  · have hD := hD.1 c2
    refine g_sub [] rfl ?_
    exact hK25 h hD
  · have hD := hD.2 c2
    refine g_aload_n (pc := 7) rfl 0 rfl C dX5_boatRanked_7 ?_
    refine g_iload_n (pc := 8) rfl 3 rfl C dX5_boatRanked_8 ?_
    refine g_iload_n (pc := 9) rfl 2 rfl C dX5_boatRanked_9 ?_
    refine g_callVi (pc := 10) (As := [.int l3, .int l2]) C mv_RX5_65 (M_Sc_rankOf t0 hD) t0 (by decide) rfl rfl (Nat.le_of_ble_eq_true rfl) dX5_boatRanked_10 (fun x4 h3 hD => ?_)
    refine g_iload_n (pc := 13) rfl 1 rfl C dX5_boatRanked_13 ?_
    refine g_icmp_ne (pc := 14) 19 C dX5_boatRanked_14 (by decide) (fun c5 => ?_) (fun c5 => ?_)
    · have hD := hD.1 c5
      refine g_iinc (pc := 19) (q := 3) (c := 1) (fun x6 => [(3, .int x6), (0, .ref l0), (1, .int l1), (2, .int l2)]) C dX5_boatRanked_19 rfl (by decide) (by decide) rfl (fun x6 ex6 => ?_)
      have hD := hD x6 ex6
      refine g_goto (pc := 22) 2 C dX5_boatRanked_22 (by decide) ?_
      refine g_sub [1, 2, 3, 0] rfl ?_
      exact hK2 x6 h3 hD
    · have hD := hD.2 c5
      refine g_iload_n (pc := 17) rfl 3 rfl C dX5_boatRanked_17 ?_
      exact g_iret (pc := 18) C R dX5_boatRanked_18 hD
def D_Sc_boatRanked (r : TR) (o : Nat) (a1 : Int32) (a2 : Int32) (h : TH) (Q : Int32 → TH → Prop) : Prop :=
  ∃ n, lp (fun (K : Int32 × TH → Prop) (s : Int32 × TH) => DB_Sc_boatRanked_2 r o a1 a2 s.1 s.2 (fun y7 h8 => K (y7, h8)) (fun h9 => Q (-1) h9) Q) n (0, h)
set_option maxRecDepth 100000 in
set_option maxHeartbeats 4000000 in
theorem M_Sc_boatRanked {Y : CG} {r : TR} {l : Launch} {o : Nat} {a1 : Int32} {a2 : Int32} {h : TH} {Q : Int32 → TH → Prop} (t0 : TO Y o 5) (hD : D_Sc_boatRanked r o a1 a2 h Q) : Mi Y r l yX5_boatRanked cX5_boatRanked 4 .int 5 [.ref o, .int a1, .int a2] h Q := by
  unfold D_Sc_boatRanked at hD
  refine Mi.of RX5 rfl (by decide) (by simp [lg_sl, Value.category]) [(0, .ref o), (1, .int a1), (2, .int a2)] rfl (fun X hXl C R => ?_)
  subst hXl
  refine g_wt (fun hw => ?_)
  refine g_iconst (pc := 0) (v := 0) (by decide) C dX5_boatRanked_0 ?_
  refine g_istore_n (pc := 1) (fun _ => [(3, .int 0), (0, .ref o), (1, .int a1), (2, .int a2)]) C dX5_boatRanked_1 rfl (by decide) rfl (fun _ _ => ?_)
  obtain ⟨n, hD⟩ := hD
  refine g_sub [1, 2, 3, 0] rfl ?_
  refine lp_run (fun s : Int32 × TH => G Y X 4 2 [(0, .ref o), (1, .int a1), (2, .int a2), (3, .int s.1)] [] r s.2) (fun K s hB hK => ?_) n (0, h) hD
  refine WB_Sc_boatRanked_2 C R t0 (fun y7 h8 hk => hK _ hk) (fun h9 hD => ?_) hB
  · refine g_iconst (pc := 25) (v := (-1)) (by decide) C dX5_boatRanked_25 ?_
    exact g_iret (pc := 26) C R dX5_boatRanked_26 hD
def DB_Sc_dishesIn_5 (r : TR) (l0 : Nat) (l1 : Int32) (l2 : Int32) (l3 : Int32) (l4 : Int32) (h : TH) (K5 : Int32 → Int32 → TH → Prop) (K38 : Int32 → TH → Prop) (Q : Int32 → TH → Prop) : Prop :=
  ((l2 ≤ l4 → K38 l3 h) ∧ (¬ l2 ≤ l4 → D_Sc_lies r l0 ((40 * l4) + l1) h (fun x5 h4 => ((x5 = 0 → ∀ x7, x7 = l4 + 1 → K5 l3 x7 h4) ∧ (¬ x5 = 0 → ∀ x8, x8 = l3 ||| (1 <<< (l4 &&& 31)) → ∀ x9, x9 = l4 + 1 → K5 x8 x9 h4)))))
set_option maxRecDepth 100000 in
set_option maxHeartbeats 4000000 in
theorem WB_Sc_dishesIn_5 {Y : CG} {X : CX} {r : TR} {l0 : Nat} {l1 : Int32} {l2 : Int32} {l3 : Int32} {l4 : Int32} {h : TH} {K5 : Int32 → Int32 → TH → Prop} {K38 : Int32 → TH → Prop} {Q : Int32 → TH → Prop} (C : Gd Y X cX5_dishesIn 5 RX5 3) (R : Ri Y r X .int Q) (t0 : TO Y l0 5) (hK5 : ∀ (k3 : Int32) (k4 : Int32) (hh : TH), K5 k3 k4 hh → G Y X 5 5 [(0, .ref l0), (1, .int l1), (2, .int l2), (3, .int k3), (4, .int k4)] [] r hh) (hK38 : ∀ (k3 : Int32) (hh : TH), K38 k3 hh → G Y X 5 38 [(3, .int k3)] [] r hh) (hD : DB_Sc_dishesIn_5 r l0 l1 l2 l3 l4 h K5 K38 Q) : G Y X 5 5 [(0, .ref l0), (1, .int l1), (2, .int l2), (3, .int l3), (4, .int l4)] [] r h := by
  unfold DB_Sc_dishesIn_5 at hD
  refine g_wt (fun hw => ?_)
  refine g_iload (pc := 5) 4 rfl C dX5_dishesIn_5 ?_
  refine g_iload_n (pc := 7) rfl 2 rfl C dX5_dishesIn_7 ?_
  refine g_icmp_ge (pc := 8) 38 C dX5_dishesIn_8 (by decide) (fun c3 => ?_) (fun c3 => ?_)
  · have hD := hD.1 c3
    refine g_sub [3] rfl ?_
    exact hK38 l3 h hD
  · have hD := hD.2 c3
    refine g_aload_n (pc := 11) rfl 0 rfl C dX5_dishesIn_11 ?_
    refine g_bipush (pc := 12) (v := 40) (by decide) C dX5_dishesIn_12 ?_
    refine g_iload (pc := 14) 4 rfl C dX5_dishesIn_14 ?_
    refine g_imul (pc := 16) C dX5_dishesIn_16 ?_
    refine g_iload_n (pc := 17) rfl 1 rfl C dX5_dishesIn_17 ?_
    refine g_iadd (pc := 18) C dX5_dishesIn_18 ?_
    refine g_callVi (pc := 19) (As := [.int ((40 * l4) + l1)]) C mv_RX5_78 (M_Sc_lies t0 hD) t0 (by decide) rfl rfl (Nat.le_of_ble_eq_true rfl) dX5_dishesIn_19 (fun x5 h4 hD => ?_)
    refine g_if_eq (pc := 22) 32 C dX5_dishesIn_22 (by decide) (fun c6 => ?_) (fun c6 => ?_)
    · have hD := hD.1 c6
      refine g_iinc (pc := 32) (q := 4) (c := 1) (fun x7 => [(4, .int x7), (0, .ref l0), (1, .int l1), (2, .int l2), (3, .int l3)]) C dX5_dishesIn_32 rfl (by decide) (by decide) rfl (fun x7 ex7 => ?_)
      have hD := hD x7 ex7
      refine g_goto (pc := 35) 5 C dX5_dishesIn_35 (by decide) ?_
      refine g_sub [1, 2, 3, 4, 0] rfl ?_
      exact hK5 l3 x7 h4 hD
    · have hD := hD.2 c6
      refine g_iload_n (pc := 25) rfl 3 rfl C dX5_dishesIn_25 ?_
      refine g_iconst (pc := 26) (v := 1) (by decide) C dX5_dishesIn_26 ?_
      refine g_iload (pc := 27) 4 rfl C dX5_dishesIn_27 ?_
      refine g_ishl (pc := 29) C dX5_dishesIn_29 ?_
      refine g_ior (pc := 30) C dX5_dishesIn_30 ?_
      refine g_istore_n (pc := 31) (fun x8 => [(3, .int x8), (0, .ref l0), (1, .int l1), (2, .int l2), (4, .int l4)]) C dX5_dishesIn_31 rfl (by decide) rfl (fun x8 ex8 => ?_)
      have hD := hD x8 ex8
      refine g_iinc (pc := 32) (q := 4) (c := 1) (fun x9 => [(4, .int x9), (3, .int x8), (0, .ref l0), (1, .int l1), (2, .int l2)]) C dX5_dishesIn_32 rfl (by decide) (by decide) rfl (fun x9 ex9 => ?_)
      have hD := hD x9 ex9
      refine g_goto (pc := 35) 5 C dX5_dishesIn_35 (by decide) ?_
      refine g_sub [2, 3, 4, 1, 0] rfl ?_
      exact hK5 x8 x9 h4 hD
def D_Sc_dishesIn (r : TR) (o : Nat) (a1 : Int32) (a2 : Int32) (h : TH) (Q : Int32 → TH → Prop) : Prop :=
  ∃ n, lp (fun (K : Int32 × Int32 × TH → Prop) (s : Int32 × Int32 × TH) => DB_Sc_dishesIn_5 r o a1 a2 s.1 s.2.1 s.2.2 (fun y10 y11 h12 => K (y10, y11, h12)) (fun x13 h14 => Q x13 h14) Q) n (0, 0, h)
set_option maxRecDepth 100000 in
set_option maxHeartbeats 4000000 in
theorem M_Sc_dishesIn {Y : CG} {r : TR} {l : Launch} {o : Nat} {a1 : Int32} {a2 : Int32} {h : TH} {Q : Int32 → TH → Prop} (t0 : TO Y o 5) (hD : D_Sc_dishesIn r o a1 a2 h Q) : Mi Y r l yX5_dishesIn cX5_dishesIn 5 .int 3 [.ref o, .int a1, .int a2] h Q := by
  unfold D_Sc_dishesIn at hD
  refine Mi.of RX5 rfl (by decide) (by simp [lg_sl, Value.category]) [(0, .ref o), (1, .int a1), (2, .int a2)] rfl (fun X hXl C R => ?_)
  subst hXl
  refine g_wt (fun hw => ?_)
  refine g_iconst (pc := 0) (v := 0) (by decide) C dX5_dishesIn_0 ?_
  refine g_istore_n (pc := 1) (fun _ => [(3, .int 0), (0, .ref o), (1, .int a1), (2, .int a2)]) C dX5_dishesIn_1 rfl (by decide) rfl (fun _ _ => ?_)
  refine g_iconst (pc := 2) (v := 0) (by decide) C dX5_dishesIn_2 ?_
  refine g_istore (pc := 3) (fun _ => [(4, .int 0), (3, .int 0), (0, .ref o), (1, .int a1), (2, .int a2)]) C dX5_dishesIn_3 (by decide) rfl (fun _ _ => ?_)
  obtain ⟨n, hD⟩ := hD
  refine g_sub [2, 3, 4, 1, 0] rfl ?_
  refine lp_run (fun s : Int32 × Int32 × TH => G Y X 5 5 [(0, .ref o), (1, .int a1), (2, .int a2), (3, .int s.1), (4, .int s.2.1)] [] r s.2.2) (fun K s hB hK => ?_) n (0, 0, h) hD
  refine WB_Sc_dishesIn_5 C R t0 (fun y10 y11 h12 hk => hK _ hk) (fun x13 h14 hD => ?_) hB
  · refine g_iload_n (pc := 38) rfl 0 rfl C dX5_dishesIn_38 ?_
    exact g_iret (pc := 39) C R dX5_dishesIn_39 hD
def D_JL_bitCount (r : TR) (a0 : Int64) (h : TH) (Q : Int32 → TH → Prop) : Prop :=
  ∀ x1, x1 = a0 - ((jushrl a0 1) &&& 6148914691236517205) → ∀ x2, x2 = (x1 &&& 3689348814741910323) + ((jushrl x1 2) &&& 3689348814741910323) → ∀ x3, x3 = (x2 + (jushrl x2 4)) &&& 1085102592571150095 → ∀ x4, x4 = x3 + (jushrl x3 8) → ∀ x5, x5 = x4 + (jushrl x4 16) → ∀ x6, x6 = x5 + (jushrl x5 32) → Q (x6.toInt32 &&& 127) h
set_option maxRecDepth 100000 in
set_option maxHeartbeats 4000000 in
theorem M_JL_bitCount {Y : CG} {r : TR} {l : Launch} {a0 : Int64} {h : TH} {Q : Int32 → TH → Prop} (hD : D_JL_bitCount r a0 h Q) : Mi Y r l yJ13_bitCount_95d88 cJ13_bitCount_95d88 2 .int 1 [.long a0] h Q := by
  unfold D_JL_bitCount at hD
  refine Mi.of RJ13 rfl (by decide) (by simp [lg_sl, Value.category]) [(0, .long a0)] rfl (fun X hXl C R => ?_)
  subst hXl
  refine g_wt (fun hw => ?_)
  refine g_lload_n (pc := 0) rfl 0 rfl C dJ13_bitCount_95d88_0 ?_
  refine g_lload_n (pc := 1) rfl 0 rfl C dJ13_bitCount_95d88_1 ?_
  refine g_iconst (pc := 2) (v := 1) (by decide) C dJ13_bitCount_95d88_2 ?_
  refine g_lushr (pc := 3) C dJ13_bitCount_95d88_3 ?_
  refine g_ldc2 (pc := 4) cn_RJ13_314 C dJ13_bitCount_95d88_4 ?_
  refine g_land (pc := 7) C dJ13_bitCount_95d88_7 ?_
  refine g_lsub (pc := 8) C dJ13_bitCount_95d88_8 ?_
  refine g_lstore_n (pc := 9) (fun x1 => [(0, .long x1)]) C dJ13_bitCount_95d88_9 rfl (by decide) rfl (fun x1 ex1 => ?_)
  have hD := hD x1 ex1
  refine g_lload_n (pc := 10) rfl 0 rfl C dJ13_bitCount_95d88_10 ?_
  refine g_ldc2 (pc := 11) cn_RJ13_316 C dJ13_bitCount_95d88_11 ?_
  refine g_land (pc := 14) C dJ13_bitCount_95d88_14 ?_
  refine g_lload_n (pc := 15) rfl 0 rfl C dJ13_bitCount_95d88_15 ?_
  refine g_iconst (pc := 16) (v := 2) (by decide) C dJ13_bitCount_95d88_16 ?_
  refine g_lushr (pc := 17) C dJ13_bitCount_95d88_17 ?_
  refine g_ldc2 (pc := 18) cn_RJ13_316 C dJ13_bitCount_95d88_18 ?_
  refine g_land (pc := 21) C dJ13_bitCount_95d88_21 ?_
  refine g_ladd (pc := 22) C dJ13_bitCount_95d88_22 ?_
  refine g_lstore_n (pc := 23) (fun x2 => [(0, .long x2)]) C dJ13_bitCount_95d88_23 rfl (by decide) rfl (fun x2 ex2 => ?_)
  have hD := hD x2 ex2
  refine g_lload_n (pc := 24) rfl 0 rfl C dJ13_bitCount_95d88_24 ?_
  refine g_lload_n (pc := 25) rfl 0 rfl C dJ13_bitCount_95d88_25 ?_
  refine g_iconst (pc := 26) (v := 4) (by decide) C dJ13_bitCount_95d88_26 ?_
  refine g_lushr (pc := 27) C dJ13_bitCount_95d88_27 ?_
  refine g_ladd (pc := 28) C dJ13_bitCount_95d88_28 ?_
  refine g_ldc2 (pc := 29) cn_RJ13_318 C dJ13_bitCount_95d88_29 ?_
  refine g_land (pc := 32) C dJ13_bitCount_95d88_32 ?_
  refine g_lstore_n (pc := 33) (fun x3 => [(0, .long x3)]) C dJ13_bitCount_95d88_33 rfl (by decide) rfl (fun x3 ex3 => ?_)
  have hD := hD x3 ex3
  refine g_lload_n (pc := 34) rfl 0 rfl C dJ13_bitCount_95d88_34 ?_
  refine g_lload_n (pc := 35) rfl 0 rfl C dJ13_bitCount_95d88_35 ?_
  refine g_bipush (pc := 36) (v := 8) (by decide) C dJ13_bitCount_95d88_36 ?_
  refine g_lushr (pc := 38) C dJ13_bitCount_95d88_38 ?_
  refine g_ladd (pc := 39) C dJ13_bitCount_95d88_39 ?_
  refine g_lstore_n (pc := 40) (fun x4 => [(0, .long x4)]) C dJ13_bitCount_95d88_40 rfl (by decide) rfl (fun x4 ex4 => ?_)
  have hD := hD x4 ex4
  refine g_lload_n (pc := 41) rfl 0 rfl C dJ13_bitCount_95d88_41 ?_
  refine g_lload_n (pc := 42) rfl 0 rfl C dJ13_bitCount_95d88_42 ?_
  refine g_bipush (pc := 43) (v := 16) (by decide) C dJ13_bitCount_95d88_43 ?_
  refine g_lushr (pc := 45) C dJ13_bitCount_95d88_45 ?_
  refine g_ladd (pc := 46) C dJ13_bitCount_95d88_46 ?_
  refine g_lstore_n (pc := 47) (fun x5 => [(0, .long x5)]) C dJ13_bitCount_95d88_47 rfl (by decide) rfl (fun x5 ex5 => ?_)
  have hD := hD x5 ex5
  refine g_lload_n (pc := 48) rfl 0 rfl C dJ13_bitCount_95d88_48 ?_
  refine g_lload_n (pc := 49) rfl 0 rfl C dJ13_bitCount_95d88_49 ?_
  refine g_bipush (pc := 50) (v := 32) (by decide) C dJ13_bitCount_95d88_50 ?_
  refine g_lushr (pc := 52) C dJ13_bitCount_95d88_52 ?_
  refine g_ladd (pc := 53) C dJ13_bitCount_95d88_53 ?_
  refine g_lstore_n (pc := 54) (fun x6 => [(0, .long x6)]) C dJ13_bitCount_95d88_54 rfl (by decide) rfl (fun x6 ex6 => ?_)
  have hD := hD x6 ex6
  refine g_lload_n (pc := 55) rfl 0 rfl C dJ13_bitCount_95d88_55 ?_
  refine g_l2i (pc := 56) C dJ13_bitCount_95d88_56 ?_
  refine g_bipush (pc := 57) (v := 127) (by decide) C dJ13_bitCount_95d88_57 ?_
  refine g_iand (pc := 59) C dJ13_bitCount_95d88_59 ?_
  exact g_iret (pc := 60) C R dJ13_bitCount_95d88_60 hD
