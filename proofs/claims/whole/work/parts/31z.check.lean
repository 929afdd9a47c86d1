theorem ms_RJ0_1059 : MS RJ0 1059 yJ3_checkIndex_8e157 cJ3_checkIndex_8e157 3 (some .int) 3 := ⟨gd_cons (lg_at 506 (by decide +kernel) rfl) (gd_cons (lg_at 507 (by decide +kernel) rfl) (gd_cons (lg_at 121 (by decide +kernel) rfl) (gd_cons (lg_at 508 (by decide +kernel) rfl) gd_tbl))), by decide +kernel, by decide⟩
theorem fs_RJ0_1053 : Cond.fieldLink RJ0 1053 "jdk/internal/util/Preconditions" "SIOOBE_FORMATTER" "Ljava/util/function/BiFunction;" ∈ lg_tbl := lg_at 504 (by decide +kernel) rfl
theorem dJ0_checkIndex_df160_0 : decode cJ0_checkIndex_df160 0 = .ok (.iload_n 0, 1) := by decide +kernel
theorem dJ0_checkIndex_df160_1 : decode cJ0_checkIndex_df160 1 = .ok (.iload_n 1, 1) := by decide +kernel
theorem dJ0_checkIndex_df160_2 : decode cJ0_checkIndex_df160 2 = .ok (.getstatic 1053, 3) := by decide +kernel
theorem dJ0_checkIndex_df160_5 : decode cJ0_checkIndex_df160 5 = .ok (.invokestatic 1059, 3) := by decide +kernel
theorem dJ0_checkIndex_df160_8 : decode cJ0_checkIndex_df160 8 = .ok (.pop, 1) := by decide +kernel
theorem dJ0_checkIndex_df160_9 : decode cJ0_checkIndex_df160 9 = .ok (.return_, 1) := by decide +kernel
theorem dJ3_checkIndex_8e157_0 : decode cJ3_checkIndex_8e157 0 = .ok (.iload_n 0, 1) := by decide +kernel
theorem dJ3_checkIndex_8e157_1 : decode cJ3_checkIndex_8e157 1 = .ok (.ifCond .lt 8, 3) := by decide +kernel
theorem dJ3_checkIndex_8e157_4 : decode cJ3_checkIndex_8e157 4 = .ok (.iload_n 0, 1) := by decide +kernel
theorem dJ3_checkIndex_8e157_5 : decode cJ3_checkIndex_8e157 5 = .ok (.iload_n 1, 1) := by decide +kernel
theorem dJ3_checkIndex_8e157_6 : decode cJ3_checkIndex_8e157 6 = .ok (.if_icmp .lt 10, 3) := by decide +kernel
theorem dJ3_checkIndex_8e157_9 : decode cJ3_checkIndex_8e157 9 = .ok (.aload_n 2, 1) := by decide +kernel
theorem dJ3_checkIndex_8e157_10 : decode cJ3_checkIndex_8e157 10 = .ok (.iload_n 0, 1) := by decide +kernel
theorem dJ3_checkIndex_8e157_11 : decode cJ3_checkIndex_8e157 11 = .ok (.iload_n 1, 1) := by decide +kernel
theorem dJ3_checkIndex_8e157_12 : decode cJ3_checkIndex_8e157 12 = .ok (.invokestatic 95, 3) := by decide +kernel
theorem dJ3_checkIndex_8e157_15 : decode cJ3_checkIndex_8e157 15 = .ok (.athrow, 1) := by decide +kernel
theorem dJ3_checkIndex_8e157_16 : decode cJ3_checkIndex_8e157 16 = .ok (.iload_n 0, 1) := by decide +kernel
theorem dJ3_checkIndex_8e157_17 : decode cJ3_checkIndex_8e157 17 = .ok (.ireturn, 1) := by decide +kernel
theorem M_Pc_checkIndex {Y : CG} {r : TR} {l : Launch} {a0 a1 : Int32} {v : Value} (hv : v = .null ∨ ∃ t, v = .ref t) {h : TH} {Q : Int32 → TH → Prop} (h0 : ¬ a0 < 0) (h1 : a0 < a1) (hQ : Q a0 h) : Mi Y r l yJ3_checkIndex_8e157 cJ3_checkIndex_8e157 3 .int 1 [.int a0, .int a1, v] h Q := by
  refine Mi.of RJ3 rfl (by decide) (by rcases hv with rfl | ⟨t, rfl⟩ <;> simp [lg_sl, Value.category]) [(0, .int a0), (1, .int a1), (2, v)] rfl (fun X hXl C R => ?_)
  refine g_iload_n (pc := 0) rfl 0 rfl C dJ3_checkIndex_8e157_0 ?_
  refine g_if_lt (pc := 1) 9 C dJ3_checkIndex_8e157_1 (by decide) (fun c1 => absurd c1 h0) (fun c1 => ?_)
  refine g_iload_n (pc := 4) rfl 0 rfl C dJ3_checkIndex_8e157_4 ?_
  refine g_iload_n (pc := 5) rfl 1 rfl C dJ3_checkIndex_8e157_5 ?_
  refine g_icmp_lt (pc := 6) 16 C dJ3_checkIndex_8e157_6 (by decide) (fun c2 => ?_) (fun c2 => absurd h1 c2)
  refine g_iload_n (pc := 16) rfl 0 rfl C dJ3_checkIndex_8e157_16 ?_
  exact g_iret (pc := 17) C R dJ3_checkIndex_8e157_17 hQ
/-- String.checkIndex: the place is in range -/
def D_St_checkIndex (r : TR) (a0 a1 : Int32) (h : TH) (Q : TH → Prop) : Prop := ¬ a0 < 0 ∧ a0 < a1 ∧ Q h
theorem M_St_checkIndex {Y : CG} {r : TR} {l : Launch} {a0 a1 : Int32} {h : TH} {Q : TH → Prop} (hD : D_St_checkIndex r a0 a1 h Q) : Mv Y r l yJ0_checkIndex_df160 cJ0_checkIndex_df160 2 2 [.int a0, .int a1] h Q := by
  obtain ⟨h0, h1, hQ⟩ := hD
  refine Mv.of RJ0 rfl (by decide) (by simp [lg_sl, Value.category]) [(0, .int a0), (1, .int a1)] rfl (fun X hXl C R => ?_)
  subst hXl
  refine g_iload_n (pc := 0) rfl 0 rfl C dJ0_checkIndex_df160_0 ?_
  refine g_iload_n (pc := 1) rfl 1 rfl C dJ0_checkIndex_df160_1 ?_
  refine g_getsQ (pc := 2) C fs_RJ0_1053 dJ0_checkIndex_df160_2 ?_ (fun t => ?_)
  · refine g_callSi (pc := 5) (As := [.int a0, .int a1, .null]) C ms_RJ0_1059 (M_Pc_checkIndex (Or.inl rfl) (Q := fun v h1 => v = a0 ∧ h1 = h) h0 h1 ⟨rfl, rfl⟩) (by decide) rfl rfl (Nat.le_of_ble_eq_true rfl) dJ0_checkIndex_df160_5 (fun v h1 hp => ?_)
    refine g_pop (pc := 8) rfl C dJ0_checkIndex_df160_8 ?_
    refine g_vret (pc := 9) C R dJ0_checkIndex_df160_9 ?_
    rw [hp.2]; exact hQ
  · refine g_callSi (pc := 5) (As := [.int a0, .int a1, .ref t]) C ms_RJ0_1059 (M_Pc_checkIndex (Or.inr ⟨t, rfl⟩) (Q := fun v h1 => v = a0 ∧ h1 = h) h0 h1 ⟨rfl, rfl⟩) (by decide) rfl rfl (Nat.le_of_ble_eq_true rfl) dJ0_checkIndex_df160_5 (fun v h1 hp => ?_)
    refine g_pop (pc := 8) rfl C dJ0_checkIndex_df160_8 ?_
    refine g_vret (pc := 9) C R dJ0_checkIndex_df160_9 ?_
    rw [hp.2]; exact hQ
