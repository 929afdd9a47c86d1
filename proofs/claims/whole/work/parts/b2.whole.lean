theorem ta_past : ∀ i, i < 30 → (61 < 251 ∧ skR tAll 61 i = 62 + 4 * i ∧ ¬ 62 + 4 * i = 0) ∧ (62 + 4 * i < 251 ∧ skR tAll (62 + 4 * i) 4 = 62 + 4 * i + 1 ∧ ¬ 62 + 4 * i + 1 = 0) ∧ (62 + 4 * i < 251 ∧ skR tAll (62 + 4 * i) 5 = 62 + 4 * i + 2 ∧ ¬ 62 + 4 * i + 2 = 0) ∧ (62 + 4 * i < 251 ∧ skR tAll (62 + 4 * i) 6 = 62 + 4 * i + 3 ∧ ¬ 62 + 4 * i + 3 = 0) := by decide +kernel
theorem ta_slot : ∀ i, i < 3 → (182 < 251 ∧ skR tAll 182 i = 195 + 4 * i ∧ ¬ 195 + 4 * i = 0) ∧ (195 + 4 * i < 251 ∧ skR tAll (195 + 4 * i) 4 = 195 + 4 * i + 1 ∧ ¬ 195 + 4 * i + 1 = 0) ∧ (195 + 4 * i < 251 ∧ skR tAll (195 + 4 * i) 5 = 195 + 4 * i + 2 ∧ ¬ 195 + 4 * i + 2 = 0) ∧ (195 + 4 * i < 251 ∧ skR tAll (195 + 4 * i) 6 = 195 + 4 * i + 3 ∧ ¬ 195 + 4 * i + 3 = 0) := by decide +kernel
theorem ta_mo : ∀ j, j < 66 → ¬ aOff.getD j 0 = 0 → 207 < 251 ∧ skR tAll 207 j = 207 + aOff.getD j 0 ∧ ¬ 207 + aOff.getD j 0 = 0 := by decide +kernel
theorem RX_all {q : Nat} {r : TR} (hr : ∀ i j v, i < 251 ∧ skR tAll i j = v ∧ ¬ v = 0 → r (q + i) j = q + v) : RX r q (q + 29) (q + 3) := by
  refine ⟨⟨hr 0 0 1 (by decide +kernel), hr 0 1 29 (by decide +kernel), hr 0 2 52 (by decide +kernel), hr 0 3 56 (by decide +kernel), hr 0 4 60 (by decide +kernel), hr 0 5 182 (by decide +kernel), hr 0 7 183 (by decide +kernel), hr 0 8 188 (by decide +kernel), hr 0 9 194 (by decide +kernel)⟩, ⟨hr 1 0 2 (by decide +kernel), hr 1 2 3 (by decide +kernel), hr 1 7 26 (by decide +kernel), hr 1 8 27 (by decide +kernel), hr 1 9 28 (by decide +kernel)⟩, ⟨⟨hr 52 4 53 (by decide +kernel), hr 52 5 54 (by decide +kernel), hr 52 6 55 (by decide +kernel)⟩, ⟨hr 56 4 57 (by decide +kernel), hr 56 5 58 (by decide +kernel), hr 56 6 59 (by decide +kernel)⟩, ⟨hr 190 4 191 (by decide +kernel), hr 190 5 192 (by decide +kernel), hr 190 6 193 (by decide +kernel)⟩⟩, ⟨hr 60 1 61 (by decide +kernel), fun i hi => ?_⟩, fun i hi => ?_, ⟨hr 183 1 184 (by decide +kernel), hr 183 2 185 (by decide +kernel), hr 183 3 186 (by decide +kernel), hr 183 4 187 (by decide +kernel)⟩, ⟨hr 188 0 189 (by decide +kernel), hr 188 1 190 (by decide +kernel)⟩, ⟨⟨hr 29 5 30 (by decide +kernel), hr 29 6 31 (by decide +kernel), hr 29 7 32 (by decide +kernel), hr 29 8 33 (by decide +kernel), hr 29 9 34 (by decide +kernel), hr 29 10 35 (by decide +kernel), hr 29 11 36 (by decide +kernel)⟩, ⟨hr 29 12 37 (by decide +kernel), hr 29 13 42 (by decide +kernel), hr 29 14 47 (by decide +kernel)⟩, ⟨hr 37 0 38 (by decide +kernel), hr 37 1 39 (by decide +kernel), hr 37 2 40 (by decide +kernel), hr 37 3 41 (by decide +kernel)⟩, ⟨hr 42 0 43 (by decide +kernel), hr 42 1 44 (by decide +kernel), hr 42 2 45 (by decide +kernel), hr 42 3 46 (by decide +kernel)⟩, ⟨hr 47 0 48 (by decide +kernel), hr 47 1 49 (by decide +kernel), hr 47 2 50 (by decide +kernel), hr 47 3 51 (by decide +kernel)⟩⟩, ⟨⟨hr 3 5 4 (by decide +kernel), hr 3 6 5 (by decide +kernel), hr 3 7 6 (by decide +kernel), hr 3 8 7 (by decide +kernel), hr 3 9 8 (by decide +kernel), hr 3 10 9 (by decide +kernel), hr 3 11 10 (by decide +kernel)⟩, ⟨hr 3 12 11 (by decide +kernel), hr 3 13 16 (by decide +kernel), hr 3 14 21 (by decide +kernel)⟩, ⟨hr 11 0 12 (by decide +kernel), hr 11 1 13 (by decide +kernel), hr 11 2 14 (by decide +kernel), hr 11 3 15 (by decide +kernel)⟩, ⟨hr 16 0 17 (by decide +kernel), hr 16 1 18 (by decide +kernel), hr 16 2 19 (by decide +kernel), hr 16 3 20 (by decide +kernel)⟩, ⟨hr 21 0 22 (by decide +kernel), hr 21 1 23 (by decide +kernel), hr 21 2 24 (by decide +kernel), hr 21 3 25 (by decide +kernel)⟩⟩, Or.inl ⟨rfl, rfl⟩⟩
  · obtain ⟨t1, t2, t3, t4⟩ := ta_past i hi
    rw [show q + 62 + 4 * i = q + (62 + 4 * i) by omega]
    exact ⟨hr 61 i _ t1, hr _ 4 _ t2, hr _ 5 _ t3, hr _ 6 _ t4⟩
  · obtain ⟨t1, t2, t3, t4⟩ := ta_slot i hi
    rw [show q + 195 + 4 * i = q + (195 + 4 * i) by omega]
    exact ⟨hr 182 i _ t1, hr _ 4 _ t2, hr _ 5 _ t3, hr _ 6 _ t4⟩
theorem RMo_all {q : Nat} {r : TR} (hr : ∀ i j v, i < 251 ∧ skR tAll i j = v ∧ ¬ v = 0 → r (q + i) j = q + v) : RMo r (q + 207) := fun j hj hn => by
  rw [hr 207 j _ (ta_mo j hj hn)]
  omega
theorem AI_0 : AI 0 A0 := ⟨B0_B, ⟨emptyS_B, fun k hk => absurd hk (Nat.not_lt_zero _), fun k _ => Nat.zero_le _, Nat.le_refl _, fun k _ _ => ⟨Nat.zero_testBit k, Nat.zero_testBit k, Nat.zero_testBit k⟩, fun k hk => absurd hk (Nat.not_lt_zero _), fun k hk => absurd hk (Nat.not_lt_zero _)⟩, Nat.zero_le _, fun i hi => absurd hi (Nat.not_lt_zero _), fun s hs S w => (by cases w), Nat.zero_le _, fun i hi => absurd hi (Nat.not_lt_zero _), Nat.zero_le _, Nat.zero_le _⟩
theorem AX_0 {q : Nat} {h : TH} (z : ∀ a, q ≤ a → ¬ a = q + 1 → ¬ (q + 3 ≤ a ∧ a < q + 26) → ¬ (q + 29 ≤ a ∧ a < q + 52) → ∀ j, h.1 a j = 0) (h1 : h.1 (q + 1) 1 = 0) (h3 : h.1 (q + 1) 3 = -1) (zs : Zs h (q + 3)) (ba : BayOK h (q + 29) B0) : AX h q (q + 29) (q + 3) A0 := by
  have w : ∀ a j, q + 52 ≤ a → h.1 a j = nI 0 := fun a j ha => by rw [nI_0]; exact z a (by omega) (by omega) (by omega) (by omega) j
  refine ⟨ba, Or.inl rfl, zs, ⟨w _ 0 (by omega), w _ 1 (by omega), w _ 2 (by omega), w _ 3 (by omega), fun k _ => w _ k (by omega), fun k _ => w _ k (by omega), fun k _ => w _ k (by omega)⟩, ⟨0, by decide, w _ 2 (by omega), w _ 0 (by omega), fun i hi => absurd hi (Nat.not_lt_zero _)⟩, ⟨?_, fun s hs S e => (by cases e)⟩, ⟨w _ 0 (by omega), fun i hi => absurd hi (Nat.not_lt_zero _)⟩, ⟨by rw [h1]; exact nI_0.symm, fun i hi => absurd hi (Nat.not_lt_zero _)⟩, h3⟩
  rw [z q (Nat.le_refl q) (by omega) (by omega) (by omega) 6]
  exact nI_0.symm
set_option maxHeartbeats 4000000 in
/-- from the entry, for every script of at most 3072 ints, the law comes to its end with true -/
theorem whole_start {p : Program} {e : Env} {s : State} {m : MethodId} {below : List Frame} {meth : Method} {c : Code} (l : Launch) {b L : Nat} {xs : Nat → Int32} (hL : L ≤ 3072) (C0 : lw_At p s m meth c b L xs) : W p l e room_1 s m #[Value.ref b] below meth c s.heap [] 0 0 (lw_Z below #[Value.ref b] s) (entryFrame m ([Value.ref b] : List Value).toArray 4) := by
  obtain ⟨hx, hb, hr, hml, hown, hts, hX, hbl, hlocks, hgv⟩ := C0
  obtain ⟨q, hq⟩ : ∃ q, q = s.heap.size := ⟨_, rfl⟩
  obtain ⟨dC, dI, ca, hK⟩ := st_K hts
  obtain ⟨aK, aV, t1, t2, t3, t4⟩ := st_texts (b := q) hts hgv hq
  obtain ⟨Y, eY⟩ : ∃ Y, Y = yAll dC dI ca q aK aV := ⟨_, rfl⟩
  have g : Sgm Y (rAll q) q tAll := by rw [eY]; exact sg_all
  have hKY : va_K (yD Y) vwCl (yT Y) s := by rw [eY]; exact hK q aK aV
  have eL : yL Y = List.range' q 251 := by rw [eY]; rfl
  have hZ : Zy Y q s s.heap := by
    rw [eY]
    exact ⟨fun x hx => va_Nw.of rfl (hts _ (tb_nest x hx)), t1, t2, t3, t4, va_AO.of (hts (.arrayOver (.object "SmellRace$Scene")) (List.mem_of_getElem? (i := 357) (by decide +kernel)))⟩
  have q0 : 0 < q := by omega
  have hYb : ∀ a ∈ yL Y, q ≤ a := fun a ha => by
    rw [eL, List.mem_range'_1] at ha
    exact ha.1
  have C : NGd Y q (p, l, e, room_1, s, m, #[Value.ref b], below, meth, c, lw_Z below #[Value.ref b] s) cL_law 4 RL 100 600000 7302250 := ⟨hx, hb, hml, hown, fun w hw => hts w (List.mem_filter.mp hw).1, hKY, hlocks, ⟨(by decide : 100 ≤ room_1.frames), (by decide : 80 * 100 ≤ room_1.locals), rfl, rfl⟩, hZ, q0, Nat.le_of_eq hq⟩
  have S : Scr (p, l, e, room_1, s, m, #[Value.ref b], below, meth, c, lw_Z below #[Value.ref b] s) q b L xs := ⟨hX, hbl, by omega⟩
  have tq : TO Y q 7 := ⟨by rw [eL]; exact List.mem_range'_1.mpr ⟨Nat.le_refl _, by omega⟩, g.k (i := 0) (by decide +kernel)⟩
  have tm : TO Y (q + 207) 8 := ⟨by rw [eL]; exact List.mem_range'_1.mpr ⟨by omega, by omega⟩, g.k (i := 207) (by decide +kernel)⟩
  have hend : ∀ (x : Int32) (r : TR) (h : TH), LJ Y q (p, l, e, room_1, s, m, #[Value.ref b], below, meth, c, lw_Z below #[Value.ref b] s) 4 1304 [(3, .int x), (2, .ref (q + 207)), (1, .ref q), (0, .ref b)] [] r h 251 43892 := fun x r h H locs ls hW hS hT hl => by
    refine lv_iconst (v := 1) hx hb dL_law_1304 (by decide) ?_
    refine va_forget (fun y hy => ?_) ?_
    · have := hS.2.2 y hy
      have h2 : q ≤ y.base := this
      show s.heap.size ≤ y.base
      omega
    · exact W.widen (k := 600000) (n := 7302250) (by decide) (by decide) (lw_ret hx hb hr hlocks dL_law_1305)
  have key : NJ Y q (p, l, e, room_1, s, m, #[Value.ref b], below, meth, c, lw_Z below #[Value.ref b] s) 4 0 [(0, .ref b)] [] q (fun _ _ => 0) (fun _ _ => 0, fun _ _ => 0) 0 0 := by
    refine n_new (pc := 0) C nl_RL_7 (g.k (i := 0) (by decide +kernel)) (by decide) (by decide) dL_law_0 ?_
    refine n_dup (pc := 3) rfl C dL_law_3 ?_
    have gS : Sgm Y (rAll q) q tSR := g.sub 0 sub_SR
    refine n_callC (pc := 4) (o := q) C mi_RL_9 (M_SR_init (ρ := rAll q) q0 (Nat.le_refl q) gS (fun _ _ _ => rfl) (fun _ _ _ => rfl)) rfl (by decide) (Nat.le_of_ble_eq_true rfl) (by decide) (by decide) dL_law_4 (fun r1 h1 hp1 => ?_)
    refine n_astore_n (pc := 7) (fun y => [(1, .ref y), (0, .ref b)]) C dL_law_7 rfl (by decide) rfl (fun y hy => ?_)
    rw [hy]
    refine (show NJ Y q (p, l, e, room_1, s, m, #[Value.ref b], below, meth, c, lw_Z below #[Value.ref b] s) 4 8 [(1, .ref q), (0, .ref b)] [] (q + 207) r1 h1 207 16107 from ?_)
    have gM : Sgm Y (rAll q) (q + 207) tMo := g.sub 207 sub_Mo
    have zh : ∀ a, q + 207 ≤ a → ∀ j, h1.1 a j = 0 := fun a ha j => by rw [(hp1.2.1 a (by omega)).1]
    have zr : ∀ a, q + 207 ≤ a → ∀ j, r1 a j = 0 := fun a ha j => by
      rw [hp1.1]
      unfold fnR
      rw [if_neg (by omega)]
    refine n_new (pc := 8) C nl_RL_10 (g.k (i := 207) (by decide +kernel)) (by decide) (by decide) dL_law_8 ?_
    refine n_dup (pc := 11) rfl C dL_law_11 ?_
    refine n_callC (pc := 12) (o := q + 207) C mi_RL_12 (M_Mo_init (ρ := rAll q) q0 (by omega) gM zr zh) rfl (by decide) (Nat.le_of_ble_eq_true rfl) (by decide) (by decide) dL_law_12 (fun r2 h2 hp2 => ?_)
    refine n_astore_n (pc := 15) (fun y => [(2, .ref y), (1, .ref q), (0, .ref b)]) C dL_law_15 rfl (by decide) rfl (fun y hy => ?_)
    rw [hy]
    refine n_iconst (pc := 16) (v := 0) (by decide) C dL_law_16 ?_
    refine n_istore_n (pc := 17) (fun y => [(3, .int y), (2, .ref (q + 207)), (1, .ref q), (0, .ref b)]) C dL_law_17 rfl (by decide) rfl (fun x hx0 => ?_)
    refine (show NJ Y q (p, l, e, room_1, s, m, #[Value.ref b], below, meth, c, lw_Z below #[Value.ref b] s) 4 18 [(3, .int x), (2, .ref (q + 207)), (1, .ref q), (0, .ref b)] [] (q + 251) r2 h2 251 43892 from ?_)
    have hra : ∀ a, q ≤ a → a < q + 251 → ∀ j, r2 a j = rAll q a j := fun a x1 x2 j => by
      rw [hp2.1, hp1.1]
      unfold fnR
      by_cases w : a < q + 207
      · rw [if_neg (by omega), if_pos (by omega)]
      · rw [if_pos (by omega)]
    have er : ∀ i j v, i < 251 ∧ skR tAll i j = v ∧ ¬ v = 0 → r2 (q + i) j = q + v := fun i j v w => by
      rw [hra _ (by omega) (by omega) j, (g i (by rw [len_all]; exact w.1)).2.2 j, w.2.1, if_neg w.2.2]
    have whl : Whl Y q (q + 251) (List.range' q tAll.length) r2 := Whl.of g okT_all (fun a x1 x2 j => hra a x1 (by rw [len_all] at x2; exact x2) j) (Nat.le_refl q) (by rw [len_all]; exact Nat.le_refl _)
    rw [len_all, ← eL] at whl
    have ax1 : AX h1 q (q + 29) (q + 3) A0 := AX_0 (fun a x1 x2 x3 x4 j => by rw [(hp1.2.1 a (by omega)).1]) hp1.2.2.1.1 hp1.2.2.1.2 hp1.2.2.2.1 hp1.2.2.2.2
    have ax2 : AX h2 q (q + 29) (q + 3) A0 := ax1.out (Or.inl ⟨rfl, rfl⟩) (Nat.zero_le _) (hp2.2.1.mono (fun a ha => Or.inr ha.1))
    have hC : Cx r2 q (q + 29) (q + 3) (q + 207) 0 (100 * 0) h2 A0 := ⟨RX_all er, RMo_all er, Nat.le_refl _, AI_0, ax2, hp2.2.2⟩
    have lo := law_loop C hYb S tq tm (by decide) (by decide) hL hend 513 0 x r2 h2 (q + 29) (q + 3) 0 A0 (by omega) (by rw [hx0]; exact nI_0.symm) hC
    intro hz H locs ls hW hS hl
    exact lo H locs ls (hW.wd q0 whl) hS whl.2.2 hl
  have hl := lv_entry [Value.ref b] (n := 4) (Nat.le_of_ble_eq_true rfl)
  rw [lg_entry_eq]
  exact key (by show q = s.heap.size + 0; omega) s.heap [] _ ⟨fun a h1 h2 => absurd h2 (by omega), hq.symm, fun _ _ _ => ⟨rfl, rfl, rfl⟩⟩ va_S.rf hl
