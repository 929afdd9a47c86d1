/-! the law, from its entry -/
def tAll : SgT := tSR ++ shT 207 tMo
def yAll (dC : Nat → ClassId) (dI : Nat → Nat → Nat) (ca : ClassId × ClassId × ClassId × ClassId × ClassId) (q : Nat) (aK aV : Nat → Nat) : CG := (dC, dI, ca, List.range' q 251, (fun a => skK tAll (a - q)), (fun a => skN tAll (a - q)), aK, aV)
def rAll (q : Nat) : TR := fun a j => if skR tAll (a - q) j = 0 then 0 else q + skR tAll (a - q) j
theorem sg_all {dC : Nat → ClassId} {dI : Nat → Nat → Nat} {ca : ClassId × ClassId × ClassId × ClassId × ClassId} {q : Nat} {aK aV : Nat → Nat} : Sgm (yAll dC dI ca q aK aV) (rAll q) q tAll := by
  intro i hi
  have e : q + i - q = i := by omega
  refine ⟨?_, ?_, fun j => ?_⟩
  · show skK tAll (q + i - q) = _
    rw [e]
  · show skN tAll (q + i - q) = _
    rw [e]
  · unfold rAll
    rw [e]
theorem len_all : tAll.length = 251 := by decide +kernel
theorem okT_all : okT tAll = true := by decide +kernel
theorem sub_SR : (tAll.drop 0).take tSR.length = shT 0 tSR := by decide +kernel
theorem sub_Mo : (tAll.drop 207).take tMo.length = shT 207 tMo := by decide +kernel
theorem flt_ne : (Cond.not (Cond.eq (.string RX4 106) (.string RX4 95))) ∈ flatC (Jvm.Cond.and given_1 narrow_1) ∧ (Cond.not (Cond.eq (.string RX4 106) (.string RX4 157))) ∈ flatC (Jvm.Cond.and given_1 narrow_1) ∧ (Cond.not (Cond.eq (.string RX4 95) (.string RX4 157))) ∈ flatC (Jvm.Cond.and given_1 narrow_1) := by decide +kernel
theorem flt_ex : ∀ i, i < 3 → Cond.exactly (.string RX4 (ixS.getD i 0)) "java/lang/String" ∈ flatC (Jvm.Cond.and given_1 narrow_1) := by decide +kernel
theorem flt_co : ∀ i, i < 3 → Cond.eq (.field (.string RX4 (ixS.getD i 0)) "java/lang/String" "coder" "B") (.int 0) ∈ flatC (Jvm.Cond.and given_1 narrow_1) := by decide +kernel
theorem flt_ar : ∀ i, i < 3 → Cond.arrayOf (.field (.string RX4 (ixS.getD i 0)) "java/lang/String" "value" "[B") .byte ∈ flatC (Jvm.Cond.and given_1 narrow_1) := by decide +kernel
theorem flt_le : ∀ i, i < 3 → Cond.eq (.length (.field (.string RX4 (ixS.getD i 0)) "java/lang/String" "value" "[B")) (.int (Int32.ofNat (lenS.getD i 0))) ∈ flatC (Jvm.Cond.and given_1 narrow_1) := by decide +kernel
def flE (i j : Nat) : Cond := Cond.eq (.elem (.field (.string RX4 (ixS.getD i 0)) "java/lang/String" "value" "[B") (.int (Int32.ofNat j))) (.int ((bytS.getD i []).getD j 0))
def flL : List Cond := flatC (Jvm.Cond.and given_1 narrow_1)
theorem flt_e0 : ∀ j, j < 19 → flL[13 + j]? = some (flE 0 (0 + j)) := by decide +kernel
theorem flt_e1 : ∀ j, j < 19 → flL[32 + j]? = some (flE 0 (19 + j)) := by decide +kernel
theorem flt_e2 : ∀ j, j < 19 → flL[51 + j]? = some (flE 0 (38 + j)) := by decide +kernel
theorem flt_e3 : ∀ j, j < 19 → flL[70 + j]? = some (flE 0 (57 + j)) := by decide +kernel
theorem flt_e4 : ∀ j, j < 19 → flL[89 + j]? = some (flE 0 (76 + j)) := by decide +kernel
theorem flt_e5 : ∀ j, j < 19 → flL[108 + j]? = some (flE 0 (95 + j)) := by decide +kernel
theorem flt_e6 : ∀ j, j < 19 → flL[127 + j]? = some (flE 0 (114 + j)) := by decide +kernel
theorem flt_e7 : ∀ j, j < 19 → flL[146 + j]? = some (flE 0 (133 + j)) := by decide +kernel
theorem flt_e8 : ∀ j, j < 9 → flL[169 + j]? = some (flE 1 (0 + j)) := by decide +kernel
theorem flt_e9 : ∀ j, j < 3 → flL[183 + j]? = some (flE 2 (0 + j)) := by decide +kernel
theorem flt_el : ∀ i, i < 3 → ∀ j, j < lenS.getD i 0 → flE i j ∈ flatC (Jvm.Cond.and given_1 narrow_1) := by
  intro i hi j hj
  show flE i j ∈ flL
  have hc : i = 0 ∨ i = 1 ∨ i = 2 := by omega
  rcases hc with e | e | e
  · subst e
    have hj : j < 152 := hj
    by_cases w0 : j < 19
    · have := flt_e0 (j - 0) (by omega)
      rw [show 0 + (j - 0) = j by omega] at this
      exact List.mem_of_getElem? this
    by_cases w1 : j < 38
    · have := flt_e1 (j - 19) (by omega)
      rw [show 19 + (j - 19) = j by omega] at this
      exact List.mem_of_getElem? this
    by_cases w2 : j < 57
    · have := flt_e2 (j - 38) (by omega)
      rw [show 38 + (j - 38) = j by omega] at this
      exact List.mem_of_getElem? this
    by_cases w3 : j < 76
    · have := flt_e3 (j - 57) (by omega)
      rw [show 57 + (j - 57) = j by omega] at this
      exact List.mem_of_getElem? this
    by_cases w4 : j < 95
    · have := flt_e4 (j - 76) (by omega)
      rw [show 76 + (j - 76) = j by omega] at this
      exact List.mem_of_getElem? this
    by_cases w5 : j < 114
    · have := flt_e5 (j - 95) (by omega)
      rw [show 95 + (j - 95) = j by omega] at this
      exact List.mem_of_getElem? this
    by_cases w6 : j < 133
    · have := flt_e6 (j - 114) (by omega)
      rw [show 114 + (j - 114) = j by omega] at this
      exact List.mem_of_getElem? this
    · have := flt_e7 (j - 133) (by omega)
      rw [show 133 + (j - 133) = j by omega] at this
      exact List.mem_of_getElem? this
  · subst e
    have hj : j < 9 := hj
    · have := flt_e8 (j - 0) (by omega)
      rw [show 0 + (j - 0) = j by omega] at this
      exact List.mem_of_getElem? this
  · subst e
    have hj : j < 3 := hj
    · have := flt_e9 (j - 0) (by omega)
      rw [show 0 + (j - 0) = j by omega] at this
      exact List.mem_of_getElem? this
theorem flt_cs : Cond.eq (.static "java/lang/String" "COMPACT_STRINGS" "Z") (.int 1) ∈ flatC (Jvm.Cond.and given_1 narrow_1) ∧ Cond.isRef (.static "jdk/internal/util/Preconditions" "SIOOBE_FORMATTER" "Ljava/util/function/BiFunction;") ∈ flatC (Jvm.Cond.and given_1 narrow_1) := by decide +kernel
theorem tb_nest : ∀ q ∈ nests, Cond.methodLinkNest q.1 q.2.1 q.2.2.1 q.2.2.2 ∈ lw_tbl := by decide +kernel
theorem tb_str : ∀ i, i < 3 → Cond.stringRef RX4 (ixS.getD i 0) (txS.getD i "") ∈ lw_tbl := by decide +kernel
theorem st_texts {s : State} {args : Array Value} {b : Nat} (hts : ∀ w ∈ lw_tbl, w.before args s = true) (hg : (Jvm.Cond.and given_1 narrow_1).before args s = true) (hb : b = s.heap.size) : ∃ aK aV : Nat → Nat, (∀ i, i < 3 → vk_R RX4 (ixS.getD i 0) (txS.getD i "") (aK i) s) ∧ vk_S 3 lenS bytS aK aV (fun q => b ≤ q) s s.heap ∧ va_Z "java/lang/String" "COMPACT_STRINGS" "Z" (.int 1) (fun q => b ≤ q) s s.heap ∧ va_Zq "jdk/internal/util/Preconditions" "SIOOBE_FORMATTER" "Ljava/util/function/BiFunction;" (fun q => b ≤ q) s s.heap := by
  have hs := flat_of_before _ hg
  have hA : ∀ a : Nat, a < s.heap.size → ¬ (fun q => b ≤ q) a := fun a ha h => by
    have : b ≤ a := h
    omega
  obtain ⟨aK, aV, h1, h2⟩ := vk_Sof (N := 3) (tm := fun i => Term.string RX4 (ixS.getD i 0)) (len := lenS) (byt := bytS) (A := fun q => b ≤ q) (args := args) (s := s) (by decide) (fun i hi => hs _ (flt_ex i hi)) (fun i hi => hs _ (flt_co i hi)) (fun i hi => hs _ (flt_ar i hi)) (fun i hi => hs _ (flt_le i hi)) (fun i hi j hj => hs _ (flt_el i hi j hj)) (fun i j hi hj hij => by
    have hc : (i = 0 ∧ j = 1) ∨ (i = 0 ∧ j = 2) ∨ (i = 1 ∧ j = 2) ∨ (i = 1 ∧ j = 0) ∨ (i = 2 ∧ j = 0) ∨ (i = 2 ∧ j = 1) := by omega
    rcases hc with ⟨e1, e2⟩ | ⟨e1, e2⟩ | ⟨e1, e2⟩ | ⟨e1, e2⟩ | ⟨e1, e2⟩ | ⟨e1, e2⟩ <;> rw [e1, e2]
    · exact Or.inl (hs _ flt_ne.1)
    · exact Or.inl (hs _ flt_ne.2.1)
    · exact Or.inl (hs _ flt_ne.2.2)
    · exact Or.inr (hs _ flt_ne.1)
    · exact Or.inr (hs _ flt_ne.2.1)
    · exact Or.inr (hs _ flt_ne.2.2)) hA
  exact ⟨aK, aV, fun i hi => vk_R.of (hts _ (tb_str i hi)) (h2 i hi), h1, va_Zof (hts _ (List.mem_of_getElem? (i := 497) (by decide +kernel))) (hts _ (List.mem_of_getElem? (i := 119) (by decide +kernel))) (va_eqt (hs _ flt_cs.1)) hA, va_Zqof (hts _ (List.mem_of_getElem? (i := 505) (by decide +kernel))) (hts _ (List.mem_of_getElem? (i := 121) (by decide +kernel))) (hs _ flt_cs.2) hA⟩
theorem st_arr {s : State} {args : Array Value} {ty : FieldType} (h : (Cond.arrayClass ty).before args s = true) : ∃ cA : ClassId, ArrOfT s cA ty ∧ s.vm.findClass ("[" ++ ty.toString) = some cA := by
  obtain ⟨c, k, comp, h1, h2, h3⟩ := Cond.arrayClass_spec (args := args) (first := s) (o := none) (s := s) (idx := []) h
  exact ⟨c, fun n z => ⟨fun k h => (by cases h), k, h2, comp, h3⟩, h1⟩
theorem st_K {s : State} {args : Array Value} (hts : ∀ w ∈ lw_tbl, w.before args s = true) : ∃ (dC : Nat → ClassId) (dI : Nat → Nat → Nat) (ca : ClassId × ClassId × ClassId × ClassId × ClassId), ∀ (q : Nat) (aK aV : Nat → Nat), va_K (yD (yAll dC dI ca q aK aV)) vwCl (yT (yAll dC dI ca q aK aV)) s := by
  obtain ⟨c0, i0, hKn0⟩ := u_known (C := RX0) (T := TX0) (N := 15) (n := 15) hts (fun w hw => (List.mem_filter.mp (inX0 w hw)).1) (hts (.instantiable RX0 15) (List.mem_of_getElem? (i := 143) (by decide +kernel)))
  obtain ⟨c1, i1, hKn1⟩ := u_known (C := RX1) (T := TX1) (N := 7) (n := 7) hts (fun w hw => (List.mem_filter.mp (inX1 w hw)).1) (hts (.instantiable RX1 7) (List.mem_of_getElem? (i := 149) (by decide +kernel)))
  obtain ⟨c2, i2, hKn2⟩ := u_known (C := RX2) (T := TX2) (N := 2) (n := 2) hts (fun w hw => (List.mem_filter.mp (inX2 w hw)).1) (hts (.instantiable RX2 2) (List.mem_of_getElem? (i := 394) (by decide +kernel)))
  obtain ⟨c3, i3, hKn3⟩ := u_known (C := RX3) (T := TX3) (N := 3) (n := 3) hts (fun w hw => (List.mem_filter.mp (inX3 w hw)).1) (hts (.instantiable RX3 3) (List.mem_of_getElem? (i := 351) (by decide +kernel)))
  obtain ⟨c4, i4, hKn4⟩ := u_known (C := RX4) (T := TX4) (N := 11) (n := 11) hts (fun w hw => (List.mem_filter.mp (inX4 w hw)).1) (hts (.instantiable RX4 11) (List.mem_of_getElem? (i := 137) (by decide +kernel)))
  obtain ⟨c5, i5, hKn5⟩ := u_known (C := RX5) (T := TX5) (N := 7) (n := 7) hts (fun w hw => (List.mem_filter.mp (inX5 w hw)).1) (hts (.instantiable RX5 7) (List.mem_of_getElem? (i := 312) (by decide +kernel)))
  obtain ⟨c6, i6, hKn6⟩ := u_known (C := RX6) (T := TX6) (N := 5) (n := 5) hts (fun w hw => (List.mem_filter.mp (inX6 w hw)).1) (hts (.instantiable RX6 5) (List.mem_of_getElem? (i := 371) (by decide +kernel)))
  obtain ⟨c7, i7, hKn7⟩ := u_known (C := RX7) (T := TX7) (N := 10) (n := 10) hts (fun w hw => (List.mem_filter.mp (inX7 w hw)).1) (hts (.instantiable RX7 10) (List.mem_of_getElem? (i := 129) (by decide +kernel)))
  obtain ⟨c8, i8, hKn8⟩ := u_known (C := RX8) (T := TX8) (N := 66) (n := 66) hts (fun w hw => (List.mem_filter.mp (inX8 w hw)).1) (hts (.instantiable RX8 66) (List.mem_of_getElem? (i := 1129) (by decide +kernel)))
  obtain ⟨a0, g0, f0⟩ := st_arr (hts (.arrayClass .byte) (List.mem_of_getElem? (i := 177) (by decide +kernel)))
  obtain ⟨a1, g1, f1⟩ := st_arr (hts (.arrayClass .int) (List.mem_of_getElem? (i := 178) (by decide +kernel)))
  obtain ⟨a2, g2, f2⟩ := st_arr (hts (.arrayClass .long) (List.mem_of_getElem? (i := 179) (by decide +kernel)))
  obtain ⟨a3, g3, f3⟩ := st_arr (hts (.arrayClass .boolean) (List.mem_of_getElem? (i := 1408) (by decide +kernel)))
  obtain ⟨comp, a4, k4, u1, -, u3, u4, u5⟩ := Cond.arrayOver_spec (args := args) (first := s) (o := none) (s := s) (idx := []) (hts (.arrayOver (.object "SmellRace$Scene")) (List.mem_of_getElem? (i := 357) (by decide +kernel)))
  refine ⟨fun k => if k = 0 then c0 else if k = 1 then c1 else if k = 2 then c2 else if k = 3 then c3 else if k = 4 then c4 else if k = 5 then c5 else if k = 6 then c6 else if k = 7 then c7 else c8, fun k => if k = 0 then i0 else if k = 1 then i1 else if k = 2 then i2 else if k = 3 then i3 else if k = 4 then i4 else if k = 5 then i5 else if k = 6 then i6 else if k = 7 then i7 else i8, (a0, a1, a2, a3, a4), fun q aK aV => ⟨?_, ?_⟩⟩
  · intro k x hx
    match k, hx with
    | 0, hx => cases hx; exact hKn0
    | 1, hx => cases hx; exact hKn1
    | 2, hx => cases hx; exact hKn2
    | 3, hx => cases hx; exact hKn3
    | 4, hx => cases hx; exact hKn4
    | 5, hx => cases hx; exact hKn5
    | 6, hx => cases hx; exact hKn6
    | 7, hx => cases hx; exact hKn7
    | 8, hx => cases hx; exact hKn8
    | k + 9, hx => simp [vwCl] at hx
  · intro k x hx
    match k, hx with
    | 0, hx => cases hx; exact ⟨g0, f0⟩
    | 1, hx => cases hx; exact ⟨g1, f1⟩
    | 2, hx => cases hx; exact ⟨g2, f2⟩
    | 3, hx => cases hx; exact ⟨g3, f3⟩
    | 4, hx => cases hx; exact ⟨fun n z => ⟨fun k h => (by cases h), k4, u3, comp, u4⟩, k4, comp, u3, u4, u1, u5⟩
    | k + 5, hx => simp [yT] at hx
