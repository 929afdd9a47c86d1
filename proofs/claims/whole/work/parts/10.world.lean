abbrev TH : Type := (Nat → Nat → Int32) × (Nat → Nat → Int64)
abbrev TR : Type := Nat → Nat → Nat
def pI (h : TH) (o j : Nat) (v : Int32) : TH := (fun a b => if a = o ∧ b = j then v else h.1 a b, h.2)
def pL (h : TH) (o j : Nat) (v : Int64) : TH := (h.1, fun a b => if a = o ∧ b = j then v else h.2 a b)
def pR (r : TR) (o j : Nat) (v : Nat) : TR := fun a b => if a = o ∧ b = j then v else r a b
/-- many ints at once: the whole row of a cell -/
def pRow (h : TH) (o : Nat) (f : Nat → Int32) : TH := (fun a b => if a = o then f b else h.1 a b, h.2)
abbrev CG : Type := (Nat → ClassId) × (Nat → Nat → Nat) × (ClassId × ClassId × ClassId × ClassId × ClassId) × List Nat × (Nat → Nat) × (Nat → Nat) × (Nat → Nat) × (Nat → Nat)
abbrev yD (Y : CG) : va_G := (Y.1, Y.2.1)
abbrev yC (Y : CG) : ClassId × ClassId × ClassId × ClassId × ClassId := Y.2.2.1
abbrev yL (Y : CG) : List Nat := Y.2.2.2.1
abbrev yK (Y : CG) : Nat → Nat := Y.2.2.2.2.1
abbrev yN (Y : CG) : Nat → Nat := Y.2.2.2.2.2.1
abbrev yA (Y : CG) : Nat → Nat := Y.2.2.2.2.2.2.1
abbrev yV (Y : CG) : Nat → Nat := Y.2.2.2.2.2.2.2
abbrev yT (Y : CG) : List (ClassId × FieldType) := [((yC Y).1, .byte), ((yC Y).2.1, .int), ((yC Y).2.2.1, .long), ((yC Y).2.2.2.1, .boolean), ((yC Y).2.2.2.2, .object "SmellRace$Scene")]
def fTl : List (List (Option (Nat × Nat))) := [[none, none, none, none, none, some (10, 40), some (10, 40), some (11, 6), some (10, 6), some (10, 6), some (10, 6), some (10, 6), some (1, 0), some (1, 0), some (1, 0)], [some (10, 9), some (10, 400), some (10, 13), some (10, 32), none, none, none], [some (10, 384), some (5, 0)], [none, some (13, 30), none], [some (9, 2000), none, some (0, 0), none, none, none, none, some (10, 401), some (10, 401), some (10, 401), none], [none, none, none, none, some (10, 6), some (10, 6), some (10, 240)], [none, some (10, 20), some (10, 20), some (10, 6), some (10, 64)], [some (4, 0), some (0, 0), some (5, 0), some (5, 0), some (3, 0), some (13, 3), none, some (6, 0), some (2, 0), some (11, 6)], [none, some (9, 2000), none, some (9, 2000), none, some (10, 403), some (10, 403), some (10, 403), some (11, 403), some (11, 19), none, none, none, none, none, none, none, none, none, none, none, some (11, 6), some (10, 2), some (10, 2), some (10, 80), some (10, 2), some (10, 12), some (10, 12), some (10, 12), some (10, 12), some (10, 2), some (10, 2), some (10, 6), some (10, 6), none, some (12, 260), some (10, 260), some (10, 260), some (10, 260), some (10, 260), none, some (10, 840), some (10, 840), some (10, 64), none, some (10, 9), some (10, 400), none, some (10, 512), some (10, 512), none, none, none, some (10, 6), none, some (10, 15360), some (10, 40), some (12, 40), some (12, 40), some (10, 384), none, some (10, 20), some (10, 20), some (10, 6), some (12, 3), some (10, 1536)]]
def fT (k j : Nat) : Option (Nat × Nat) := if k = 13 then some (5, 0) else ((fTl.getD k [])[j]?).getD none
def nF (k : Nat) : Nat := (fTl.getD k []).length
def fv (k : Nat) (r : TR) (h : TH) (o j : Nat) : Value := if (fT k j).isSome = true then .ref (r o j) else .int (h.1 o j)
def fl (k : Nat) (r : TR) (h : TH) (o : Nat) : List Value := (List.range (nF k)).map (fv k r h o)
def cE (Y : CG) (r : TR) (h : TH) (o : Nat) : va_E :=
  if yK Y o < 9 then .inr (yK Y o, fl (yK Y o) r h o)
  else if yK Y o = 9 then .inl ((yC Y).1, yN Y o, .inl (h.1 o))
  else if yK Y o = 10 then .inl ((yC Y).2.1, yN Y o, .inl (h.1 o))
  else if yK Y o = 11 then .inl ((yC Y).2.2.1, yN Y o, .inr (.inl (h.2 o)))
  else if yK Y o = 12 then .inl ((yC Y).2.2.2.1, yN Y o, .inl (h.1 o))
  else .inl ((yC Y).2.2.2.2, yN Y o, .inr (.inr (.inr (.inr (fun j => some (r o j))))))
def TO (Y : CG) (o k : Nat) : Prop := o ∈ yL Y ∧ yK Y o = k
def TA (Y : CG) (o k n : Nat) : Prop := o ∈ yL Y ∧ yK Y o = k ∧ yN Y o = n
def WT (Y : CG) (r : TR) : Prop := ∀ o ∈ yL Y, ∀ j k n, fT (yK Y o) j = some (k, n) → (yK Y o = 13 → j < yN Y o) → r o j ∈ yL Y ∧ yK Y (r o j) = k ∧ (¬ n = 0 → yN Y (r o j) = n)
def Wd (Y : CG) (r : TR) (h : TH) (H : Heap) : Prop := va_P (yD Y) vwCl (va_pl (yL Y) (cE Y r h)) H ∧ va_D (fun q => q ∈ yL Y) (va_pl (yL Y) (cE Y r h))
theorem wt_o {Y : CG} {r : TR} (hw : WT Y r) {o k j k' : Nat} (to : TO Y o k) (hk : ¬ k = 13) (hf : fT k j = some (k', 0)) : TO Y (r o j) k' := by
  have h1 := hw o to.1 j k' 0 (by rw [to.2]; exact hf) (fun e => absurd (to.2.symm.trans e) hk)
  exact ⟨h1.1, h1.2.1⟩
theorem wt_a {Y : CG} {r : TR} (hw : WT Y r) {o k j k' n : Nat} (to : TO Y o k) (hk : ¬ k = 13) (hn : ¬ n = 0) (hf : fT k j = some (k', n)) : TA Y (r o j) k' n := by
  have h1 := hw o to.1 j k' n (by rw [to.2]; exact hf) (fun e => absurd (to.2.symm.trans e) hk)
  exact ⟨h1.1, h1.2.1, h1.2.2 hn⟩
theorem wt_s {Y : CG} {r : TR} (hw : WT Y r) {o n j : Nat} (to : TA Y o 13 n) (hj : j < n) : TO Y (r o j) 5 := by
  have h1 := hw o to.1 j 5 0 (by rw [to.2.1]; rfl) (fun _ => by rw [to.2.2]; exact hj)
  exact ⟨h1.1, h1.2.1⟩
theorem fl_get {k : Nat} {r : TR} {h : TH} {o j : Nat} (hj : j < nF k) : (fl k r h o)[j]? = some (fv k r h o j) := by
  unfold fl
  rw [List.getElem?_map, List.getElem?_range hj]; rfl
theorem fl_len (k : Nat) (r : TR) (h : TH) (o : Nat) : (fl k r h o).length = nF k := by unfold fl; rw [List.length_map, List.length_range]
theorem fl_set {k : Nat} {r r' : TR} {h h' : TH} {o j : Nat} {v : Value} (hv : fv k r' h' o j = v) (ho : ∀ i, ¬ i = j → fv k r' h' o i = fv k r h o i) : (fl k r h o).set j v = fl k r' h' o := by
  apply List.ext_getElem?
  intro i
  rw [List.getElem?_set]
  by_cases hi : i < nF k
  · by_cases e : j = i
    · subst e
      rw [if_pos rfl, fl_len, if_pos hi, fl_get hi, hv]
    · rw [if_neg e, fl_get hi, fl_get hi, ho i (fun q => e q.symm)]
  · have h1 : (fl k r h o)[i]? = none := by rw [List.getElem?_eq_none_iff, fl_len]; omega
    have h2 : (fl k r' h' o)[i]? = none := by rw [List.getElem?_eq_none_iff, fl_len]; omega
    rw [h1, h2, fl_len]
    by_cases e : j = i
    · rw [if_pos e, if_neg (by omega)]
    · rw [if_neg e]
theorem cE_o {Y : CG} {r : TR} {h : TH} {o k : Nat} (hk : yK Y o = k) (h9 : k < 9) : cE Y r h o = .inr (k, fl k r h o) := by unfold cE; rw [hk, if_pos h9]
theorem cE_B {Y : CG} {r : TR} {h : TH} {o : Nat} (hk : yK Y o = 9) : cE Y r h o = .inl ((yC Y).1, yN Y o, .inl (h.1 o)) := by unfold cE; rw [hk]; rfl
theorem cE_I {Y : CG} {r : TR} {h : TH} {o : Nat} (hk : yK Y o = 10) : cE Y r h o = .inl ((yC Y).2.1, yN Y o, .inl (h.1 o)) := by unfold cE; rw [hk]; rfl
theorem cE_J {Y : CG} {r : TR} {h : TH} {o : Nat} (hk : yK Y o = 11) : cE Y r h o = .inl ((yC Y).2.2.1, yN Y o, .inr (.inl (h.2 o))) := by unfold cE; rw [hk]; rfl
theorem cE_Z {Y : CG} {r : TR} {h : TH} {o : Nat} (hk : yK Y o = 12) : cE Y r h o = .inl ((yC Y).2.2.2.1, yN Y o, .inl (h.1 o)) := by unfold cE; rw [hk]; rfl
theorem cE_S {Y : CG} {r : TR} {h : TH} {o : Nat} (hk : yK Y o = 13) : cE Y r h o = .inl ((yC Y).2.2.2.2, yN Y o, .inr (.inr (.inr (.inr (fun j => some (r o j)))))) := by unfold cE; rw [hk]; rfl
/-- the contents of one cell alone -/
theorem cE_ne {Y : CG} {r r' : TR} {h h' : TH} {b : Nat} (h1 : h'.1 b = h.1 b) (h2 : h'.2 b = h.2 b) (h3 : r' b = r b) : cE Y r' h' b = cE Y r h b := by
  have hv : ∀ k, fl k r' h' b = fl k r h b := by
    intro k
    unfold fl
    apply List.map_congr_left
    intro j _
    unfold fv
    rw [h1, h3]
  unfold cE
  rw [h1, h2, h3, hv]
theorem cE_up {Y : CG} {r r' : TR} {h h' : TH} {o : Nat} {x : va_E} (ho : cE Y r' h' o = x) (hn : ∀ b, ¬ b = o → h'.1 b = h.1 b ∧ h'.2 b = h.2 b ∧ r' b = r b) : va_up (cE Y r h) o x = cE Y r' h' := by
  funext b
  by_cases e : b = o
  · subst e
    rw [va_up_self, ho]
  · rw [va_up_ne _ _ e]
    obtain ⟨h1, h2, h3⟩ := hn b e
    exact (cE_ne h1 h2 h3).symm
theorem pI_at (h : TH) (o j : Nat) (v : Int32) : (pI h o j v).1 o = upd (h.1 o) j v := by
  funext b
  unfold pI upd
  by_cases e : b = j
  · simp [e]
  · simp [e]
theorem pL_at (h : TH) (o j : Nat) (v : Int64) : (pL h o j v).2 o = vp_updL (h.2 o) j v := by
  funext b
  unfold pL vp_updL
  by_cases e : b = j
  · simp [e]
  · simp [e]
theorem pI_ne (r : TR) (h : TH) (o j : Nat) (v : Int32) (b : Nat) (hb : ¬ b = o) : (pI h o j v).1 b = h.1 b ∧ (pI h o j v).2 b = h.2 b ∧ r b = r b := ⟨by funext a; unfold pI; simp [hb], rfl, rfl⟩
theorem pL_ne (r : TR) (h : TH) (o j : Nat) (v : Int64) (b : Nat) (hb : ¬ b = o) : (pL h o j v).1 b = h.1 b ∧ (pL h o j v).2 b = h.2 b ∧ r b = r b := ⟨rfl, by funext a; unfold pL; simp [hb], rfl⟩
theorem pR_ne (r : TR) (h : TH) (o j : Nat) (v : Nat) (b : Nat) (hb : ¬ b = o) : h.1 b = h.1 b ∧ h.2 b = h.2 b ∧ (pR r o j v) b = r b := ⟨rfl, rfl, by funext a; unfold pR; simp [hb]⟩
theorem pRow_ne (r : TR) (h : TH) (o : Nat) (f : Nat → Int32) (b : Nat) (hb : ¬ b = o) : (pRow h o f).1 b = h.1 b ∧ (pRow h o f).2 b = h.2 b ∧ r b = r b := ⟨by funext a; unfold pRow; simp [hb], rfl, rfl⟩
theorem pRow_at (h : TH) (o : Nat) (f : Nat → Int32) : (pRow h o f).1 o = f := by funext a; unfold pRow; simp
def lenS : List Nat := [152, 9, 3]
def bytS : List (List Int32) := [[114, 111, 119, 32, 32, 32, 32, 32, 98, 111, 97, 116, 32, 32, 32, 32, 119, 105, 110, 100, 32, 32, 32, 32, 115, 116, 101, 101, 114, 115, 32, 32, 108, 105, 101, 115, 32, 32, 32, 32, 99, 111, 108, 100, 32, 32, 32, 32, 115, 101, 101, 100, 32, 32, 32, 32, 105, 102, 32, 32, 32, 32, 32, 32, 116, 104, 101, 110, 32, 32, 32, 32, 101, 108, 115, 101, 32, 32, 32, 32, 104, 111, 117, 114, 32, 32, 32, 32, 101, 97, 115, 116, 32, 32, 32, 32, 115, 111, 117, 116, 104, 32, 32, 32, 98, 108, 111, 119, 115, 32, 32, 32, 115, 109, 101, 108, 108, 115, 32, 32, 110, 101, 97, 114, 32, 32, 32, 32, 119, 104, 105, 99, 104, 32, 32, 32, 115, 116, 114, 111, 110, 103, 32, 32, 112, 108, 97, 99, 101, 100, 32, 32], [59, 61, 43, 45, 42, 47, 60, 40, 41], [111, 114, 109]]
def txS : List String := ["row     boat    wind    steers  lies    cold    seed    if      then    else    hour    east    south   blows   smells  near    which   strong  placed  ", ";=+-*/<()", "orm"]
def ixS : List Nat := [106, 95, 157]
/-- the links between nest mates -/
def nests : List (String × Nat × MethodName × String) := [(RX7, 11, yX4_init, "SmellRace"), (RX0, 52, yX1_init, "SmellRace"), (RX7, 25, yX5_init, "SmellRace"), (RX3, 24, yX5_init, "SmellRace"), (RX7, 50, yX6_init, "SmellRace"), (RX7, 57, yX2_init, "SmellRace"), (RX2, 17, yX5_init, "SmellRace"), (RX0, 201, yX7_leastOf, "SmellRace")]
def NW (U : State) : Prop := ∀ q ∈ nests, va_Nw (.methodLinkNest q.1 q.2.1 q.2.2.1 q.2.2.2) U
/-- what stands fixed from call to call beside the tables: nest mates' links, the three texts, a static of String's -/
def Zx (Y : CG) (U : State) (H : Heap) : Prop := NW U ∧ (∀ i, i < 3 → vk_R RX4 (ixS.getD i 0) (txS.getD i "") (yA Y i) U) ∧ vk_S 3 lenS bytS (yA Y) (yV Y) (fun q => q ∈ yL Y) U H ∧ va_Z "java/lang/String" "COMPACT_STRINGS" "Z" (.int 1) (fun q => q ∈ yL Y) U H ∧ va_Zq "jdk/internal/util/Preconditions" "SIOOBE_FORMATTER" "Ljava/util/function/BiFunction;" (fun q => q ∈ yL Y) U H
theorem Zx.same {Y : CG} {u U : State} {H : Heap} (hv : U.vm = u.vm) (h : Zx Y u H) : Zx Y U H := ⟨fun q hq => va_Nw.same rfl hv.symm (h.1 q hq), fun i hi => vk_R.same hv (h.2.1 i hi), vk_S.moved (hv ▸ Vm.Alike.refl u.vm) h.2.2.1, va_Z.moved (hv ▸ Vm.Alike.refl u.vm) h.2.2.2.1, va_Zq.moved (hv ▸ Vm.Alike.refl u.vm) h.2.2.2.2⟩
theorem Zx.warm {Y : CG} {s U : State} {H : Heap} {locs : List Loc} (hW : s.WarmedH U.vm) (hS : va_S (fun q => q ∈ yL Y) s.heap H locs) (h : Zx Y s s.heap) : Zx Y U H := ⟨fun q hq => va_Nw.warmM hW (h.1 q hq), fun i hi => vk_R.warm hW (h.2.1 i hi), vk_S.moved hW.alike (h.2.2.1.kept hS.2.1), va_Z.moved hW.alike (h.2.2.2.1.kept hS.2.1), va_Zq.moved hW.alike (h.2.2.2.2.kept hS.2.1)⟩
abbrev CX : Type := Program × Launch × Env × Room × State × MethodId × Array Value × List Frame × Method × Code × (State → Prop)
def rm (d : Nat) : Room := { frames := d, cells := 0, slots := 0, locals := 80 * d }
/-- the machine, at a place of a method's body, over every heap that holds h, comes to the method's end -/
def G (Y : CG) (X : CX) (nL pc : Nat) (lv : List (Nat × Value)) (st : List Value) (r : TR) (h : TH) : Prop :=
  ∀ (H : Heap) (locs : List Loc) (ls : Array Slot), Wd Y r h H → va_S (fun q => q ∈ yL Y) X.2.2.2.2.1.heap H locs → WT Y r → lv_has ls nL lv →
    W X.1 X.2.1 X.2.2.1 X.2.2.2.1 X.2.2.2.2.1 X.2.2.2.2.2.1 X.2.2.2.2.2.2.1 X.2.2.2.2.2.2.2.1 X.2.2.2.2.2.2.2.2.1 X.2.2.2.2.2.2.2.2.2.1 H locs 0 0 X.2.2.2.2.2.2.2.2.2.2 (F0 X.2.2.2.2.2.1 pc ls st)
/-- what a method's body stands on -/
def Gd (Y : CG) (X : CX) (cc : ByteArray) (nL : Nat) (own : String) (d : Nat) : Prop :=
  X.1.tables.exec = Jvm.exec ∧ X.2.2.2.2.2.2.2.2.2.1.code = cc ∧ X.2.2.2.2.2.2.2.2.2.1.maxLocals = nL ∧ X.2.2.2.2.1.vm.findClass own = some X.2.2.2.2.2.1.cls ∧ (∀ w ∈ lg_tbl, w.before X.2.2.2.2.2.2.1 X.2.2.2.2.1 = true) ∧ va_K (yD Y) vwCl (yT Y) X.2.2.2.2.1 ∧ X.2.2.2.2.2.2.2.2.1.locks = false ∧ X.2.2.2.1 = rm d ∧ Zx Y X.2.2.2.2.1 X.2.2.2.2.1.heap
/-- the world of a contract -/
def Wc (Y : CG) (r : TR) (h : TH) (U : State) : Prop := Wd Y r h U.heap ∧ WT Y r ∧ va_K (yD Y) vwCl (yT Y) U
/-- a contract's start -/
def Wp (Y : CG) (r : TR) (h : TH) (U : State) : Prop := Wc Y r h U ∧ Zx Y U U.heap
def Mi (Y : CG) (r : TR) (l : Launch) (y : MethodName) (cc : ByteArray) (nL : Nat) (ret : FieldType) (d : Nat) (av : List Value) (h : TH) (post : Int32 → TH → Prop) : Prop :=
  Met l y (Cond.code y cc nL (some ret) :: lg_tbl) (rm d) (va_Pc av (Wp Y r h)) (va_Qi post (Wc Y r) (fun q => q ∈ yL Y)) 0 0 (fun q => q ∈ yL Y)
def Ml (Y : CG) (r : TR) (l : Launch) (y : MethodName) (cc : ByteArray) (nL : Nat) (d : Nat) (av : List Value) (h : TH) (post : Int64 → TH → Prop) : Prop :=
  Met l y (Cond.code y cc nL (some .long) :: lg_tbl) (rm d) (va_Pc av (Wp Y r h)) (va_Ql post (Wc Y r) (fun q => q ∈ yL Y)) 0 0 (fun q => q ∈ yL Y)
def Mv (Y : CG) (r : TR) (l : Launch) (y : MethodName) (cc : ByteArray) (nL : Nat) (d : Nat) (av : List Value) (h : TH) (post : TH → Prop) : Prop :=
  Met l y (Cond.code y cc nL none :: lg_tbl) (rm d) (va_Pc av (Wp Y r h)) (va_Qv post (Wc Y r) (fun q => q ∈ yL Y)) 0 0 (fun q => q ∈ yL Y)
def Ri (Y : CG) (r : TR) (X : CX) (ret : FieldType) (post : Int32 → TH → Prop) : Prop := X.2.2.2.2.2.2.2.2.1.sig.returnType = some ret ∧ X.2.2.2.2.2.2.2.2.2.2 = MQ X.2.2.2.2.2.2.2.1 (va_Qi post (Wc Y r) (fun q => q ∈ yL Y)) X.2.2.2.2.2.2.1 X.2.2.2.2.1 0 0 (fun q => q ∈ yL Y)
def Rl (Y : CG) (r : TR) (X : CX) (post : Int64 → TH → Prop) : Prop := X.2.2.2.2.2.2.2.2.1.sig.returnType = some .long ∧ X.2.2.2.2.2.2.2.2.2.2 = MQ X.2.2.2.2.2.2.2.1 (va_Ql post (Wc Y r) (fun q => q ∈ yL Y)) X.2.2.2.2.2.2.1 X.2.2.2.2.1 0 0 (fun q => q ∈ yL Y)
def Rv (Y : CG) (r : TR) (X : CX) (post : TH → Prop) : Prop := X.2.2.2.2.2.2.2.2.1.sig.returnType = none ∧ X.2.2.2.2.2.2.2.2.2.2 = MQ X.2.2.2.2.2.2.2.1 (va_Qv post (Wc Y r) (fun q => q ∈ yL Y)) X.2.2.2.2.2.2.1 X.2.2.2.2.1 0 0 (fun q => q ∈ yL Y)

theorem Mi.of {Y : CG} {r : TR} {l : Launch} {y : MethodName} {cc : ByteArray} {nL : Nat} {ret : FieldType} {d : Nat} {av : List Value} {h : TH} {post : Int32 → TH → Prop} (own : String) (ho : y.cls = own) (hy : plainName y.cls = true) (hn : (lg_sl av).length ≤ nL) (lv : List (Nat × Value)) (hlv : lv_args 0 av = lv)
    (body : ∀ X : CX, X.2.1 = l → Gd Y X cc nL own d → Ri Y r X ret post → G Y X nL 0 lv [] r h) : Mi Y r l y cc nL ret d av h post := by
  refine Met.ofW (cc := cc) (maxL := nL) (ret := (some ret)) hy rfl ?_
  intro p e s m args below meth c s₁ B hml hv
  obtain ⟨rfl, ⟨hW, hT, hK⟩, hZ⟩ := hv
  have hts := atoms_spec (ws := Cond.code y cc nL (some ret) :: lg_tbl) B.pre
  have hown : s.vm.findClass own = some m.cls := by rw [← ho]; exact findClass_of_methodNamed B.named
  have hl := lv_entry av (n := nL) hn
  rw [lg_entry_eq]
  rw [hlv] at hl
  exact body (p, l, e, rm d, s, m, av.toArray, below, meth, c, _) rfl ⟨B.exec, B.bytes, hml, hown, fun w hw => hts w (List.mem_cons_of_mem _ hw), hK, B.notSynchronized, rfl, hZ⟩ ⟨B.returns, rfl⟩ s.heap [] _ hW va_S.rf hT hl
theorem Ml.of {Y : CG} {r : TR} {l : Launch} {y : MethodName} {cc : ByteArray} {nL : Nat} {d : Nat} {av : List Value} {h : TH} {post : Int64 → TH → Prop} (own : String) (ho : y.cls = own) (hy : plainName y.cls = true) (hn : (lg_sl av).length ≤ nL) (lv : List (Nat × Value)) (hlv : lv_args 0 av = lv)
    (body : ∀ X : CX, X.2.1 = l → Gd Y X cc nL own d → Rl Y r X post → G Y X nL 0 lv [] r h) : Ml Y r l y cc nL d av h post := by
  refine Met.ofW (cc := cc) (maxL := nL) (ret := (some .long)) hy rfl ?_
  intro p e s m args below meth c s₁ B hml hv
  obtain ⟨rfl, ⟨hW, hT, hK⟩, hZ⟩ := hv
  have hts := atoms_spec (ws := Cond.code y cc nL (some .long) :: lg_tbl) B.pre
  have hown : s.vm.findClass own = some m.cls := by rw [← ho]; exact findClass_of_methodNamed B.named
  have hl := lv_entry av (n := nL) hn
  rw [lg_entry_eq]
  rw [hlv] at hl
  exact body (p, l, e, rm d, s, m, av.toArray, below, meth, c, _) rfl ⟨B.exec, B.bytes, hml, hown, fun w hw => hts w (List.mem_cons_of_mem _ hw), hK, B.notSynchronized, rfl, hZ⟩ ⟨B.returns, rfl⟩ s.heap [] _ hW va_S.rf hT hl
theorem Mv.of {Y : CG} {r : TR} {l : Launch} {y : MethodName} {cc : ByteArray} {nL : Nat} {d : Nat} {av : List Value} {h : TH} {post : TH → Prop} (own : String) (ho : y.cls = own) (hy : plainName y.cls = true) (hn : (lg_sl av).length ≤ nL) (lv : List (Nat × Value)) (hlv : lv_args 0 av = lv)
    (body : ∀ X : CX, X.2.1 = l → Gd Y X cc nL own d → Rv Y r X post → G Y X nL 0 lv [] r h) : Mv Y r l y cc nL d av h post := by
  refine Met.ofW (cc := cc) (maxL := nL) (ret := none) hy rfl ?_
  intro p e s m args below meth c s₁ B hml hv
  obtain ⟨rfl, ⟨hW, hT, hK⟩, hZ⟩ := hv
  have hts := atoms_spec (ws := Cond.code y cc nL none :: lg_tbl) B.pre
  have hown : s.vm.findClass own = some m.cls := by rw [← ho]; exact findClass_of_methodNamed B.named
  have hl := lv_entry av (n := nL) hn
  rw [lg_entry_eq]
  rw [hlv] at hl
  exact body (p, l, e, rm d, s, m, av.toArray, below, meth, c, _) rfl ⟨B.exec, B.bytes, hml, hown, fun w hw => hts w (List.mem_cons_of_mem _ hw), hK, B.notSynchronized, rfl, hZ⟩ ⟨B.returns, rfl⟩ s.heap [] _ hW va_S.rf hT hl
section ROWS
variable {Y : CG} {X : CX} {cc : ByteArray} {nL d : Nat} {own : String} {pc : Nat} {lv : List (Nat × Value)} {st : List Value} {r : TR} {h : TH}
theorem g_wt (k : WT Y r → G Y X nL pc lv st r h) : G Y X nL pc lv st r h := fun H locs ls hW hS hT hl => k hT H locs ls hW hS hT hl
theorem g_sub {lv' : List (Nat × Value)} (ks : List Nat) (e : lv_pick lv ks = lv') (k : G Y X nL pc lv' st r h) : G Y X nL pc lv st r h := fun H locs ls hW hS hT hl => k H locs ls hW hS hT (lv_sub hl ks e)
theorem g_pc {pc' : Nat} (e : pc = pc') (k : G Y X nL pc' lv st r h) : G Y X nL pc lv st r h := by subst e; exact k
theorem g_topi {x : Int32} (k : ∀ y, y = x → G Y X nL pc lv (.int y :: st) r h) : G Y X nL pc lv (.int x :: st) r h := k x rfl
theorem g_topl {x : Int64} (k : ∀ y, y = x → G Y X nL pc lv (.long y :: st) r h) : G Y X nL pc lv (.long x :: st) r h := k x rfl
theorem g_iadd {x y : Int32} (C : Gd Y X cc nL own d) (dg : decode cc pc = .ok (.iadd, 1)) (k : G Y X nL (pc + 1) lv (.int (x + y) :: st) r h) : G Y X nL pc lv (.int y :: .int x :: st) r h := fun H locs ls hW hS hT hl => lv_iadd C.1 C.2.1 dg (k H locs ls hW hS hT hl)
theorem g_isub {x y : Int32} (C : Gd Y X cc nL own d) (dg : decode cc pc = .ok (.isub, 1)) (k : G Y X nL (pc + 1) lv (.int (x - y) :: st) r h) : G Y X nL pc lv (.int y :: .int x :: st) r h := fun H locs ls hW hS hT hl => lv_isub C.1 C.2.1 dg (k H locs ls hW hS hT hl)
theorem g_imul {x y : Int32} (C : Gd Y X cc nL own d) (dg : decode cc pc = .ok (.imul, 1)) (k : G Y X nL (pc + 1) lv (.int (x * y) :: st) r h) : G Y X nL pc lv (.int y :: .int x :: st) r h := fun H locs ls hW hS hT hl => lv_imul C.1 C.2.1 dg (k H locs ls hW hS hT hl)
theorem g_iand {x y : Int32} (C : Gd Y X cc nL own d) (dg : decode cc pc = .ok (.iand, 1)) (k : G Y X nL (pc + 1) lv (.int (x &&& y) :: st) r h) : G Y X nL pc lv (.int y :: .int x :: st) r h := fun H locs ls hW hS hT hl => lv_iand C.1 C.2.1 dg (k H locs ls hW hS hT hl)
theorem g_ior {x y : Int32} (C : Gd Y X cc nL own d) (dg : decode cc pc = .ok (.ior, 1)) (k : G Y X nL (pc + 1) lv (.int (x ||| y) :: st) r h) : G Y X nL pc lv (.int y :: .int x :: st) r h := fun H locs ls hW hS hT hl => lv_ior C.1 C.2.1 dg (k H locs ls hW hS hT hl)
theorem g_ixor {x y : Int32} (C : Gd Y X cc nL own d) (dg : decode cc pc = .ok (.ixor, 1)) (k : G Y X nL (pc + 1) lv (.int (x ^^^ y) :: st) r h) : G Y X nL pc lv (.int y :: .int x :: st) r h := fun H locs ls hW hS hT hl => lv_ixor C.1 C.2.1 dg (k H locs ls hW hS hT hl)
theorem g_ishl {x y : Int32} (C : Gd Y X cc nL own d) (dg : decode cc pc = .ok (.ishl, 1)) (k : G Y X nL (pc + 1) lv (.int (x <<< (y &&& 31)) :: st) r h) : G Y X nL pc lv (.int y :: .int x :: st) r h := fun H locs ls hW hS hT hl => lv_ishl C.1 C.2.1 dg (k H locs ls hW hS hT hl)
theorem g_ishr {x y : Int32} (C : Gd Y X cc nL own d) (dg : decode cc pc = .ok (.ishr, 1)) (k : G Y X nL (pc + 1) lv (.int (x >>> (y &&& 31)) :: st) r h) : G Y X nL pc lv (.int y :: .int x :: st) r h := fun H locs ls hW hS hT hl => lv_ishr C.1 C.2.1 dg (k H locs ls hW hS hT hl)
def jushr (x y : Int32) : Int32 := (x.toUInt32 >>> (y.toUInt32 &&& Int32.toUInt32 31)).toInt32
def jrem (x y : Int32) : Int32 := x - x / y * y
def jshl (x : Int64) (y : Int32) : Int64 := x <<< (y.toInt64 &&& 63)
def jshr (x : Int64) (y : Int32) : Int64 := x >>> (y.toInt64 &&& 63)
def jushrl (x : Int64) (y : Int32) : Int64 := (x.toUInt64 >>> (y.toInt64.toUInt64 &&& Int64.toUInt64 63)).toInt64
def jreml (x y : Int64) : Int64 := x - x / y * y
def jchar (x : Int32) : Int32 := (x.toUInt32 % 65536).toInt32
theorem g_iushr {x y : Int32} (C : Gd Y X cc nL own d) (dg : decode cc pc = .ok (.iushr, 1)) (k : G Y X nL (pc + 1) lv (.int (jushr x y) :: st) r h) : G Y X nL pc lv (.int y :: .int x :: st) r h := fun H locs ls hW hS hT hl => lv_iushr C.1 C.2.1 dg rfl (k H locs ls hW hS hT hl)
theorem g_idiv {x y : Int32} (hne : ¬ y = 0) (C : Gd Y X cc nL own d) (dg : decode cc pc = .ok (.idiv, 1)) (k : G Y X nL (pc + 1) lv (.int (x / y) :: st) r h) : G Y X nL pc lv (.int y :: .int x :: st) r h := fun H locs ls hW hS hT hl => lv_idiv C.1 C.2.1 dg hne (k H locs ls hW hS hT hl)
theorem g_irem {x y : Int32} (hne : ¬ y = 0) (C : Gd Y X cc nL own d) (dg : decode cc pc = .ok (.irem, 1)) (k : G Y X nL (pc + 1) lv (.int (jrem x y) :: st) r h) : G Y X nL pc lv (.int y :: .int x :: st) r h := fun H locs ls hW hS hT hl => lv_irem C.1 C.2.1 dg hne (k H locs ls hW hS hT hl)
theorem g_ladd {x y : Int64} (C : Gd Y X cc nL own d) (dg : decode cc pc = .ok (.ladd, 1)) (k : G Y X nL (pc + 1) lv (.long (x + y) :: st) r h) : G Y X nL pc lv (.long y :: .long x :: st) r h := fun H locs ls hW hS hT hl => lv_ladd C.1 C.2.1 dg (k H locs ls hW hS hT hl)
theorem g_lsub {x y : Int64} (C : Gd Y X cc nL own d) (dg : decode cc pc = .ok (.lsub, 1)) (k : G Y X nL (pc + 1) lv (.long (x - y) :: st) r h) : G Y X nL pc lv (.long y :: .long x :: st) r h := fun H locs ls hW hS hT hl => lv_lsub C.1 C.2.1 dg (k H locs ls hW hS hT hl)
theorem g_lmul {x y : Int64} (C : Gd Y X cc nL own d) (dg : decode cc pc = .ok (.lmul, 1)) (k : G Y X nL (pc + 1) lv (.long (x * y) :: st) r h) : G Y X nL pc lv (.long y :: .long x :: st) r h := fun H locs ls hW hS hT hl => lv_lmul C.1 C.2.1 dg (k H locs ls hW hS hT hl)
theorem g_land {x y : Int64} (C : Gd Y X cc nL own d) (dg : decode cc pc = .ok (.land, 1)) (k : G Y X nL (pc + 1) lv (.long (x &&& y) :: st) r h) : G Y X nL pc lv (.long y :: .long x :: st) r h := fun H locs ls hW hS hT hl => lv_land C.1 C.2.1 dg (k H locs ls hW hS hT hl)
theorem g_lor {x y : Int64} (C : Gd Y X cc nL own d) (dg : decode cc pc = .ok (.lor, 1)) (k : G Y X nL (pc + 1) lv (.long (x ||| y) :: st) r h) : G Y X nL pc lv (.long y :: .long x :: st) r h := fun H locs ls hW hS hT hl => lv_lor C.1 C.2.1 dg (k H locs ls hW hS hT hl)
theorem g_lxor {x y : Int64} (C : Gd Y X cc nL own d) (dg : decode cc pc = .ok (.lxor, 1)) (k : G Y X nL (pc + 1) lv (.long (x ^^^ y) :: st) r h) : G Y X nL pc lv (.long y :: .long x :: st) r h := fun H locs ls hW hS hT hl => lv_lxor C.1 C.2.1 dg (k H locs ls hW hS hT hl)
theorem g_ldiv {x y : Int64} (hne : ¬ y = 0) (C : Gd Y X cc nL own d) (dg : decode cc pc = .ok (.ldiv, 1)) (k : G Y X nL (pc + 1) lv (.long (x / y) :: st) r h) : G Y X nL pc lv (.long y :: .long x :: st) r h := fun H locs ls hW hS hT hl => lv_ldiv C.1 C.2.1 dg hne (k H locs ls hW hS hT hl)
theorem g_lrem {x y : Int64} (hne : ¬ y = 0) (C : Gd Y X cc nL own d) (dg : decode cc pc = .ok (.lrem, 1)) (k : G Y X nL (pc + 1) lv (.long (jreml x y) :: st) r h) : G Y X nL pc lv (.long y :: .long x :: st) r h := fun H locs ls hW hS hT hl => lv_lrem C.1 C.2.1 dg hne (k H locs ls hW hS hT hl)
theorem g_lshl {x : Int64} {y : Int32} (C : Gd Y X cc nL own d) (dg : decode cc pc = .ok (.lshl, 1)) (k : G Y X nL (pc + 1) lv (.long (jshl x y) :: st) r h) : G Y X nL pc lv (.int y :: .long x :: st) r h := fun H locs ls hW hS hT hl => lv_lshl C.1 C.2.1 dg rfl (k H locs ls hW hS hT hl)
theorem g_lshr {x : Int64} {y : Int32} (C : Gd Y X cc nL own d) (dg : decode cc pc = .ok (.lshr, 1)) (k : G Y X nL (pc + 1) lv (.long (jshr x y) :: st) r h) : G Y X nL pc lv (.int y :: .long x :: st) r h := fun H locs ls hW hS hT hl => lv_lshr C.1 C.2.1 dg rfl (k H locs ls hW hS hT hl)
theorem g_lushr {x : Int64} {y : Int32} (C : Gd Y X cc nL own d) (dg : decode cc pc = .ok (.lushr, 1)) (k : G Y X nL (pc + 1) lv (.long (jushrl x y) :: st) r h) : G Y X nL pc lv (.int y :: .long x :: st) r h := fun H locs ls hW hS hT hl => lv_lushr C.1 C.2.1 dg rfl (k H locs ls hW hS hT hl)
theorem g_lcmp {x y : Int64} (C : Gd Y X cc nL own d) (dg : decode cc pc = .ok (.lcmp, 1)) (k : G Y X nL (pc + 1) lv (.int (lg_cmp x y) :: st) r h) : G Y X nL pc lv (.long y :: .long x :: st) r h := fun H locs ls hW hS hT hl => W.lcmp C.1 C.2.1 dg (k H locs ls hW hS hT hl)
theorem g_i2l {x : Int32} (C : Gd Y X cc nL own d) (dg : decode cc pc = .ok (.i2l, 1)) (k : G Y X nL (pc + 1) lv (.long x.toInt64 :: st) r h) : G Y X nL pc lv (.int x :: st) r h := fun H locs ls hW hS hT hl => lv_i2l C.1 C.2.1 dg rfl (k H locs ls hW hS hT hl)
theorem g_l2i {x : Int64} (C : Gd Y X cc nL own d) (dg : decode cc pc = .ok (.l2i, 1)) (k : G Y X nL (pc + 1) lv (.int x.toInt32 :: st) r h) : G Y X nL pc lv (.long x :: st) r h := fun H locs ls hW hS hT hl => lv_l2i C.1 C.2.1 dg rfl (k H locs ls hW hS hT hl)
theorem g_i2b {x : Int32} (C : Gd Y X cc nL own d) (dg : decode cc pc = .ok (.i2b, 1)) (k : G Y X nL (pc + 1) lv (.int x.toInt8.toInt32 :: st) r h) : G Y X nL pc lv (.int x :: st) r h := fun H locs ls hW hS hT hl => lv_i2b C.1 C.2.1 dg rfl (k H locs ls hW hS hT hl)
theorem g_i2c {x : Int32} (C : Gd Y X cc nL own d) (dg : decode cc pc = .ok (.i2c, 1)) (k : G Y X nL (pc + 1) lv (.int (jchar x) :: st) r h) : G Y X nL pc lv (.int x :: st) r h := fun H locs ls hW hS hT hl => lv_i2c C.1 C.2.1 dg rfl (k H locs ls hW hS hT hl)
theorem g_ineg {x : Int32} (C : Gd Y X cc nL own d) (dg : decode cc pc = .ok (.ineg, 1)) (k : G Y X nL (pc + 1) lv (.int (-x) :: st) r h) : G Y X nL pc lv (.int x :: st) r h := fun H locs ls hW hS hT hl => lv_ineg C.1 C.2.1 dg (k H locs ls hW hS hT hl)
theorem g_iconst {n : Int} {v : Int32} (hv : Int32.ofInt n = v) (C : Gd Y X cc nL own d) (dg : decode cc pc = .ok (.iconst n, 1)) (k : G Y X nL (pc + 1) lv (.int v :: st) r h) : G Y X nL pc lv (st) r h := fun H locs ls hW hS hT hl => lv_iconst C.1 C.2.1 dg hv (k H locs ls hW hS hT hl)
theorem g_bipush {n : Int} {v : Int32} (hv : (Int8.ofInt n).toInt32 = v) (C : Gd Y X cc nL own d) (dg : decode cc pc = .ok (.bipush n, 2)) (k : G Y X nL (pc + 2) lv (.int v :: st) r h) : G Y X nL pc lv (st) r h := fun H locs ls hW hS hT hl => lv_bipush C.1 C.2.1 dg hv (k H locs ls hW hS hT hl)
theorem g_sipush {n : Int} {v : Int32} (hv : (Int16.ofInt n).toInt32 = v) (C : Gd Y X cc nL own d) (dg : decode cc pc = .ok (.sipush n, 3)) (k : G Y X nL (pc + 3) lv (.int v :: st) r h) : G Y X nL pc lv (st) r h := fun H locs ls hW hS hT hl => lv_sipush C.1 C.2.1 dg hv (k H locs ls hW hS hT hl)
theorem g_lconst {n : Fin 2} {v : Int64} (hv : Int64.ofNat (n : Nat) = v) (C : Gd Y X cc nL own d) (dg : decode cc pc = .ok (.lconst n, 1)) (k : G Y X nL (pc + 1) lv (.long v :: st) r h) : G Y X nL pc lv (st) r h := fun H locs ls hW hS hT hl => lv_lconst C.1 C.2.1 dg hv (k H locs ls hW hS hT hl)
theorem g_ldc {i : Nat} {v : Int32} (hc : Cond.constant own i v ∈ lg_tbl) (C : Gd Y X cc nL own d) (dg : decode cc pc = .ok (.ldc i, 2)) (k : G Y X nL (pc + 2) lv (.int v :: st) r h) : G Y X nL pc lv (st) r h := fun H locs ls hW hS hT hl => lv_ldc C.1 C.2.1 C.2.2.2.1 (C.2.2.2.2.1 _ hc) dg (k H locs ls hW hS hT hl)
theorem g_ldcw {i : Nat} {v : Int32} (hc : Cond.constant own i v ∈ lg_tbl) (C : Gd Y X cc nL own d) (dg : decode cc pc = .ok (.ldc_w i, 3)) (k : G Y X nL (pc + 3) lv (.int v :: st) r h) : G Y X nL pc lv (st) r h := fun H locs ls hW hS hT hl => lv_ldcw C.1 C.2.1 C.2.2.2.1 (C.2.2.2.2.1 _ hc) dg (k H locs ls hW hS hT hl)
theorem g_ldc2 {i : Nat} {v : Int64} (hc : Cond.constantLong own i v ∈ lg_tbl) (C : Gd Y X cc nL own d) (dg : decode cc pc = .ok (.ldc2_w i, 3)) (k : G Y X nL (pc + 3) lv (.long v :: st) r h) : G Y X nL pc lv (st) r h := fun H locs ls hW hS hT hl => lv_ldc2 C.1 C.2.1 C.2.2.2.1 (C.2.2.2.2.1 _ hc) dg (k H locs ls hW hS hT hl)
theorem g_pop {v : Value} (hc : v.category = 1) (C : Gd Y X cc nL own d) (dg : decode cc pc = .ok (.pop, 1)) (k : G Y X nL (pc + 1) lv (st) r h) : G Y X nL pc lv (v :: st) r h := fun H locs ls hW hS hT hl => lv_pop C.1 C.2.1 dg hc (k H locs ls hW hS hT hl)
theorem g_dup {v : Value} (hc : v.category = 1) (C : Gd Y X cc nL own d) (dg : decode cc pc = .ok (.dup, 1)) (k : G Y X nL (pc + 1) lv (v :: v :: st) r h) : G Y X nL pc lv (v :: st) r h := fun H locs ls hW hS hT hl => lv_dup C.1 C.2.1 dg hc (k H locs ls hW hS hT hl)
theorem g_dup2 {v u : Value} (hc : v.category = 1) (hc2 : u.category = 1) (C : Gd Y X cc nL own d) (dg : decode cc pc = .ok (.dup2, 1)) (k : G Y X nL (pc + 1) lv (v :: u :: v :: u :: st) r h) : G Y X nL pc lv (v :: u :: st) r h := fun H locs ls hW hS hT hl => lv_dup2_11 C.1 C.2.1 dg hc hc2 (k H locs ls hW hS hT hl)
theorem g_iload_n {k : Fin 4} {i : Nat} {x : Int32} (hi : (k : Nat) = i) (q : Nat) (hq : lv[q]? = some (i, .int x)) (C : Gd Y X cc nL own d) (dg : decode cc pc = .ok (.iload_n k, 1)) (k : G Y X nL (pc + 1) lv (.int x :: st) r h) : G Y X nL pc lv (st) r h := fun H locs ls hW hS hT hl => lv_iload_n C.1 C.2.1 dg hi (lv_at hl q hq) (k H locs ls hW hS hT hl)
theorem g_iload {i : Nat} {x : Int32} (q : Nat) (hq : lv[q]? = some (i, .int x)) (C : Gd Y X cc nL own d) (dg : decode cc pc = .ok (.iload i, 2)) (k : G Y X nL (pc + 2) lv (.int x :: st) r h) : G Y X nL pc lv (st) r h := fun H locs ls hW hS hT hl => lv_iload C.1 C.2.1 dg (lv_at hl q hq) (k H locs ls hW hS hT hl)
theorem g_lload_n {k : Fin 4} {i : Nat} {x : Int64} (hi : (k : Nat) = i) (q : Nat) (hq : lv[q]? = some (i, .long x)) (C : Gd Y X cc nL own d) (dg : decode cc pc = .ok (.lload_n k, 1)) (k : G Y X nL (pc + 1) lv (.long x :: st) r h) : G Y X nL pc lv (st) r h := fun H locs ls hW hS hT hl => lv_lload_n C.1 C.2.1 dg hi (lv_at hl q hq) (k H locs ls hW hS hT hl)
theorem g_lload {i : Nat} {x : Int64} (q : Nat) (hq : lv[q]? = some (i, .long x)) (C : Gd Y X cc nL own d) (dg : decode cc pc = .ok (.lload i, 2)) (k : G Y X nL (pc + 2) lv (.long x :: st) r h) : G Y X nL pc lv (st) r h := fun H locs ls hW hS hT hl => lv_lload C.1 C.2.1 dg (lv_at hl q hq) (k H locs ls hW hS hT hl)
theorem g_aload_n {k : Fin 4} {i : Nat} {x : Nat} (hi : (k : Nat) = i) (q : Nat) (hq : lv[q]? = some (i, .ref x)) (C : Gd Y X cc nL own d) (dg : decode cc pc = .ok (.aload_n k, 1)) (k : G Y X nL (pc + 1) lv (.ref x :: st) r h) : G Y X nL pc lv (st) r h := fun H locs ls hW hS hT hl => lv_aload_n C.1 C.2.1 dg hi (lv_at hl q hq) (k H locs ls hW hS hT hl)
theorem g_aload {i : Nat} {x : Nat} (q : Nat) (hq : lv[q]? = some (i, .ref x)) (C : Gd Y X cc nL own d) (dg : decode cc pc = .ok (.aload i, 2)) (k : G Y X nL (pc + 2) lv (.ref x :: st) r h) : G Y X nL pc lv (st) r h := fun H locs ls hW hS hT hl => lv_aload C.1 C.2.1 dg (lv_at hl q hq) (k H locs ls hW hS hT hl)
theorem g_istore_n {k : Fin 4} {i : Nat} {e : Int32} (lv' : Int32 → List (Nat × Value)) (C : Gd Y X cc nL own d) (dg : decode cc pc = .ok (.istore_n k, 1)) (hi : (k : Nat) = i) (hn : i < nL) (hl' : (i, Value.int e) :: lv.filter (fun q => !(q.1 == i) && !(q.1 + 1 == i && q.2.category == 2)) = lv' e) (k : ∀ x, x = e → G Y X nL (pc + 1) (lv' x) st r h) : G Y X nL pc lv (.int e :: st) r h := fun H locs ls hW hS hT hl => lv_istore_n C.1 C.2.1 dg hi hl hn hl' (fun ls' hl2 => k e rfl H locs ls' hW hS hT hl2)
theorem g_istore {i : Nat} {e : Int32} (lv' : Int32 → List (Nat × Value)) (C : Gd Y X cc nL own d) (dg : decode cc pc = .ok (.istore i, 2)) (hn : i < nL) (hl' : (i, Value.int e) :: lv.filter (fun q => !(q.1 == i) && !(q.1 + 1 == i && q.2.category == 2)) = lv' e) (k : ∀ x, x = e → G Y X nL (pc + 2) (lv' x) st r h) : G Y X nL pc lv (.int e :: st) r h := fun H locs ls hW hS hT hl => lv_istore C.1 C.2.1 dg hl hn hl' (fun ls' hl2 => k e rfl H locs ls' hW hS hT hl2)
theorem g_lstore_n {k : Fin 4} {i : Nat} {e : Int64} (lv' : Int64 → List (Nat × Value)) (C : Gd Y X cc nL own d) (dg : decode cc pc = .ok (.lstore_n k, 1)) (hi : (k : Nat) = i) (hn : i + 1 < nL) (hl' : (i, Value.long e) :: lv.filter (fun q => !(q.1 == i) && (!(q.1 == i + 1) && !(q.1 + 1 == i && q.2.category == 2))) = lv' e) (k : ∀ x, x = e → G Y X nL (pc + 1) (lv' x) st r h) : G Y X nL pc lv (.long e :: st) r h := fun H locs ls hW hS hT hl => lv_lstore_n C.1 C.2.1 dg hi hl hn hl' (fun ls' hl2 => k e rfl H locs ls' hW hS hT hl2)
theorem g_lstore {i : Nat} {e : Int64} (lv' : Int64 → List (Nat × Value)) (C : Gd Y X cc nL own d) (dg : decode cc pc = .ok (.lstore i, 2)) (hn : i + 1 < nL) (hl' : (i, Value.long e) :: lv.filter (fun q => !(q.1 == i) && (!(q.1 == i + 1) && !(q.1 + 1 == i && q.2.category == 2))) = lv' e) (k : ∀ x, x = e → G Y X nL (pc + 2) (lv' x) st r h) : G Y X nL pc lv (.long e :: st) r h := fun H locs ls hW hS hT hl => lv_lstore C.1 C.2.1 dg hl hn hl' (fun ls' hl2 => k e rfl H locs ls' hW hS hT hl2)
theorem g_astore_n {k : Fin 4} {i : Nat} {e : Nat} (lv' : Nat → List (Nat × Value)) (C : Gd Y X cc nL own d) (dg : decode cc pc = .ok (.astore_n k, 1)) (hi : (k : Nat) = i) (hn : i < nL) (hl' : (i, Value.ref e) :: lv.filter (fun q => !(q.1 == i) && !(q.1 + 1 == i && q.2.category == 2)) = lv' e) (k : ∀ x, x = e → G Y X nL (pc + 1) (lv' x) st r h) : G Y X nL pc lv (.ref e :: st) r h := fun H locs ls hW hS hT hl => lv_astore_n C.1 C.2.1 dg hi hl hn hl' (fun ls' hl2 => k e rfl H locs ls' hW hS hT hl2)
theorem g_astore {i : Nat} {e : Nat} (lv' : Nat → List (Nat × Value)) (C : Gd Y X cc nL own d) (dg : decode cc pc = .ok (.astore i, 2)) (hn : i < nL) (hl' : (i, Value.ref e) :: lv.filter (fun q => !(q.1 == i) && !(q.1 + 1 == i && q.2.category == 2)) = lv' e) (k : ∀ x, x = e → G Y X nL (pc + 2) (lv' x) st r h) : G Y X nL pc lv (.ref e :: st) r h := fun H locs ls hW hS hT hl => lv_astore C.1 C.2.1 dg hl hn hl' (fun ls' hl2 => k e rfl H locs ls' hW hS hT hl2)
theorem g_iinc {i q : Nat} {n : Int} {x c : Int32} (lv' : Int32 → List (Nat × Value)) (C : Gd Y X cc nL own d) (dg : decode cc pc = .ok (.iinc i n, 3)) (hq : lv[q]? = some (i, .int x)) (hc : Int32.ofInt n = c) (hn : i < nL) (hl' : (i, Value.int (x + c)) :: lv.filter (fun q => !(q.1 == i) && !(q.1 + 1 == i && q.2.category == 2)) = lv' (x + c)) (k : ∀ y, y = x + c → G Y X nL (pc + 3) (lv' y) st r h) : G Y X nL pc lv st r h := fun H locs ls hW hS hT hl => lv_iinc C.1 C.2.1 dg hl hq (by rw [hc]) hn hl' (fun ls' hl2 => k (x + c) rfl H locs ls' hW hS hT hl2)
theorem g_if_eq {x : Int32} {off : Int} (tgt : Nat) (C : Gd Y X cc nL own d) (dg : decode cc pc = .ok (.ifCond .eq off, 3)) (ht : (pc : Int) + off = (tgt : Int)) (kt : x = 0 → G Y X nL tgt lv st r h) (kf : ¬ x = 0 → G Y X nL (pc + 3) lv st r h) : G Y X nL pc lv (.int x :: st) r h := fun H locs ls hW hS hT hl => lv_if_eq C.1 C.2.1 dg ht (fun e => kt e H locs ls hW hS hT hl) (fun e => kf e H locs ls hW hS hT hl)
theorem g_icmp_eq {x y : Int32} {off : Int} (tgt : Nat) (C : Gd Y X cc nL own d) (dg : decode cc pc = .ok (.if_icmp .eq off, 3)) (ht : (pc : Int) + off = (tgt : Int)) (kt : x = y → G Y X nL tgt lv st r h) (kf : ¬ x = y → G Y X nL (pc + 3) lv st r h) : G Y X nL pc lv (.int y :: .int x :: st) r h := fun H locs ls hW hS hT hl => lv_icmp_eq C.1 C.2.1 dg ht (fun e => kt e H locs ls hW hS hT hl) (fun e => kf e H locs ls hW hS hT hl)
theorem g_if_ne {x : Int32} {off : Int} (tgt : Nat) (C : Gd Y X cc nL own d) (dg : decode cc pc = .ok (.ifCond .ne off, 3)) (ht : (pc : Int) + off = (tgt : Int)) (kt : ¬ x = 0 → G Y X nL tgt lv st r h) (kf : x = 0 → G Y X nL (pc + 3) lv st r h) : G Y X nL pc lv (.int x :: st) r h := fun H locs ls hW hS hT hl => lv_if_ne C.1 C.2.1 dg ht (fun e => kt e H locs ls hW hS hT hl) (fun e => kf e H locs ls hW hS hT hl)
theorem g_icmp_ne {x y : Int32} {off : Int} (tgt : Nat) (C : Gd Y X cc nL own d) (dg : decode cc pc = .ok (.if_icmp .ne off, 3)) (ht : (pc : Int) + off = (tgt : Int)) (kt : ¬ x = y → G Y X nL tgt lv st r h) (kf : x = y → G Y X nL (pc + 3) lv st r h) : G Y X nL pc lv (.int y :: .int x :: st) r h := fun H locs ls hW hS hT hl => lv_icmp_ne C.1 C.2.1 dg ht (fun e => kt e H locs ls hW hS hT hl) (fun e => kf e H locs ls hW hS hT hl)
theorem g_if_lt {x : Int32} {off : Int} (tgt : Nat) (C : Gd Y X cc nL own d) (dg : decode cc pc = .ok (.ifCond .lt off, 3)) (ht : (pc : Int) + off = (tgt : Int)) (kt : x < 0 → G Y X nL tgt lv st r h) (kf : ¬ x < 0 → G Y X nL (pc + 3) lv st r h) : G Y X nL pc lv (.int x :: st) r h := fun H locs ls hW hS hT hl => lv_if_lt C.1 C.2.1 dg ht (fun e => kt e H locs ls hW hS hT hl) (fun e => kf e H locs ls hW hS hT hl)
theorem g_icmp_lt {x y : Int32} {off : Int} (tgt : Nat) (C : Gd Y X cc nL own d) (dg : decode cc pc = .ok (.if_icmp .lt off, 3)) (ht : (pc : Int) + off = (tgt : Int)) (kt : x < y → G Y X nL tgt lv st r h) (kf : ¬ x < y → G Y X nL (pc + 3) lv st r h) : G Y X nL pc lv (.int y :: .int x :: st) r h := fun H locs ls hW hS hT hl => lv_icmp_lt C.1 C.2.1 dg ht (fun e => kt e H locs ls hW hS hT hl) (fun e => kf e H locs ls hW hS hT hl)
theorem g_if_ge {x : Int32} {off : Int} (tgt : Nat) (C : Gd Y X cc nL own d) (dg : decode cc pc = .ok (.ifCond .ge off, 3)) (ht : (pc : Int) + off = (tgt : Int)) (kt : 0 ≤ x → G Y X nL tgt lv st r h) (kf : ¬ 0 ≤ x → G Y X nL (pc + 3) lv st r h) : G Y X nL pc lv (.int x :: st) r h := fun H locs ls hW hS hT hl => lv_if_ge C.1 C.2.1 dg ht (fun e => kt e H locs ls hW hS hT hl) (fun e => kf e H locs ls hW hS hT hl)
theorem g_icmp_ge {x y : Int32} {off : Int} (tgt : Nat) (C : Gd Y X cc nL own d) (dg : decode cc pc = .ok (.if_icmp .ge off, 3)) (ht : (pc : Int) + off = (tgt : Int)) (kt : y ≤ x → G Y X nL tgt lv st r h) (kf : ¬ y ≤ x → G Y X nL (pc + 3) lv st r h) : G Y X nL pc lv (.int y :: .int x :: st) r h := fun H locs ls hW hS hT hl => lv_icmp_ge C.1 C.2.1 dg ht (fun e => kt e H locs ls hW hS hT hl) (fun e => kf e H locs ls hW hS hT hl)
theorem g_if_gt {x : Int32} {off : Int} (tgt : Nat) (C : Gd Y X cc nL own d) (dg : decode cc pc = .ok (.ifCond .gt off, 3)) (ht : (pc : Int) + off = (tgt : Int)) (kt : 0 < x → G Y X nL tgt lv st r h) (kf : ¬ 0 < x → G Y X nL (pc + 3) lv st r h) : G Y X nL pc lv (.int x :: st) r h := fun H locs ls hW hS hT hl => lv_if_gt C.1 C.2.1 dg ht (fun e => kt e H locs ls hW hS hT hl) (fun e => kf e H locs ls hW hS hT hl)
theorem g_icmp_gt {x y : Int32} {off : Int} (tgt : Nat) (C : Gd Y X cc nL own d) (dg : decode cc pc = .ok (.if_icmp .gt off, 3)) (ht : (pc : Int) + off = (tgt : Int)) (kt : y < x → G Y X nL tgt lv st r h) (kf : ¬ y < x → G Y X nL (pc + 3) lv st r h) : G Y X nL pc lv (.int y :: .int x :: st) r h := fun H locs ls hW hS hT hl => lv_icmp_gt C.1 C.2.1 dg ht (fun e => kt e H locs ls hW hS hT hl) (fun e => kf e H locs ls hW hS hT hl)
theorem g_if_le {x : Int32} {off : Int} (tgt : Nat) (C : Gd Y X cc nL own d) (dg : decode cc pc = .ok (.ifCond .le off, 3)) (ht : (pc : Int) + off = (tgt : Int)) (kt : x ≤ 0 → G Y X nL tgt lv st r h) (kf : ¬ x ≤ 0 → G Y X nL (pc + 3) lv st r h) : G Y X nL pc lv (.int x :: st) r h := fun H locs ls hW hS hT hl => lv_if_le C.1 C.2.1 dg ht (fun e => kt e H locs ls hW hS hT hl) (fun e => kf e H locs ls hW hS hT hl)
theorem g_icmp_le {x y : Int32} {off : Int} (tgt : Nat) (C : Gd Y X cc nL own d) (dg : decode cc pc = .ok (.if_icmp .le off, 3)) (ht : (pc : Int) + off = (tgt : Int)) (kt : x ≤ y → G Y X nL tgt lv st r h) (kf : ¬ x ≤ y → G Y X nL (pc + 3) lv st r h) : G Y X nL pc lv (.int y :: .int x :: st) r h := fun H locs ls hW hS hT hl => lv_icmp_le C.1 C.2.1 dg ht (fun e => kt e H locs ls hW hS hT hl) (fun e => kf e H locs ls hW hS hT hl)
theorem g_goto {off : Int} (tgt : Nat) (C : Gd Y X cc nL own d) (dg : decode cc pc = .ok (.goto off, 3)) (ht : (pc : Int) + off = (tgt : Int)) (k : G Y X nL tgt lv st r h) : G Y X nL pc lv st r h := fun H locs ls hW hS hT hl => lv_goto C.1 C.2.1 dg ht (k H locs ls hW hS hT hl)
theorem g_tswIn {dflt lo hi : Int} {offs : Array Int} {len : Nat} {x : Int32} {off : Int} (tgt : Nat) (C : Gd Y X cc nL own d) (dg : decode cc pc = .ok (.tableswitch dflt lo hi offs, len)) (v : Int32) (e : x = v) (h1 : ¬ v.toInt < lo) (h2 : ¬ hi < v.toInt) (ho : offs[(v.toInt - lo).toNat]? = some off) (ht : (pc : Int) + off = (tgt : Int)) (k : G Y X nL tgt lv st r h) : G Y X nL pc lv (.int x :: st) r h := by
  subst e
  exact fun H locs ls hW hS hT hl => lv_tableIn C.1 C.2.1 dg h1 h2 ho ht (k H locs ls hW hS hT hl)
theorem g_tswOut {dflt lo hi : Int} {offs : Array Int} {len : Nat} {x : Int32} (tgt : Nat) (C : Gd Y X cc nL own d) (dg : decode cc pc = .ok (.tableswitch dflt lo hi offs, len)) (ho : x.toInt < lo ∨ hi < x.toInt) (ht : (pc : Int) + dflt = (tgt : Int)) (k : G Y X nL tgt lv st r h) : G Y X nL pc lv (.int x :: st) r h := fun H locs ls hW hS hT hl => lv_tableOut C.1 C.2.1 dg ho ht (k H locs ls hW hS hT hl)
theorem tsw_ne {x c : Int32} (h : ¬ x = c) : ¬ x.toInt = c.toInt := fun e => h (Int32.toInt_inj.mp e)
/-- a field by its place in the pool: class k, slot j, its type, whether it is final -/
def FL (own : String) (idx k j : Nat) (tj : FieldType) (fin : Bool) : Prop := ∃ (C : String) (T : u_T) (n : Nat) (ty : Nat → FieldType), vwCl[k]? = some (C, T, n) ∧ (∀ w ∈ u_ws C T n, w ∈ lg_tbl) ∧ j < n ∧ nF k = n ∧ k < 9 ∧ Cond.fieldLink own idx (T j).1 (T j).2.1 (T j).2.2.1 ∈ lg_tbl ∧ (∀ i, i < n → parseFieldDescriptor (T i).2.2.1 = some (ty i)) ∧ (∀ a, a < n → ∀ b, b < n → a ≠ b → (T a).2.1 ≠ (T b).2.1) ∧ ty j = tj ∧ (T j).2.2.2 = fin
theorem pl_get {o : Nat} (ho : o ∈ yL Y) {x : va_E} (hx : cE Y r h o = x) : ∃ q : Nat, (va_pl (yL Y) (cE Y r h))[q]? = some (o, cE Y r h o) ∧ (va_pl (yL Y) (cE Y r h))[q]? = some (o, x) := by
  obtain ⟨q, hq⟩ := va_pl_get (X := []) (f := cE Y r h) ho
  exact ⟨q, hq, by rw [← hx]; exact hq⟩
theorem pl_set {H : Heap} {r' : TR} {h' : TH} {o q : Nat} {x : va_E} (hW : Wd Y r h H) (ho : o ∈ yL Y) (hq : (va_pl (yL Y) (cE Y r h))[q]? = some (o, cE Y r h o)) (hx : cE Y r' h' o = x) (hn : ∀ b, ¬ b = o → h'.1 b = h.1 b ∧ h'.2 b = h.2 b ∧ r' b = r b) : (va_pl (yL Y) (cE Y r h)).set q (o, x) = va_pl (yL Y) (cE Y r' h') := by
  have h1 := va_pl_set (X := []) (e := x) hW.2 ho hq
  rw [cE_up hx hn] at h1
  exact h1
theorem g_getI {idx k j o : Nat} {tj : FieldType} {fin : Bool} (C : Gd Y X cc nL own d) (f : FL own idx k j tj fin) (to : TO Y o k) (hf : fT k j = none) (dg : decode cc pc = .ok (.getfield idx, 3)) (kk : G Y X nL (pc + 3) lv (.int (h.1 o j) :: st) r h) : G Y X nL pc lv (.ref o :: st) r h := by
  intro H locs ls hW hS hT hl
  obtain ⟨D, T, n, ty, hc, hin, hj, hn, h9, hlink, hty, hnm, -, -⟩ := f
  obtain ⟨q, -, hq⟩ := pl_get (r := r) (h := h) to.1 (cE_o to.2 h9)
  have hv : (fl k r h o)[j]? = some (.int (h.1 o j)) := by rw [fl_get (by omega)]; unfold fv; rw [hf]; rfl
  exact va_get C.1 C.2.1 C.2.2.2.2.1 hin C.2.2.2.1 C.2.2.2.2.2.1 hW.1 q hq hc j hj (C.2.2.2.2.1 _ hlink) (fun _ h9 => h9) hv dg (kk H locs ls hW hS hT hl)
theorem g_getR {idx k j o : Nat} {tj : FieldType} {fin : Bool} (C : Gd Y X cc nL own d) (f : FL own idx k j tj fin) (to : TO Y o k) (hf : (fT k j).isSome = true) (dg : decode cc pc = .ok (.getfield idx, 3)) (kk : G Y X nL (pc + 3) lv (.ref (r o j) :: st) r h) : G Y X nL pc lv (.ref o :: st) r h := by
  intro H locs ls hW hS hT hl
  obtain ⟨D, T, n, ty, hc, hin, hj, hn, h9, hlink, hty, hnm, -, -⟩ := f
  obtain ⟨q, -, hq⟩ := pl_get (r := r) (h := h) to.1 (cE_o to.2 h9)
  have hv : (fl k r h o)[j]? = some (.ref (r o j)) := by rw [fl_get (by omega)]; unfold fv; rw [if_pos hf]
  exact va_get C.1 C.2.1 C.2.2.2.2.1 hin C.2.2.2.1 C.2.2.2.2.2.1 hW.1 q hq hc j hj (C.2.2.2.2.1 _ hlink) (fun _ h9 => h9) hv dg (kk H locs ls hW hS hT hl)
theorem fv_pI {k : Nat} {o j : Nat} {v : Int32} (hf : fT k j = none) : fv k r (pI h o j v) o j = .int v ∧ ∀ i, ¬ i = j → fv k r (pI h o j v) o i = fv k r h o i := by
  refine ⟨by unfold fv pI; rw [hf]; simp, fun i hi => ?_⟩
  unfold fv pI
  simp [hi]
theorem fv_pR {k : Nat} {o j : Nat} {v : Nat} (hf : (fT k j).isSome = true) : fv k (pR r o j v) h o j = .ref v ∧ ∀ i, ¬ i = j → fv k (pR r o j v) h o i = fv k r h o i := by
  refine ⟨by unfold fv pR; rw [if_pos hf]; simp, fun i hi => ?_⟩
  unfold fv pR
  simp [hi]
theorem g_putI {idx k j o : Nat} {tj : FieldType} {v : Int32} (C : Gd Y X cc nL own d) (f : FL own idx k j tj false) (to : TO Y o k) (hf : fT k j = none) (hn : narrow tj (.int v) = .int v) (hfit : fits tj (.int v) = true) (dg : decode cc pc = .ok (.putfield idx, 3)) (kk : ∀ h1, h1 = pI h o j v → G Y X nL (pc + 3) lv st r h1) : G Y X nL pc lv (.int v :: .ref o :: st) r h := by
  intro H locs ls hW hS hT hl
  obtain ⟨D, T, n, ty, hc, hin, hj, hnn, h9, hlink, hty, hnm, etj, hfin⟩ := f
  obtain ⟨q, hq0, hq⟩ := pl_get (r := r) (h := h) to.1 (cE_o to.2 h9)
  have hset := pl_set (r' := r) (h' := pI h o j v) hW to.1 hq0 (x := .inr (k, (fl k r h o).set j (.int v))) (by rw [cE_o to.2 h9, fl_set (fv_pI hf).1 (fv_pI hf).2]) (pI_ne r h o j v)
  refine va_put C.1 C.2.1 C.2.2.2.2.1 hin ty hty hnm C.2.2.2.1 C.2.2.2.2.2.1 hW.1 hW.2 hS q hq hc j hj (C.2.2.2.2.1 _ hlink) (fun _ h9 => h9) hfin (ty := tj) (by rw [← etj]; exact hty j hj) hn hfit (by rw [fl_len]; omega) dg (fun H1 locs1 hP1 hD1 hS1 => ?_)
  rw [hset] at hP1 hD1
  exact kk _ rfl H1 locs1 ls ⟨hP1, hD1⟩ hS1 hT hl
theorem g_putR {idx k j o v k' : Nat} {tj : FieldType} (C : Gd Y X cc nL own d) (f : FL own idx k j tj false) (to : TO Y o k) (hk : ¬ k = 13) (hf : fT k j = some (k', 0)) (tv : TO Y v k') (hn : narrow tj (.ref v) = .ref v) (hfit : fits tj (.ref v) = true) (dg : decode cc pc = .ok (.putfield idx, 3)) (kk : ∀ r1, r1 = pR r o j v → WT Y r1 → G Y X nL (pc + 3) lv st r1 h) : G Y X nL pc lv (.ref v :: .ref o :: st) r h := by
  intro H locs ls hW hS hT hl
  obtain ⟨D, T, n, ty, hc, hin, hj, hnn, h9, hlink, hty, hnm, etj, hfin⟩ := f
  obtain ⟨q, hq0, hq⟩ := pl_get (r := r) (h := h) to.1 (cE_o to.2 h9)
  have hfs : (fT k j).isSome = true := by rw [hf]; rfl
  have hset := pl_set (r' := pR r o j v) (h' := h) hW to.1 hq0 (x := .inr (k, (fl k r h o).set j (.ref v))) (by rw [cE_o to.2 h9, fl_set (fv_pR hfs).1 (fv_pR hfs).2]) (pR_ne r h o j v)
  have hT1 : WT Y (pR r o j v) := by
    intro a ha i k1 n1 he hb
    have h0 := hT a ha i k1 n1 he hb
    unfold pR
    by_cases e : a = o ∧ i = j
    · obtain ⟨rfl, rfl⟩ := e
      rw [to.2, hf] at he
      obtain ⟨rfl, rfl⟩ := Prod.mk.inj (Option.some.inj he)
      simp only [and_self, if_true]
      exact ⟨tv.1, tv.2, fun q => absurd trivial q⟩
    · simp only [if_neg e]
      exact h0
  refine va_put C.1 C.2.1 C.2.2.2.2.1 hin ty hty hnm C.2.2.2.1 C.2.2.2.2.2.1 hW.1 hW.2 hS q hq hc j hj (C.2.2.2.2.1 _ hlink) (fun _ h9 => h9) hfin (ty := tj) (by rw [← etj]; exact hty j hj) hn hfit (by rw [fl_len]; omega) dg (fun H1 locs1 hP1 hD1 hS1 => ?_)
  rw [hset] at hP1 hD1
  exact kk _ rfl hT1 H1 locs1 ls ⟨hP1, hD1⟩ hS1 hT1 hl
theorem g_iald {o n : Nat} {i : Int32} (C : Gd Y X cc nL own d) (to : TA Y o 10 n) (hi : vp_in i n) (dg : decode cc pc = .ok (.iaload, 1)) (kk : G Y X nL (pc + 1) lv (.int (h.1 o i.toNatClampNeg) :: st) r h) : G Y X nL pc lv (.int i :: .ref o :: st) r h := by
  intro H locs ls hW hS hT hl
  obtain ⟨q, -, hq⟩ := pl_get (r := r) (h := h) to.1 (cE_I to.2.1)
  exact va_iald C.1 C.2.1 C.2.2.2.2.2.1 hW.1 q 1 hq rfl (by rw [to.2.2]; exact hi) dg (kk H locs ls hW hS hT hl)
theorem g_bald {o n : Nat} {i : Int32} (C : Gd Y X cc nL own d) (to : TA Y o 9 n) (hi : vp_in i n) (dg : decode cc pc = .ok (.baload, 1)) (kk : G Y X nL (pc + 1) lv (.int (h.1 o i.toNatClampNeg) :: st) r h) : G Y X nL pc lv (.int i :: .ref o :: st) r h := by
  intro H locs ls hW hS hT hl
  obtain ⟨q, -, hq⟩ := pl_get (r := r) (h := h) to.1 (cE_B to.2.1)
  exact va_bald C.1 C.2.1 C.2.2.2.2.2.1 hW.1 q 0 hq rfl (by rw [to.2.2]; exact hi) dg (kk H locs ls hW hS hT hl)
theorem g_zald {o n : Nat} {i : Int32} (C : Gd Y X cc nL own d) (to : TA Y o 12 n) (hi : vp_in i n) (dg : decode cc pc = .ok (.baload, 1)) (kk : G Y X nL (pc + 1) lv (.int (h.1 o i.toNatClampNeg) :: st) r h) : G Y X nL pc lv (.int i :: .ref o :: st) r h := by
  intro H locs ls hW hS hT hl
  obtain ⟨q, -, hq⟩ := pl_get (r := r) (h := h) to.1 (cE_Z to.2.1)
  exact va_zald C.1 C.2.1 C.2.2.2.2.2.1 hW.1 q 3 hq rfl (by rw [to.2.2]; exact hi) dg (kk H locs ls hW hS hT hl)
theorem g_lald {o n : Nat} {i : Int32} (C : Gd Y X cc nL own d) (to : TA Y o 11 n) (hi : vp_in i n) (dg : decode cc pc = .ok (.laload, 1)) (kk : G Y X nL (pc + 1) lv (.long (h.2 o i.toNatClampNeg) :: st) r h) : G Y X nL pc lv (.int i :: .ref o :: st) r h := by
  intro H locs ls hW hS hT hl
  obtain ⟨q, -, hq⟩ := pl_get (r := r) (h := h) to.1 (cE_J to.2.1)
  exact va_lald C.1 C.2.1 C.2.2.2.2.2.1 hW.1 q 2 hq rfl (by rw [to.2.2]; exact hi) dg (kk H locs ls hW hS hT hl)
theorem g_aald {o n : Nat} {i : Int32} (C : Gd Y X cc nL own d) (to : TA Y o 13 n) (hi : vp_in i n) (dg : decode cc pc = .ok (.aaload, 1)) (kk : G Y X nL (pc + 1) lv (.ref (r o i.toNatClampNeg) :: st) r h) : G Y X nL pc lv (.int i :: .ref o :: st) r h := by
  intro H locs ls hW hS hT hl
  obtain ⟨q, -, hq⟩ := pl_get (r := r) (h := h) to.1 (cE_S to.2.1)
  exact va_aldq C.1 C.2.1 C.2.2.2.2.2.1 hW.1 q 4 hq rfl (by rw [to.2.2]; exact hi) dg (kk H locs ls hW hS hT hl)
theorem g_iast {o n : Nat} {i x : Int32} (C : Gd Y X cc nL own d) (to : TA Y o 10 n) (hi : vp_in i n) (dg : decode cc pc = .ok (.iastore, 1)) (kk : ∀ h1, h1 = pI h o i.toNatClampNeg x → G Y X nL (pc + 1) lv st r h1) : G Y X nL pc lv (.int x :: .int i :: .ref o :: st) r h := by
  intro H locs ls hW hS hT hl
  obtain ⟨q, hq0, hq⟩ := pl_get (r := r) (h := h) to.1 (cE_I to.2.1)
  have hset := pl_set (r' := r) (h' := pI h o i.toNatClampNeg x) hW to.1 hq0 (x := .inl (_, yN Y o, .inl (upd (h.1 o) i.toNatClampNeg x))) (by rw [cE_I to.2.1, pI_at]) (pI_ne r h o _ _)
  refine va_iast C.1 C.2.1 C.2.2.2.2.2.1 hW.1 hW.2 hS q 1 hq rfl (by rw [to.2.2]; exact hi) dg (fun H1 locs1 hP1 hD1 hS1 => ?_)
  rw [hset] at hP1 hD1
  exact kk _ rfl H1 locs1 ls ⟨hP1, hD1⟩ hS1 hT hl
theorem g_bast {o n : Nat} {i x : Int32} (C : Gd Y X cc nL own d) (to : TA Y o 9 n) (hi : vp_in i n) (dg : decode cc pc = .ok (.bastore, 1)) (kk : ∀ h1, h1 = pI h o i.toNatClampNeg (vp_nar .byte x) → G Y X nL (pc + 1) lv st r h1) : G Y X nL pc lv (.int x :: .int i :: .ref o :: st) r h := by
  intro H locs ls hW hS hT hl
  obtain ⟨q, hq0, hq⟩ := pl_get (r := r) (h := h) to.1 (cE_B to.2.1)
  have hset := pl_set (r' := r) (h' := pI h o i.toNatClampNeg (vp_nar .byte x)) hW to.1 hq0 (x := .inl (_, yN Y o, .inl (upd (h.1 o) i.toNatClampNeg (vp_nar .byte x)))) (by rw [cE_B to.2.1, pI_at]) (pI_ne r h o _ _)
  refine va_bast C.1 C.2.1 C.2.2.2.2.2.1 hW.1 hW.2 hS q 0 hq rfl (by rw [to.2.2]; exact hi) dg (fun H1 locs1 hP1 hD1 hS1 => ?_)
  rw [hset] at hP1 hD1
  exact kk _ rfl H1 locs1 ls ⟨hP1, hD1⟩ hS1 hT hl
theorem g_zast {o n : Nat} {i x : Int32} (C : Gd Y X cc nL own d) (to : TA Y o 12 n) (hi : vp_in i n) (dg : decode cc pc = .ok (.bastore, 1)) (kk : ∀ h1, h1 = pI h o i.toNatClampNeg (vp_nar .boolean x) → G Y X nL (pc + 1) lv st r h1) : G Y X nL pc lv (.int x :: .int i :: .ref o :: st) r h := by
  intro H locs ls hW hS hT hl
  obtain ⟨q, hq0, hq⟩ := pl_get (r := r) (h := h) to.1 (cE_Z to.2.1)
  have hset := pl_set (r' := r) (h' := pI h o i.toNatClampNeg (vp_nar .boolean x)) hW to.1 hq0 (x := .inl (_, yN Y o, .inl (upd (h.1 o) i.toNatClampNeg (vp_nar .boolean x)))) (by rw [cE_Z to.2.1, pI_at]) (pI_ne r h o _ _)
  refine va_zast C.1 C.2.1 C.2.2.2.2.2.1 hW.1 hW.2 hS q 3 hq rfl (by rw [to.2.2]; exact hi) dg (fun H1 locs1 hP1 hD1 hS1 => ?_)
  rw [hset] at hP1 hD1
  exact kk _ rfl H1 locs1 ls ⟨hP1, hD1⟩ hS1 hT hl
theorem g_last {o n : Nat} {i : Int32} {x : Int64} (C : Gd Y X cc nL own d) (to : TA Y o 11 n) (hi : vp_in i n) (dg : decode cc pc = .ok (.lastore, 1)) (kk : ∀ h1, h1 = pL h o i.toNatClampNeg x → G Y X nL (pc + 1) lv st r h1) : G Y X nL pc lv (.long x :: .int i :: .ref o :: st) r h := by
  intro H locs ls hW hS hT hl
  obtain ⟨q, hq0, hq⟩ := pl_get (r := r) (h := h) to.1 (cE_J to.2.1)
  have hset := pl_set (r' := r) (h' := pL h o i.toNatClampNeg x) hW to.1 hq0 (x := .inl (_, yN Y o, .inr (.inl (vp_updL (h.2 o) i.toNatClampNeg x)))) (by rw [cE_J to.2.1, pL_at]) (pL_ne r h o _ _)
  refine va_last C.1 C.2.1 C.2.2.2.2.2.1 hW.1 hW.2 hS q 2 hq rfl (by rw [to.2.2]; exact hi) dg (fun H1 locs1 hP1 hD1 hS1 => ?_)
  rw [hset] at hP1 hD1
  exact kk _ rfl H1 locs1 ls ⟨hP1, hD1⟩ hS1 hT hl
theorem g_alen {o n : Nat} {v : Int32} (C : Gd Y X cc nL own d) (to : TA Y o 10 n) (hv : Int32.ofNat n = v) (dg : decode cc pc = .ok (.arraylength, 1)) (kk : G Y X nL (pc + 1) lv (.int v :: st) r h) : G Y X nL pc lv (.ref o :: st) r h := by
  intro H locs ls hW hS hT hl
  obtain ⟨q, -, hq⟩ := pl_get (r := r) (h := h) to.1 (cE_I to.2.1)
  exact va_alen C.1 C.2.1 C.2.2.2.2.2.1 hW.1 q 1 hq rfl (by show Int32.ofNat (yN Y o) = v; rw [to.2.2]; exact hv) dg (kk H locs ls hW hS hT hl)
/-- System.arraycopy of int rows, from the first place on -/
theorem g_copyi {o a n0 n1 : Nat} {n : Int32} {idx : Nat} (C : Gd Y X cc nL own d) (hd : 1 ≤ d) (hlink : Cond.methodLink own idx arraycopyName ∈ lg_tbl) (hnat : Cond.native arraycopyName ∈ lg_tbl) (hstat : Cond.static arraycopyName ∈ lg_tbl) (hini : Cond.initialized "java/lang/System" ∈ lg_tbl) (to : TA Y o 10 n0) (ta : TA Y a 10 n1) (h3 : ¬ n < 0) (h4 : n.toNatClampNeg ≤ n0) (h5 : n.toNatClampNeg ≤ n1) (hcat : (st.map fun v => v.category).sum ≤ 8) (dg : decode cc pc = .ok (.invokestatic idx, 3)) (kk : ∀ h1, h1 = pRow h a (va_cpy (h.1 o) (h.1 a) 0 0 n.toNatClampNeg) → G Y X nL (pc + 3) lv st r h1) : G Y X nL pc lv (.int n :: .int 0 :: .ref a :: .int 0 :: .ref o :: st) r h := by
  intro H locs ls hW hS hT hl
  obtain ⟨q, -, hq⟩ := pl_get (r := r) (h := h) to.1 (cE_I to.2.1)
  obtain ⟨q1, hq10, hq1⟩ := pl_get (r := r) (h := h) ta.1 (cE_I ta.2.1)
  have hset := pl_set (r' := r) (h' := pRow h a (va_cpy (h.1 o) (h.1 a) 0 0 n.toNatClampNeg)) hW ta.1 hq10 (x := .inl (_, yN Y a, .inl (va_cpy (h.1 o) (h.1 a) 0 0 n.toNatClampNeg))) (by rw [cE_I ta.2.1, pRow_at]) (pRow_ne r h a _)
  have hz : (0 : Int32).toNatClampNeg = 0 := by decide
  have e4 : (0 : Int32).toNatClampNeg + n.toNatClampNeg ≤ yN Y o := by rw [hz, to.2.2]; omega
  have e5 : (0 : Int32).toNatClampNeg + n.toNatClampNeg ≤ yN Y a := by rw [hz, ta.2.2]; omega
  have hfw : nativeFrameWords "java/lang/System" "arraycopy" 5 + 11 ≤ 40 := by decide +kernel
  have hro : X.2.2.2.1.frames = d ∧ X.2.2.2.1.locals = 80 * d := by rw [C.2.2.2.2.2.2.2.1]; exact ⟨rfl, rfl⟩
  refine va_copyi (sp := 0) (dp := 0) C.1 C.2.1 (by rw [C.2.2.1]; exact hl.1.symm) C.2.2.2.1 (C.2.2.2.2.1 _ hlink) (C.2.2.2.2.1 _ hnat) (C.2.2.2.2.1 _ hstat) (C.2.2.2.2.1 _ hini) C.2.2.2.2.2.1 hW.1 hW.2 hS q q1 1 1 hq hq1 rfl rfl rfl (by decide) (by decide) h3 e4 e5 (fun i _ => rfl) (by omega) (by omega) dg (fun H1 locs1 hP1 hD1 hS1 => ?_)
  rw [hz, hset] at hP1 hD1
  exact kk _ rfl H1 locs1 ls ⟨hP1, hD1⟩ hS1 hT hl
theorem g_max {x y : Int32} {idx : Nat} (C : Gd Y X cc nL own d) (hd : 1 ≤ d) (hlink : Cond.methodLink own idx Lib.Math.max.name ∈ lg_tbl) (hstat : Cond.static Lib.Math.max.name ∈ lg_tbl) (hini : Cond.initialized "java/lang/Math" ∈ lg_tbl) (hcode : Cond.code Lib.Math.max.name Lib.Math.max.code 2 (some .int) ∈ lg_tbl) (hcat : (st.map fun v => v.category).sum ≤ 8) (dg : decode cc pc = .ok (.invokestatic idx, 3)) (kk : G Y X nL (pc + 3) lv (.int (if x < y then y else x) :: st) r h) : G Y X nL pc lv (.int y :: .int x :: st) r h := fun H locs ls hW hS hT hl => va_mmax C.1 C.2.1 (by rw [C.2.2.1]; exact hl.1.symm) C.2.2.2.1 (C.2.2.2.2.1 _ hlink) (C.2.2.2.2.1 _ hstat) (C.2.2.2.2.1 _ hini) (C.2.2.2.2.1 _ hcode) (by rw [C.2.2.2.2.2.2.2.1]; exact hd) (by have hro : X.2.2.2.1.locals = 80 * d := (by rw [C.2.2.2.2.2.2.2.1]; rfl); omega) (Nat.zero_le _) (Nat.zero_le _) dg (kk H locs ls hW hS hT hl)
theorem g_min {x y : Int32} {idx : Nat} (C : Gd Y X cc nL own d) (hd : 1 ≤ d) (hlink : Cond.methodLink own idx Lib.Math.min.name ∈ lg_tbl) (hstat : Cond.static Lib.Math.min.name ∈ lg_tbl) (hini : Cond.initialized "java/lang/Math" ∈ lg_tbl) (hcode : Cond.code Lib.Math.min.name Lib.Math.min.code 2 (some .int) ∈ lg_tbl) (hcat : (st.map fun v => v.category).sum ≤ 8) (dg : decode cc pc = .ok (.invokestatic idx, 3)) (kk : G Y X nL (pc + 3) lv (.int (if y < x then y else x) :: st) r h) : G Y X nL pc lv (.int y :: .int x :: st) r h := fun H locs ls hW hS hT hl => va_mmin C.1 C.2.1 (by rw [C.2.2.1]; exact hl.1.symm) C.2.2.2.1 (C.2.2.2.2.1 _ hlink) (C.2.2.2.2.1 _ hstat) (C.2.2.2.2.1 _ hini) (C.2.2.2.2.1 _ hcode) (by rw [C.2.2.2.2.2.2.2.1]; exact hd) (by have hro : X.2.2.2.1.locals = 80 * d := (by rw [C.2.2.2.2.2.2.2.1]; rfl); omega) (Nat.zero_le _) (Nat.zero_le _) dg (kk H locs ls hW hS hT hl)
theorem gd_tbl : GoodIn lg_tbl lg_tbl := fun w hw => ⟨hw, good_of_word (List.mem_filter.mp hw).2⟩
theorem gd_cons {w : Cond} {ws : List Cond} (h : w ∈ lg_tbl) (k : GoodIn lg_tbl ws) : GoodIn lg_tbl (w :: ws) := fun v hv => (List.mem_cons.mp hv).elim (fun e => e ▸ gd_tbl w h) (k v)
/-- a virtual call by its place in the pool: the receiver's class k, the method with its code, locals, answer, and how many arguments -/
def MV (own : String) (idx k : Nat) (y : MethodName) (cc : ByteArray) (nL : Nat) (ret : Option FieldType) (n : Nat) : Prop := ∃ (C : String) (T : u_T) (N : Nat), vwCl[k]? = some (C, T, N) ∧ k < 9 ∧ GoodIn lg_tbl (wsV own idx C y (Cond.code y cc nL ret :: lg_tbl)) ∧ (y.cls = C ∧ y.cls ≠ "java/lang/invoke/MethodHandle" ∧ y.cls ≠ "java/lang/invoke/VarHandle" ∧ (parseMethodDescriptor y.desc).map (fun d => d.parameters.length) = some n) ∧ nL ≤ 60
theorem MV.mk {own : String} {idx k : Nat} {y : MethodName} {cc : ByteArray} {nL : Nat} {ret : Option FieldType} {n : Nat} (C : String) (T : u_T) (N : Nat) (hc : vwCl[k]? = some (C, T, N)) (h9 : k < 9) (h1 : Cond.methodLink own idx y ∈ lg_tbl) (h2 : Cond.instanceMethod y ∈ lg_tbl) (h3 : Cond.selects C y y ∈ lg_tbl) (h4 : Cond.initialized C ∈ lg_tbl) (h5 : Cond.code y cc nL ret ∈ lg_tbl) (hd : y.cls = C ∧ y.cls ≠ "java/lang/invoke/MethodHandle" ∧ y.cls ≠ "java/lang/invoke/VarHandle" ∧ (parseMethodDescriptor y.desc).map (fun d => d.parameters.length) = some n) (hL : nL ≤ 60) : MV own idx k y cc nL ret n :=
  ⟨C, T, N, hc, h9, gd_cons h1 (gd_cons h2 (gd_cons h3 (gd_cons h4 (gd_cons h5 gd_tbl)))), hd, hL⟩
/-- a static call -/
def MS (own : String) (idx : Nat) (y : MethodName) (cc : ByteArray) (nL : Nat) (ret : Option FieldType) (n : Nat) : Prop := GoodIn lg_tbl (va_wsS own idx y (Cond.code y cc nL ret :: lg_tbl)) ∧ (y.cls ≠ "java/lang/invoke/MethodHandle" ∧ y.cls ≠ "java/lang/invoke/VarHandle" ∧ (parseMethodDescriptor y.desc).map (fun d => d.parameters.length) = some n) ∧ nL ≤ 60
theorem blind (av : List Value) : FrameBlind (va_Pc av (Wp Y r h)) := fun a U g mk q => ⟨q.1, ⟨q.2.1.1, q.2.1.2.1, va_K.moved (u := U) (U := U.calling g mk a) (Vm.Alike.refl U.vm) q.2.1.2.2⟩, Zx.same (u := U) (U := U.calling g mk a) rfl q.2.2⟩
theorem rm_ok {d d' nL' : Nat} (hd : d' < d) (hL : nL' ≤ 60) : (rm d').frames + 1 ≤ (rm d).frames ∧ 8 + (nL' + 11) + (rm d').locals ≤ (rm d).locals := by
  show d' + 1 ≤ d ∧ 8 + (nL' + 11) + 80 * d' ≤ 80 * d
  omega
theorem g_callVi {y : MethodName} {cc' : ByteArray} {nL' d' idx k n o : Nat} {ret : FieldType} {As st0 : List Value} {post : Int32 → TH → Prop} (C : Gd Y X cc nL own d) (ml : MV own idx k y cc' nL' (some ret) n) (hM : Mi Y r X.2.1 y cc' nL' ret d' (.ref o :: As) h post) (to : TO Y o k) (hd : d' < d) (hn : As.length = n) (hst : st0 = As.reverse ++ .ref o :: st) (hcat : (st.map fun v => v.category).sum ≤ 8) (dg : decode cc pc = .ok (.invokevirtual idx, 3)) (kk : ∀ v h1, post v h1 → G Y X nL (pc + 3) lv (.int v :: st) r h1) : G Y X nL pc lv st0 r h := by
  subst hst
  intro H locs ls hW hS hT hl
  obtain ⟨D, T, N, hc, h9, hG, hy, hL⟩ := ml
  obtain ⟨q, -, hq⟩ := pl_get (r := r) (h := h) to.1 (cE_o to.2 h9)
  refine va_calli (va_runV (As := As) (rest := st) ⟨C.1, C.2.1, C.2.2.1, C.2.2.2.1, C.2.2.2.2.1⟩ hM (cwV n C.2.2.2.2.1 hG rfl rfl rfl hy (by rw [C.2.2.2.2.2.2.2.1]; exact rm_ok hd hL)) ⟨blind _, va_recv C.2.2.2.2.2.1 hW.1 hc hq, fun U hU hWm => ⟨rfl, ⟨by rw [hU]; exact hW, hT, va_K.moved hWm.alike C.2.2.2.2.2.1⟩, by rw [hU]; exact Zx.warm hWm hS C.2.2.2.2.2.2.2.2⟩⟩ rfl hn hl.1 rfl (lv_room hcat) dg ⟨Nat.zero_le _, Nat.zero_le _⟩) hS (fun _ _ h => h) (fun _ h => h) (fun v u t H1 locs1 ht hvm hw hB hz hk hS1 => ?_)
  exact kk v u hw H1 locs1 ls (by rw [← ht]; exact hB.1) hS1 hB.2.1 hl
theorem g_callSi {y : MethodName} {cc' : ByteArray} {nL' d' idx n : Nat} {ret : FieldType} {As st0 : List Value} {post : Int32 → TH → Prop} (C : Gd Y X cc nL own d) (ml : MS own idx y cc' nL' (some ret) n) (hM : Mi Y r X.2.1 y cc' nL' ret d' As h post) (hd : d' < d) (hn : As.length = n) (hst : st0 = As.reverse ++ st) (hcat : (st.map fun v => v.category).sum ≤ 8) (dg : decode cc pc = .ok (.invokestatic idx, 3)) (kk : ∀ v h1, post v h1 → G Y X nL (pc + 3) lv (.int v :: st) r h1) : G Y X nL pc lv st0 r h := by
  subst hst
  intro H locs ls hW hS hT hl
  obtain ⟨hG, hy, hL⟩ := ml
  refine va_calli (va_runS (As := As) (rest := st) ⟨C.1, C.2.1, C.2.2.1, C.2.2.2.1, C.2.2.2.2.1⟩ hM (va_cwS n C.2.2.2.2.1 hG rfl rfl rfl hy (by rw [C.2.2.2.2.2.2.2.1]; exact rm_ok hd hL)) ⟨blind _, fun U hU hWm => ⟨rfl, ⟨by rw [hU]; exact hW, hT, va_K.moved hWm.alike C.2.2.2.2.2.1⟩, by rw [hU]; exact Zx.warm hWm hS C.2.2.2.2.2.2.2.2⟩⟩ rfl hn hl.1 rfl (lv_room hcat) dg ⟨Nat.zero_le _, Nat.zero_le _⟩) hS (fun _ _ h => h) (fun _ h => h) (fun v u t H1 locs1 ht hvm hw hB hz hk hS1 => ?_)
  exact kk v u hw H1 locs1 ls (by rw [← ht]; exact hB.1) hS1 hB.2.1 hl
theorem g_callVl {y : MethodName} {cc' : ByteArray} {nL' d' idx k n o : Nat} {As st0 : List Value} {post : Int64 → TH → Prop} (C : Gd Y X cc nL own d) (ml : MV own idx k y cc' nL' (some .long) n) (hM : Ml Y r X.2.1 y cc' nL' d' (.ref o :: As) h post) (to : TO Y o k) (hd : d' < d) (hn : As.length = n) (hst : st0 = As.reverse ++ .ref o :: st) (hcat : (st.map fun v => v.category).sum ≤ 8) (dg : decode cc pc = .ok (.invokevirtual idx, 3)) (kk : ∀ v h1, post v h1 → G Y X nL (pc + 3) lv (.long v :: st) r h1) : G Y X nL pc lv st0 r h := by
  subst hst
  intro H locs ls hW hS hT hl
  obtain ⟨D, T, N, hc, h9, hG, hy, hL⟩ := ml
  obtain ⟨q, -, hq⟩ := pl_get (r := r) (h := h) to.1 (cE_o to.2 h9)
  refine va_calll (va_runV (As := As) (rest := st) ⟨C.1, C.2.1, C.2.2.1, C.2.2.2.1, C.2.2.2.2.1⟩ hM (cwV n C.2.2.2.2.1 hG rfl rfl rfl hy (by rw [C.2.2.2.2.2.2.2.1]; exact rm_ok hd hL)) ⟨blind _, va_recv C.2.2.2.2.2.1 hW.1 hc hq, fun U hU hWm => ⟨rfl, ⟨by rw [hU]; exact hW, hT, va_K.moved hWm.alike C.2.2.2.2.2.1⟩, by rw [hU]; exact Zx.warm hWm hS C.2.2.2.2.2.2.2.2⟩⟩ rfl hn hl.1 rfl (lv_room hcat) dg ⟨Nat.zero_le _, Nat.zero_le _⟩) hS (fun _ _ h => h) (fun _ h => h) (fun v u t H1 locs1 ht hvm hw hB hz hk hS1 => ?_)
  exact kk v u hw H1 locs1 ls (by rw [← ht]; exact hB.1) hS1 hB.2.1 hl
theorem g_callSl {y : MethodName} {cc' : ByteArray} {nL' d' idx n : Nat} {As st0 : List Value} {post : Int64 → TH → Prop} (C : Gd Y X cc nL own d) (ml : MS own idx y cc' nL' (some .long) n) (hM : Ml Y r X.2.1 y cc' nL' d' As h post) (hd : d' < d) (hn : As.length = n) (hst : st0 = As.reverse ++ st) (hcat : (st.map fun v => v.category).sum ≤ 8) (dg : decode cc pc = .ok (.invokestatic idx, 3)) (kk : ∀ v h1, post v h1 → G Y X nL (pc + 3) lv (.long v :: st) r h1) : G Y X nL pc lv st0 r h := by
  subst hst
  intro H locs ls hW hS hT hl
  obtain ⟨hG, hy, hL⟩ := ml
  refine va_calll (va_runS (As := As) (rest := st) ⟨C.1, C.2.1, C.2.2.1, C.2.2.2.1, C.2.2.2.2.1⟩ hM (va_cwS n C.2.2.2.2.1 hG rfl rfl rfl hy (by rw [C.2.2.2.2.2.2.2.1]; exact rm_ok hd hL)) ⟨blind _, fun U hU hWm => ⟨rfl, ⟨by rw [hU]; exact hW, hT, va_K.moved hWm.alike C.2.2.2.2.2.1⟩, by rw [hU]; exact Zx.warm hWm hS C.2.2.2.2.2.2.2.2⟩⟩ rfl hn hl.1 rfl (lv_room hcat) dg ⟨Nat.zero_le _, Nat.zero_le _⟩) hS (fun _ _ h => h) (fun _ h => h) (fun v u t H1 locs1 ht hvm hw hB hz hk hS1 => ?_)
  exact kk v u hw H1 locs1 ls (by rw [← ht]; exact hB.1) hS1 hB.2.1 hl
theorem g_callVv {y : MethodName} {cc' : ByteArray} {nL' d' idx k n o : Nat} {As st0 : List Value} {post : TH → Prop} (C : Gd Y X cc nL own d) (ml : MV own idx k y cc' nL' none n) (hM : Mv Y r X.2.1 y cc' nL' d' (.ref o :: As) h post) (to : TO Y o k) (hd : d' < d) (hn : As.length = n) (hst : st0 = As.reverse ++ .ref o :: st) (hcat : (st.map fun v => v.category).sum ≤ 8) (dg : decode cc pc = .ok (.invokevirtual idx, 3)) (kk : ∀ h1, post h1 → G Y X nL (pc + 3) lv (st) r h1) : G Y X nL pc lv st0 r h := by
  subst hst
  intro H locs ls hW hS hT hl
  obtain ⟨D, T, N, hc, h9, hG, hy, hL⟩ := ml
  obtain ⟨q, -, hq⟩ := pl_get (r := r) (h := h) to.1 (cE_o to.2 h9)
  refine va_callv (va_runV (As := As) (rest := st) ⟨C.1, C.2.1, C.2.2.1, C.2.2.2.1, C.2.2.2.2.1⟩ hM (cwV n C.2.2.2.2.1 hG rfl rfl rfl hy (by rw [C.2.2.2.2.2.2.2.1]; exact rm_ok hd hL)) ⟨blind _, va_recv C.2.2.2.2.2.1 hW.1 hc hq, fun U hU hWm => ⟨rfl, ⟨by rw [hU]; exact hW, hT, va_K.moved hWm.alike C.2.2.2.2.2.1⟩, by rw [hU]; exact Zx.warm hWm hS C.2.2.2.2.2.2.2.2⟩⟩ rfl hn hl.1 rfl (lv_room hcat) dg ⟨Nat.zero_le _, Nat.zero_le _⟩) hS (fun _ _ h => h) (fun _ h => h) (fun u t H1 locs1 ht hvm hw hB hz hk hS1 => ?_)
  exact kk u hw H1 locs1 ls (by rw [← ht]; exact hB.1) hS1 hB.2.1 hl
theorem g_callSv {y : MethodName} {cc' : ByteArray} {nL' d' idx n : Nat} {As st0 : List Value} {post : TH → Prop} (C : Gd Y X cc nL own d) (ml : MS own idx y cc' nL' none n) (hM : Mv Y r X.2.1 y cc' nL' d' As h post) (hd : d' < d) (hn : As.length = n) (hst : st0 = As.reverse ++ st) (hcat : (st.map fun v => v.category).sum ≤ 8) (dg : decode cc pc = .ok (.invokestatic idx, 3)) (kk : ∀ h1, post h1 → G Y X nL (pc + 3) lv (st) r h1) : G Y X nL pc lv st0 r h := by
  subst hst
  intro H locs ls hW hS hT hl
  obtain ⟨hG, hy, hL⟩ := ml
  refine va_callv (va_runS (As := As) (rest := st) ⟨C.1, C.2.1, C.2.2.1, C.2.2.2.1, C.2.2.2.2.1⟩ hM (va_cwS n C.2.2.2.2.1 hG rfl rfl rfl hy (by rw [C.2.2.2.2.2.2.2.1]; exact rm_ok hd hL)) ⟨blind _, fun U hU hWm => ⟨rfl, ⟨by rw [hU]; exact hW, hT, va_K.moved hWm.alike C.2.2.2.2.2.1⟩, by rw [hU]; exact Zx.warm hWm hS C.2.2.2.2.2.2.2.2⟩⟩ rfl hn hl.1 rfl (lv_room hcat) dg ⟨Nat.zero_le _, Nat.zero_le _⟩) hS (fun _ _ h => h) (fun _ h => h) (fun u t H1 locs1 ht hvm hw hB hz hk hS1 => ?_)
  exact kk u hw H1 locs1 ls (by rw [← ht]; exact hB.1) hS1 hB.2.1 hl
/-- a static call between nest mates -/
def MN (own : String) (idx : Nat) (host : String) (y : MethodName) (cc : ByteArray) (nL : Nat) (ret : Option FieldType) (n : Nat) : Prop := (own, idx, y, host) ∈ nests ∧ GoodIn lg_tbl (Cond.code y cc nL ret :: lg_tbl) ∧ Cond.initialized y.cls ∈ lg_tbl ∧ Cond.static y ∈ lg_tbl ∧ (y.cls ≠ "java/lang/invoke/MethodHandle" ∧ y.cls ≠ "java/lang/invoke/VarHandle" ∧ (parseMethodDescriptor y.desc).map (fun d => d.parameters.length) = some n) ∧ nL ≤ 60
theorem g_callNi {y : MethodName} {host : String} {cc' : ByteArray} {nL' d' idx n : Nat} {ret : FieldType} {As st0 : List Value} {post : Int32 → TH → Prop} (C : Gd Y X cc nL own d) (ml : MN own idx host y cc' nL' (some ret) n) (hM : Mi Y r X.2.1 y cc' nL' ret d' As h post) (hd : d' < d) (hn : As.length = n) (hst : st0 = As.reverse ++ st) (hcat : (st.map fun v => v.category).sum ≤ 8) (dg : decode cc pc = .ok (.invokestatic idx, 3)) (kk : ∀ v h1, post v h1 → G Y X nL (pc + 3) lv (.int v :: st) r h1) : G Y X nL pc lv st0 r h := by
  subst hst
  intro H locs ls hW hS hT hl
  obtain ⟨hnst, hG, hini, hsta, hy, hL⟩ := ml
  refine va_calli (va_runSN (As := As) (rest := st) ⟨C.1, C.2.1, C.2.2.1, C.2.2.2.1, C.2.2.2.2.1⟩ hM ⟨va_cnB n C.2.2.2.2.1 hG rfl rfl rfl (C.2.2.2.2.2.2.2.2.1 _ hnst) (C.2.2.2.2.1 _ hini) hy (by rw [C.2.2.2.2.2.2.2.1]; exact rm_ok hd hL), C.2.2.2.2.1 _ hsta, trivial⟩ ⟨blind _, fun U hU hWm => ⟨rfl, ⟨by rw [hU]; exact hW, hT, va_K.moved hWm.alike C.2.2.2.2.2.1⟩, by rw [hU]; exact Zx.warm hWm hS C.2.2.2.2.2.2.2.2⟩⟩ rfl hn hl.1 rfl (lv_room hcat) dg ⟨Nat.zero_le _, Nat.zero_le _⟩) hS (fun _ _ h => h) (fun _ h => h) (fun v u t H1 locs1 ht hvm hw hB hz hk hS1 => ?_)
  exact kk v u hw H1 locs1 ls (by rw [← ht]; exact hB.1) hS1 hB.2.1 hl
theorem g_iret {v : Int32} {post : Int32 → TH → Prop} (C : Gd Y X cc nL own d) (R : Ri Y r X .int post) (dg : decode cc pc = .ok (.ireturn, 1)) (hp : post v h) : G Y X nL pc lv [.int v] r h := by
  intro H locs ls hW hS hT hl
  rw [R.2]
  exact W.iret C.1 C.2.1 R.1 (fun t ht hWm => ⟨⟨v, h, rfl, hp, by rw [ht]; exact hW, hT, va_K.moved hWm.alike C.2.2.2.2.2.1⟩, hS.F ht⟩) hS.2.2 dg C.2.2.2.2.2.2.1
theorem g_zret {v : Int32} {ty : FieldType} {post : Int32 → TH → Prop} (C : Gd Y X cc nL own d) (R : Ri Y r X ty post) (hn : narrow ty (.int v) = .int v) (dg : decode cc pc = .ok (.ireturn, 1)) (hp : post v h) : G Y X nL pc lv [.int v] r h := by
  intro H locs ls hW hS hT hl
  rw [R.2]
  exact W.zret C.1 C.2.1 R.1 hn (fun t ht hWm => ⟨⟨v, h, rfl, hp, by rw [ht]; exact hW, hT, va_K.moved hWm.alike C.2.2.2.2.2.1⟩, hS.F ht⟩) hS.2.2 dg C.2.2.2.2.2.2.1
theorem g_lret {v : Int64} {post : Int64 → TH → Prop} (C : Gd Y X cc nL own d) (R : Rl Y r X post) (dg : decode cc pc = .ok (.lreturn, 1)) (hp : post v h) : G Y X nL pc lv [.long v] r h := by
  intro H locs ls hW hS hT hl
  rw [R.2]
  exact W.lret C.1 C.2.1 R.1 (fun t ht hWm => ⟨⟨v, h, rfl, hp, by rw [ht]; exact hW, hT, va_K.moved hWm.alike C.2.2.2.2.2.1⟩, hS.F ht⟩) hS.2.2 dg C.2.2.2.2.2.2.1
theorem g_vret {post : TH → Prop} (C : Gd Y X cc nL own d) (R : Rv Y r X post) (dg : decode cc pc = .ok (.return_, 1)) (hp : post h) : G Y X nL pc lv [] r h := by
  intro H locs ls hW hS hT hl
  rw [R.2]
  exact W.vret C.1 C.2.1 R.1 (fun t ht hWm => ⟨⟨h, rfl, hp, by rw [ht]; exact hW, hT, va_K.moved hWm.alike C.2.2.2.2.2.1⟩, hS.F ht⟩) hS.2.2 dg C.2.2.2.2.2.2.1
theorem nz_0 : narrow .boolean (.int 0) = .int 0 := by decide
theorem nz_1 : narrow .boolean (.int 1) = .int 1 := by decide
end ROWS
