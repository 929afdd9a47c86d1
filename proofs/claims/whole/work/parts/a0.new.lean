/-! new cells: a world that grows; a reference 0 stands for null -/
def fvN (k : Nat) (r : TR) (h : TH) (o j : Nat) : Value := if (fT k j).isSome = true then (if r o j = 0 then .null else .ref (r o j)) else .int (h.1 o j)
def flN (k : Nat) (r : TR) (h : TH) (o : Nat) : List Value := (List.range (nF k)).map (fvN k r h o)
def rfN (r : TR) (o j : Nat) : Option Nat := if r o j = 0 then none else some (r o j)
def cN (Y : CG) (r : TR) (h : TH) (o : Nat) : va_E :=
  if yK Y o < 9 then .inr (yK Y o, flN (yK Y o) r h o)
  else if yK Y o = 9 then .inl ((yC Y).1, yN Y o, .inl (h.1 o))
  else if yK Y o = 10 then .inl ((yC Y).2.1, yN Y o, .inl (h.1 o))
  else if yK Y o = 11 then .inl ((yC Y).2.2.1, yN Y o, .inr (.inl (h.2 o)))
  else if yK Y o = 12 then .inl ((yC Y).2.2.2.1, yN Y o, .inl (h.1 o))
  else .inl ((yC Y).2.2.2.2, yN Y o, .inr (.inr (.inr (.inr (rfN r o)))))
theorem cN_o {Y : CG} {r : TR} {h : TH} {o k : Nat} (hk : yK Y o = k) (h9 : k < 9) : cN Y r h o = .inr (k, flN k r h o) := by unfold cN; rw [hk, if_pos h9]
theorem cN_B {Y : CG} {r : TR} {h : TH} {o : Nat} (hk : yK Y o = 9) : cN Y r h o = .inl ((yC Y).1, yN Y o, .inl (h.1 o)) := by unfold cN; rw [hk]; rfl
theorem cN_I {Y : CG} {r : TR} {h : TH} {o : Nat} (hk : yK Y o = 10) : cN Y r h o = .inl ((yC Y).2.1, yN Y o, .inl (h.1 o)) := by unfold cN; rw [hk]; rfl
theorem cN_J {Y : CG} {r : TR} {h : TH} {o : Nat} (hk : yK Y o = 11) : cN Y r h o = .inl ((yC Y).2.2.1, yN Y o, .inr (.inl (h.2 o))) := by unfold cN; rw [hk]; rfl
theorem cN_Z {Y : CG} {r : TR} {h : TH} {o : Nat} (hk : yK Y o = 12) : cN Y r h o = .inl ((yC Y).2.2.2.1, yN Y o, .inl (h.1 o)) := by unfold cN; rw [hk]; rfl
theorem cN_S {Y : CG} {r : TR} {h : TH} {o : Nat} (hk : yK Y o = 13) : cN Y r h o = .inl ((yC Y).2.2.2.2, yN Y o, .inr (.inr (.inr (.inr (rfN r o))))) := by unfold cN; rw [hk]; rfl
theorem flN_get {k : Nat} {r : TR} {h : TH} {o j : Nat} (hj : j < nF k) : (flN k r h o)[j]? = some (fvN k r h o j) := by
  unfold flN
  rw [List.getElem?_map, List.getElem?_range hj]; rfl
theorem flN_len (k : Nat) (r : TR) (h : TH) (o : Nat) : (flN k r h o).length = nF k := by unfold flN; rw [List.length_map, List.length_range]
theorem flN_set {k : Nat} {r r' : TR} {h h' : TH} {o j : Nat} {v : Value} (hv : fvN k r' h' o j = v) (ho : ∀ i, ¬ i = j → fvN k r' h' o i = fvN k r h o i) : (flN k r h o).set j v = flN k r' h' o := by
  apply List.ext_getElem?
  intro i
  rw [List.getElem?_set]
  by_cases hi : i < nF k
  · by_cases e : j = i
    · subst e
      rw [if_pos rfl, flN_len, if_pos hi, flN_get hi, hv]
    · rw [if_neg e, flN_get hi, flN_get hi, ho i (fun q => e q.symm)]
  · have h1 : (flN k r h o)[i]? = none := by rw [List.getElem?_eq_none_iff, flN_len]; omega
    have h2 : (flN k r' h' o)[i]? = none := by rw [List.getElem?_eq_none_iff, flN_len]; omega
    rw [h1, h2, flN_len]
    by_cases e : j = i
    · rw [if_pos e, if_neg (by omega)]
    · rw [if_neg e]
theorem cN_ne {Y : CG} {r r' : TR} {h h' : TH} {b : Nat} (h1 : h'.1 b = h.1 b) (h2 : h'.2 b = h.2 b) (h3 : r' b = r b) : cN Y r' h' b = cN Y r h b := by
  have hv : ∀ k, flN k r' h' b = flN k r h b := by
    intro k
    unfold flN
    apply List.map_congr_left
    intro j _
    unfold fvN
    rw [h1, h3]
  have hq : rfN r' b = rfN r b := by funext j; unfold rfN; rw [h3]
  unfold cN
  rw [h1, h2, hq, hv]
theorem cN_up {Y : CG} {r r' : TR} {h h' : TH} {o : Nat} {x : va_E} (ho : cN Y r' h' o = x) (hn : ∀ b, ¬ b = o → h'.1 b = h.1 b ∧ h'.2 b = h.2 b ∧ r' b = r b) : va_up (cN Y r h) o x = cN Y r' h' := by
  funext b
  by_cases e : b = o
  · subst e
    rw [va_up_self, ho]
  · rw [va_up_ne _ _ e]
    obtain ⟨h1, h2, h3⟩ := hn b e
    exact (cN_ne h1 h2 h3).symm
/-- the cells from b up to z hold r and h; the heap ends at z; beyond it all is 0 -/
def Wnw (Y : CG) (b z : Nat) (r : TR) (h : TH) (H : Heap) : Prop := (∀ a, b ≤ a → a < z → va_at (yD Y) vwCl (a, cN Y r h a) H) ∧ H.size = z ∧ ∀ a, z ≤ a → ∀ j, r a j = 0 ∧ h.1 a j = 0 ∧ h.2 a j = 0
abbrev plN (b z : Nat) (f : Nat → va_E) : va_W := va_pl (List.range' b (z - b)) f
theorem plN_at {b z : Nat} {f : Nat → va_E} {i : Nat} {p : Nat × va_E} (h : (plN b z f)[i]? = some p) : p = (b + i, f (b + i)) ∧ i < z - b := by
  unfold plN va_pl at h
  rw [List.getElem?_map] at h
  by_cases hi : i < z - b
  · rw [List.getElem?_range' hi] at h
    have h1 := Option.some.inj h
    rw [Nat.one_mul] at h1
    exact ⟨h1.symm, hi⟩
  · rw [List.getElem?_eq_none_iff.mpr (by rw [List.length_range']; omega)] at h
    cases h
theorem plN_get {b z : Nat} {f : Nat → va_E} {o : Nat} (h1 : b ≤ o) (h2 : o < z) : (plN b z f)[o - b]? = some (o, f o) := by
  unfold plN va_pl
  rw [List.getElem?_map, List.getElem?_range' (by omega)]
  show some (b + 1 * (o - b), f (b + 1 * (o - b))) = _
  rw [show b + 1 * (o - b) = o by omega]
theorem plN_D {b z : Nat} {f : Nat → va_E} : va_D (fun q => b ≤ q) (plN b z f) := ⟨fun i j p q hp hq e => by
  rw [(plN_at hp).1, (plN_at hq).1] at e
  have : b + i = b + j := e
  omega, fun k q hk => by rw [(plN_at hk).1]; show b ≤ b + k; omega⟩
theorem Wnw.P {Y : CG} {b z : Nat} {r : TR} {h : TH} {H : Heap} (g : Wnw Y b z r h H) : va_P (yD Y) vwCl (plN b z (cN Y r h)) H := fun k q hk => by
  obtain ⟨e, hi⟩ := plN_at hk
  rw [e]
  exact g.1 _ (by omega) (by omega)
theorem Wnw.of {Y : CG} {b z : Nat} {r : TR} {h : TH} {H : Heap} (g : va_P (yD Y) vwCl (plN b z (cN Y r h)) H) (hs : H.size = z) (h0 : ∀ a, z ≤ a → ∀ j, r a j = 0 ∧ h.1 a j = 0 ∧ h.2 a j = 0) : Wnw Y b z r h H := ⟨fun a h1 h2 => g _ _ (plN_get h1 h2), hs, h0⟩
theorem Wnw.set {Y : CG} {b z : Nat} {r r' : TR} {h h' : TH} {H : Heap} {o : Nat} {x : va_E} (g : Wnw Y b z r h H) (h1 : b ≤ o) (h2 : o < z) (hx : cN Y r' h' o = x) (hn : ∀ a, ¬ a = o → h'.1 a = h.1 a ∧ h'.2 a = h.2 a ∧ r' a = r a) : (plN b z (cN Y r h)).set (o - b) (o, x) = plN b z (cN Y r' h') := by
  have e := va_pl_set (X := []) (L := List.range' b (z - b)) (e := x) (plN_D (f := cN Y r h)) (List.mem_range'.mpr ⟨o - b, by omega, by omega⟩) (plN_get (f := cN Y r h) h1 h2)
  rw [cN_up hx hn] at e
  exact e
theorem Wnw.zero {Y : CG} {b z : Nat} {r r' : TR} {h h' : TH} {H : Heap} {o : Nat} (g : Wnw Y b z r h H) (h2 : o < z) (hn : ∀ a, ¬ a = o → h'.1 a = h.1 a ∧ h'.2 a = h.2 a ∧ r' a = r a) : ∀ a, z ≤ a → ∀ j, r' a j = 0 ∧ h'.1 a j = 0 ∧ h'.2 a j = 0 := fun a ha j => by
  obtain ⟨e1, e2, e3⟩ := hn a (by omega)
  rw [e1, e2, e3]
  exact g.2.2 a ha j
/-- a cell more -/
theorem Wnw.grow {Y : CG} {b z : Nat} {r : TR} {h : TH} {H H1 : Heap} (g : Wnw Y b z r h H) (hbz : b ≤ z ∨ True) (z1 : H1.size = z + 1) (o1 : ∀ q, q < z → H1[q]? = H[q]?) (hx : va_at (yD Y) vwCl (z, cN Y r h z) H1) : Wnw Y b (z + 1) r h H1 := ⟨fun a h1 h2 => by
  by_cases e : a = z
  · rw [e]; exact hx
  · exact (g.1 a h1 (by omega)).kept (o1 a (by omega)), z1, fun a ha j => g.2.2 a (by omega) j⟩
theorem va_S.grow {b z : Nat} {H0 H H1 : Heap} {locs : List Loc} (g : va_S (fun q => b ≤ q) H0 H locs) (hbz : b ≤ z ∨ True) (hz : H.size = z) (z1 : H1.size = z + 1) (o1 : ∀ q, q < z → H1[q]? = H[q]?) : va_S (fun q => b ≤ q) H0 H1 locs := ⟨by have := g.1; omega, fun q h1 h2 => (o1 q (by have := g.1; omega)).trans (g.2.1 q h1 h2), g.2.2⟩
/-- what stands fixed beside the cells from b on -/
def Zy (Y : CG) (b : Nat) (U : State) (H : Heap) : Prop := NW U ∧ (∀ i, i < 3 → vk_R RX4 (ixS.getD i 0) (txS.getD i "") (yA Y i) U) ∧ vk_S 3 lenS bytS (yA Y) (yV Y) (fun q => b ≤ q) U H ∧ va_Z "java/lang/String" "COMPACT_STRINGS" "Z" (.int 1) (fun q => b ≤ q) U H ∧ va_Zq "jdk/internal/util/Preconditions" "SIOOBE_FORMATTER" "Ljava/util/function/BiFunction;" (fun q => b ≤ q) U H ∧ va_AO "SmellRace$Scene" U
theorem Zy.same {Y : CG} {b : Nat} {u U : State} {H : Heap} (hv : U.vm = u.vm) (h : Zy Y b u H) : Zy Y b U H := ⟨fun q hq => va_Nw.same rfl hv.symm (h.1 q hq), fun i hi => vk_R.same hv (h.2.1 i hi), vk_S.moved (hv ▸ Vm.Alike.refl u.vm) h.2.2.1, va_Z.moved (hv ▸ Vm.Alike.refl u.vm) h.2.2.2.1, va_Zq.moved (hv ▸ Vm.Alike.refl u.vm) h.2.2.2.2.1, va_AO.moved (hv ▸ Vm.Alike.refl u.vm) h.2.2.2.2.2⟩
theorem Zy.warm {Y : CG} {b : Nat} {s U : State} {H : Heap} {locs : List Loc} (hW : s.WarmedH U.vm) (hS : va_S (fun q => b ≤ q) s.heap H locs) (h : Zy Y b s s.heap) : Zy Y b U H := ⟨fun q hq => va_Nw.warmM hW (h.1 q hq), fun i hi => vk_R.warm hW (h.2.1 i hi), vk_S.moved hW.alike (h.2.2.1.kept hS.2.1), va_Z.moved hW.alike (h.2.2.2.1.kept hS.2.1), va_Zq.moved hW.alike (h.2.2.2.2.1.kept hS.2.1), va_AO.moved hW.alike h.2.2.2.2.2⟩
/-- the same picture over some of the cells -/
def yw (Y : CG) (L : List Nat) : CG := (Y.1, Y.2.1, Y.2.2.1, L, Y.2.2.2.2)
theorem Zy.zx {Y : CG} {b : Nat} {L : List Nat} {U : State} {H : Heap} (hL : ∀ q ∈ L, b ≤ q) (h : Zy Y b U H) : Zx (yw Y L) U H := ⟨h.1, h.2.1, h.2.2.1.narrow hL, h.2.2.2.1.narrow hL, h.2.2.2.2.1.narrow hL⟩
/-- the machine, at a place of a body that makes cells, comes to its end -/
def NJ (Y : CG) (b : Nat) (X : CX) (nL pc : Nat) (lv : List (Nat × Value)) (st : List Value) (z : Nat) (r : TR) (h : TH) (cs sl : Nat) : Prop :=
  z = X.2.2.2.2.1.heap.size + cs → ∀ (H : Heap) (locs : List Loc) (ls : Array Slot), Wnw Y b z r h H → va_S (fun q => b ≤ q) X.2.2.2.2.1.heap H locs → lv_has ls nL lv →
    W X.1 X.2.1 X.2.2.1 X.2.2.2.1 X.2.2.2.2.1 X.2.2.2.2.2.1 X.2.2.2.2.2.2.1 X.2.2.2.2.2.2.2.1 X.2.2.2.2.2.2.2.2.1 X.2.2.2.2.2.2.2.2.2.1 H locs cs sl X.2.2.2.2.2.2.2.2.2.2 (F0 X.2.2.2.2.2.1 pc ls st)
def NGd (Y : CG) (b : Nat) (X : CX) (cc : ByteArray) (nL : Nat) (own : String) (d mc ms : Nat) : Prop :=
  X.1.tables.exec = Jvm.exec ∧ X.2.2.2.2.2.2.2.2.2.1.code = cc ∧ X.2.2.2.2.2.2.2.2.2.1.maxLocals = nL ∧ X.2.2.2.2.1.vm.findClass own = some X.2.2.2.2.2.1.cls ∧ (∀ w ∈ lg_tbl, w.before X.2.2.2.2.2.2.1 X.2.2.2.2.1 = true) ∧ va_K (yD Y) vwCl (yT Y) X.2.2.2.2.1 ∧ X.2.2.2.2.2.2.2.2.1.locks = false ∧ (d ≤ X.2.2.2.1.frames ∧ 80 * d ≤ X.2.2.2.1.locals ∧ X.2.2.2.1.cells = mc ∧ X.2.2.2.1.slots = ms) ∧ Zy Y b X.2.2.2.2.1 X.2.2.2.2.1.heap ∧ 0 < b ∧ b ≤ X.2.2.2.2.1.heap.size
def rmc (d mc ms : Nat) : Room := { frames := d, cells := mc, slots := ms, locals := 80 * d }
def Wq (Y : CG) (b z : Nat) (r : TR) (h : TH) (U : State) : Prop := Wnw Y b z r h U.heap ∧ va_K (yD Y) vwCl (yT Y) U ∧ Zy Y b U U.heap
/-- a constructor's contract: the object o, just made, is the last cell; z' is the heap's end behind it -/
def Mc (Y : CG) (b : Nat) (l : Launch) (y : MethodName) (cc : ByteArray) (nL d mc ms o : Nat) (r : TR) (h : TH) (post : TR → TH → Prop) : Prop :=
  Met l y (Cond.code y cc nL none :: lg_tbl) (rmc d mc ms) (va_Pc [.ref o] (Wq Y b (o + 1) r h)) (va_Qv (fun u : TR × TH => post u.1 u.2) (fun u U => Wnw Y b (o + 1 + mc) u.1 u.2 U.heap ∧ va_K (yD Y) vwCl (yT Y) U) (fun q => b ≤ q)) mc ms (fun q => b ≤ q)
def Rc (Y : CG) (b : Nat) (X : CX) (mc ms o : Nat) (post : TR → TH → Prop) : Prop := X.2.2.2.2.2.2.2.2.1.sig.returnType = none ∧ X.2.2.2.2.2.2.2.2.2.2 = MQ X.2.2.2.2.2.2.2.1 (va_Qv (fun u : TR × TH => post u.1 u.2) (fun u U => Wnw Y b (o + 1 + mc) u.1 u.2 U.heap ∧ va_K (yD Y) vwCl (yT Y) U) (fun q => b ≤ q)) X.2.2.2.2.2.2.1 X.2.2.2.2.1 mc ms (fun q => b ≤ q) ∧ X.2.2.2.2.2.2.2.2.1.name = "<init>" ∧ X.2.2.2.2.1.heap.size = o + 1
section NROWS
variable {Y : CG} {b : Nat} {X : CX} {cc : ByteArray} {nL d mc ms : Nat} {own : String} {pc : Nat} {lv : List (Nat × Value)} {st : List Value} {z : Nat} {r : TR} {h : TH} {cs sl : Nat}
theorem NGd.bz (C : NGd Y b X cc nL own d mc ms) : b ≤ z ∨ True := Or.inr trivial
theorem n_iconst {n : Int} {v : Int32} (hv : Int32.ofInt n = v) (C : NGd Y b X cc nL own d mc ms) (dg : decode cc pc = .ok (.iconst n, 1)) (k : NJ Y b X nL (pc + 1) lv (.int v :: st) z r h cs sl) : NJ Y b X nL pc lv (st) z r h cs sl := fun hz H locs ls hW hS hl => lv_iconst C.1 C.2.1 dg hv (k hz H locs ls hW hS hl)
theorem n_bipush {n : Int} {v : Int32} (hv : (Int8.ofInt n).toInt32 = v) (C : NGd Y b X cc nL own d mc ms) (dg : decode cc pc = .ok (.bipush n, 2)) (k : NJ Y b X nL (pc + 2) lv (.int v :: st) z r h cs sl) : NJ Y b X nL pc lv (st) z r h cs sl := fun hz H locs ls hW hS hl => lv_bipush C.1 C.2.1 dg hv (k hz H locs ls hW hS hl)
theorem n_sipush {n : Int} {v : Int32} (hv : (Int16.ofInt n).toInt32 = v) (C : NGd Y b X cc nL own d mc ms) (dg : decode cc pc = .ok (.sipush n, 3)) (k : NJ Y b X nL (pc + 3) lv (.int v :: st) z r h cs sl) : NJ Y b X nL pc lv (st) z r h cs sl := fun hz H locs ls hW hS hl => lv_sipush C.1 C.2.1 dg hv (k hz H locs ls hW hS hl)
theorem n_lconst {n : Fin 2} {v : Int64} (hv : Int64.ofNat (n : Nat) = v) (C : NGd Y b X cc nL own d mc ms) (dg : decode cc pc = .ok (.lconst n, 1)) (k : NJ Y b X nL (pc + 1) lv (.long v :: st) z r h cs sl) : NJ Y b X nL pc lv (st) z r h cs sl := fun hz H locs ls hW hS hl => lv_lconst C.1 C.2.1 dg hv (k hz H locs ls hW hS hl)
theorem n_dup {v : Value} (hc : v.category = 1) (C : NGd Y b X cc nL own d mc ms) (dg : decode cc pc = .ok (.dup, 1)) (k : NJ Y b X nL (pc + 1) lv (v :: v :: st) z r h cs sl) : NJ Y b X nL pc lv (v :: st) z r h cs sl := fun hz H locs ls hW hS hl => lv_dup C.1 C.2.1 dg hc (k hz H locs ls hW hS hl)
theorem n_pop {v : Value} (hc : v.category = 1) (C : NGd Y b X cc nL own d mc ms) (dg : decode cc pc = .ok (.pop, 1)) (k : NJ Y b X nL (pc + 1) lv (st) z r h cs sl) : NJ Y b X nL pc lv (v :: st) z r h cs sl := fun hz H locs ls hW hS hl => lv_pop C.1 C.2.1 dg hc (k hz H locs ls hW hS hl)
theorem n_iload_n {k : Fin 4} {i : Nat} {x : Int32} (hi : (k : Nat) = i) (q : Nat) (hq : lv[q]? = some (i, .int x)) (C : NGd Y b X cc nL own d mc ms) (dg : decode cc pc = .ok (.iload_n k, 1)) (k : NJ Y b X nL (pc + 1) lv (.int x :: st) z r h cs sl) : NJ Y b X nL pc lv (st) z r h cs sl := fun hz H locs ls hW hS hl => lv_iload_n C.1 C.2.1 dg hi (lv_at hl q hq) (k hz H locs ls hW hS hl)
theorem n_aload_n {k : Fin 4} {i : Nat} {x : Nat} (hi : (k : Nat) = i) (q : Nat) (hq : lv[q]? = some (i, .ref x)) (C : NGd Y b X cc nL own d mc ms) (dg : decode cc pc = .ok (.aload_n k, 1)) (k : NJ Y b X nL (pc + 1) lv (.ref x :: st) z r h cs sl) : NJ Y b X nL pc lv (st) z r h cs sl := fun hz H locs ls hW hS hl => lv_aload_n C.1 C.2.1 dg hi (lv_at hl q hq) (k hz H locs ls hW hS hl)
theorem n_istore_n {k : Fin 4} {i : Nat} {e : Int32} (lv' : Int32 → List (Nat × Value)) (C : NGd Y b X cc nL own d mc ms) (dg : decode cc pc = .ok (.istore_n k, 1)) (hi : (k : Nat) = i) (hn : i < nL) (hl' : (i, Value.int e) :: lv.filter (fun q => !(q.1 == i) && !(q.1 + 1 == i && q.2.category == 2)) = lv' e) (k : ∀ x, x = e → NJ Y b X nL (pc + 1) (lv' x) st z r h cs sl) : NJ Y b X nL pc lv (.int e :: st) z r h cs sl := fun hz H locs ls hW hS hl => lv_istore_n C.1 C.2.1 dg hi hl hn hl' (fun ls' hl2 => k e rfl hz H locs ls' hW hS hl2)
theorem n_astore_n {k : Fin 4} {i : Nat} {e : Nat} (lv' : Nat → List (Nat × Value)) (C : NGd Y b X cc nL own d mc ms) (dg : decode cc pc = .ok (.astore_n k, 1)) (hi : (k : Nat) = i) (hn : i < nL) (hl' : (i, Value.ref e) :: lv.filter (fun q => !(q.1 == i) && !(q.1 + 1 == i && q.2.category == 2)) = lv' e) (k : ∀ x, x = e → NJ Y b X nL (pc + 1) (lv' x) st z r h cs sl) : NJ Y b X nL pc lv (.ref e :: st) z r h cs sl := fun hz H locs ls hW hS hl => lv_astore_n C.1 C.2.1 dg hi hl hn hl' (fun ls' hl2 => k e rfl hz H locs ls' hW hS hl2)
theorem n_iinc {i q : Nat} {n : Int} {x c : Int32} (lv' : Int32 → List (Nat × Value)) (C : NGd Y b X cc nL own d mc ms) (dg : decode cc pc = .ok (.iinc i n, 3)) (hq : lv[q]? = some (i, .int x)) (hc : Int32.ofInt n = c) (hn : i < nL) (hl' : (i, Value.int (x + c)) :: lv.filter (fun q => !(q.1 == i) && !(q.1 + 1 == i && q.2.category == 2)) = lv' (x + c)) (k : ∀ y, y = x + c → NJ Y b X nL (pc + 3) (lv' y) st z r h cs sl) : NJ Y b X nL pc lv st z r h cs sl := fun hz H locs ls hW hS hl => lv_iinc C.1 C.2.1 dg hl hq (by rw [hc]) hn hl' (fun ls' hl2 => k (x + c) rfl hz H locs ls' hW hS hl2)
theorem n_if_eq {x : Int32} {off : Int} (tgt : Nat) (C : NGd Y b X cc nL own d mc ms) (dg : decode cc pc = .ok (.ifCond .eq off, 3)) (ht : (pc : Int) + off = (tgt : Int)) (kt : x = 0 → NJ Y b X nL tgt lv st z r h cs sl) (kf : ¬ x = 0 → NJ Y b X nL (pc + 3) lv st z r h cs sl) : NJ Y b X nL pc lv (.int x :: st) z r h cs sl := fun hz H locs ls hW hS hl => lv_if_eq C.1 C.2.1 dg ht (fun e => kt e hz H locs ls hW hS hl) (fun e => kf e hz H locs ls hW hS hl)
theorem n_if_ne {x : Int32} {off : Int} (tgt : Nat) (C : NGd Y b X cc nL own d mc ms) (dg : decode cc pc = .ok (.ifCond .ne off, 3)) (ht : (pc : Int) + off = (tgt : Int)) (kt : ¬ x = 0 → NJ Y b X nL tgt lv st z r h cs sl) (kf : x = 0 → NJ Y b X nL (pc + 3) lv st z r h cs sl) : NJ Y b X nL pc lv (.int x :: st) z r h cs sl := fun hz H locs ls hW hS hl => lv_if_ne C.1 C.2.1 dg ht (fun e => kt e hz H locs ls hW hS hl) (fun e => kf e hz H locs ls hW hS hl)
theorem n_if_lt {x : Int32} {off : Int} (tgt : Nat) (C : NGd Y b X cc nL own d mc ms) (dg : decode cc pc = .ok (.ifCond .lt off, 3)) (ht : (pc : Int) + off = (tgt : Int)) (kt : x < 0 → NJ Y b X nL tgt lv st z r h cs sl) (kf : ¬ x < 0 → NJ Y b X nL (pc + 3) lv st z r h cs sl) : NJ Y b X nL pc lv (.int x :: st) z r h cs sl := fun hz H locs ls hW hS hl => lv_if_lt C.1 C.2.1 dg ht (fun e => kt e hz H locs ls hW hS hl) (fun e => kf e hz H locs ls hW hS hl)
theorem n_if_ge {x : Int32} {off : Int} (tgt : Nat) (C : NGd Y b X cc nL own d mc ms) (dg : decode cc pc = .ok (.ifCond .ge off, 3)) (ht : (pc : Int) + off = (tgt : Int)) (kt : 0 ≤ x → NJ Y b X nL tgt lv st z r h cs sl) (kf : ¬ 0 ≤ x → NJ Y b X nL (pc + 3) lv st z r h cs sl) : NJ Y b X nL pc lv (.int x :: st) z r h cs sl := fun hz H locs ls hW hS hl => lv_if_ge C.1 C.2.1 dg ht (fun e => kt e hz H locs ls hW hS hl) (fun e => kf e hz H locs ls hW hS hl)
theorem n_icmp_eq {x y : Int32} {off : Int} (tgt : Nat) (C : NGd Y b X cc nL own d mc ms) (dg : decode cc pc = .ok (.if_icmp .eq off, 3)) (ht : (pc : Int) + off = (tgt : Int)) (kt : x = y → NJ Y b X nL tgt lv st z r h cs sl) (kf : ¬ x = y → NJ Y b X nL (pc + 3) lv st z r h cs sl) : NJ Y b X nL pc lv (.int y :: .int x :: st) z r h cs sl := fun hz H locs ls hW hS hl => lv_icmp_eq C.1 C.2.1 dg ht (fun e => kt e hz H locs ls hW hS hl) (fun e => kf e hz H locs ls hW hS hl)
theorem n_icmp_ne {x y : Int32} {off : Int} (tgt : Nat) (C : NGd Y b X cc nL own d mc ms) (dg : decode cc pc = .ok (.if_icmp .ne off, 3)) (ht : (pc : Int) + off = (tgt : Int)) (kt : ¬ x = y → NJ Y b X nL tgt lv st z r h cs sl) (kf : x = y → NJ Y b X nL (pc + 3) lv st z r h cs sl) : NJ Y b X nL pc lv (.int y :: .int x :: st) z r h cs sl := fun hz H locs ls hW hS hl => lv_icmp_ne C.1 C.2.1 dg ht (fun e => kt e hz H locs ls hW hS hl) (fun e => kf e hz H locs ls hW hS hl)
theorem n_icmp_lt {x y : Int32} {off : Int} (tgt : Nat) (C : NGd Y b X cc nL own d mc ms) (dg : decode cc pc = .ok (.if_icmp .lt off, 3)) (ht : (pc : Int) + off = (tgt : Int)) (kt : x < y → NJ Y b X nL tgt lv st z r h cs sl) (kf : ¬ x < y → NJ Y b X nL (pc + 3) lv st z r h cs sl) : NJ Y b X nL pc lv (.int y :: .int x :: st) z r h cs sl := fun hz H locs ls hW hS hl => lv_icmp_lt C.1 C.2.1 dg ht (fun e => kt e hz H locs ls hW hS hl) (fun e => kf e hz H locs ls hW hS hl)
theorem n_icmp_ge {x y : Int32} {off : Int} (tgt : Nat) (C : NGd Y b X cc nL own d mc ms) (dg : decode cc pc = .ok (.if_icmp .ge off, 3)) (ht : (pc : Int) + off = (tgt : Int)) (kt : y ≤ x → NJ Y b X nL tgt lv st z r h cs sl) (kf : ¬ y ≤ x → NJ Y b X nL (pc + 3) lv st z r h cs sl) : NJ Y b X nL pc lv (.int y :: .int x :: st) z r h cs sl := fun hz H locs ls hW hS hl => lv_icmp_ge C.1 C.2.1 dg ht (fun e => kt e hz H locs ls hW hS hl) (fun e => kf e hz H locs ls hW hS hl)
theorem n_icmp_gt {x y : Int32} {off : Int} (tgt : Nat) (C : NGd Y b X cc nL own d mc ms) (dg : decode cc pc = .ok (.if_icmp .gt off, 3)) (ht : (pc : Int) + off = (tgt : Int)) (kt : y < x → NJ Y b X nL tgt lv st z r h cs sl) (kf : ¬ y < x → NJ Y b X nL (pc + 3) lv st z r h cs sl) : NJ Y b X nL pc lv (.int y :: .int x :: st) z r h cs sl := fun hz H locs ls hW hS hl => lv_icmp_gt C.1 C.2.1 dg ht (fun e => kt e hz H locs ls hW hS hl) (fun e => kf e hz H locs ls hW hS hl)
theorem n_icmp_le {x y : Int32} {off : Int} (tgt : Nat) (C : NGd Y b X cc nL own d mc ms) (dg : decode cc pc = .ok (.if_icmp .le off, 3)) (ht : (pc : Int) + off = (tgt : Int)) (kt : x ≤ y → NJ Y b X nL tgt lv st z r h cs sl) (kf : ¬ x ≤ y → NJ Y b X nL (pc + 3) lv st z r h cs sl) : NJ Y b X nL pc lv (.int y :: .int x :: st) z r h cs sl := fun hz H locs ls hW hS hl => lv_icmp_le C.1 C.2.1 dg ht (fun e => kt e hz H locs ls hW hS hl) (fun e => kf e hz H locs ls hW hS hl)
theorem n_goto {off : Int} (tgt : Nat) (C : NGd Y b X cc nL own d mc ms) (dg : decode cc pc = .ok (.goto off, 3)) (ht : (pc : Int) + off = (tgt : Int)) (k : NJ Y b X nL tgt lv st z r h cs sl) : NJ Y b X nL pc lv st z r h cs sl := fun hz H locs ls hW hS hl => lv_goto C.1 C.2.1 dg ht (k hz H locs ls hW hS hl)
theorem n_tswIn {dflt lo hi : Int} {offs : Array Int} {len : Nat} {x : Int32} {off : Int} (tgt : Nat) (C : NGd Y b X cc nL own d mc ms) (dg : decode cc pc = .ok (.tableswitch dflt lo hi offs, len)) (v : Int32) (e : x = v) (h1 : ¬ v.toInt < lo) (h2 : ¬ hi < v.toInt) (ho : offs[(v.toInt - lo).toNat]? = some off) (ht : (pc : Int) + off = (tgt : Int)) (k : NJ Y b X nL tgt lv st z r h cs sl) : NJ Y b X nL pc lv (.int x :: st) z r h cs sl := by
  subst e
  exact fun hz H locs ls hW hS hl => lv_tableIn C.1 C.2.1 dg h1 h2 ho ht (k hz H locs ls hW hS hl)
theorem n_tswOut {dflt lo hi : Int} {offs : Array Int} {len : Nat} {x : Int32} (tgt : Nat) (C : NGd Y b X cc nL own d mc ms) (dg : decode cc pc = .ok (.tableswitch dflt lo hi offs, len)) (ho : x.toInt < lo ∨ hi < x.toInt) (ht : (pc : Int) + dflt = (tgt : Int)) (k : NJ Y b X nL tgt lv st z r h cs sl) : NJ Y b X nL pc lv (.int x :: st) z r h cs sl := fun hz H locs ls hW hS hl => lv_tableOut C.1 C.2.1 dg ho ht (k hz H locs ls hW hS hl)
theorem n_iadd {x y : Int32} (C : NGd Y b X cc nL own d mc ms) (dg : decode cc pc = .ok (.iadd, 1)) (k : NJ Y b X nL (pc + 1) lv (.int (x + y) :: st) z r h cs sl) : NJ Y b X nL pc lv (.int y :: .int x :: st) z r h cs sl := fun hz H locs ls hW hS hl => lv_iadd C.1 C.2.1 dg (k hz H locs ls hW hS hl)
theorem n_isub {x y : Int32} (C : NGd Y b X cc nL own d mc ms) (dg : decode cc pc = .ok (.isub, 1)) (k : NJ Y b X nL (pc + 1) lv (.int (x - y) :: st) z r h cs sl) : NJ Y b X nL pc lv (.int y :: .int x :: st) z r h cs sl := fun hz H locs ls hW hS hl => lv_isub C.1 C.2.1 dg (k hz H locs ls hW hS hl)
theorem n_iand {x y : Int32} (C : NGd Y b X cc nL own d mc ms) (dg : decode cc pc = .ok (.iand, 1)) (k : NJ Y b X nL (pc + 1) lv (.int (x &&& y) :: st) z r h cs sl) : NJ Y b X nL pc lv (.int y :: .int x :: st) z r h cs sl := fun hz H locs ls hW hS hl => lv_iand C.1 C.2.1 dg (k hz H locs ls hW hS hl)
theorem n_newB {n : Int32} {N : Nat} (C : NGd Y b X cc nL own d mc ms) (harr : Cond.arrayClass .byte ∈ lg_tbl) (hk : yK Y z = 9) (hN : yN Y z = N) (hn : ¬ n < 0) (hnN : n.toNatClampNeg = N) (hby : N ≤ 20000) (h1 : cs + 1 ≤ mc) (h2 : sl + N ≤ ms) (dg : decode cc pc = .ok (.newarray .byte, 2)) (kk : NJ Y b X nL (pc + 2) lv (.ref z :: st) (z + 1) r h (cs + 1) (sl + N)) : NJ Y b X nL pc lv (.int n :: st) z r h cs sl := by
  intro hz H locs ls hW hS hl
  have hcb : N * componentBytes .byte ≤ 536870912 := by
    have h8 : componentBytes .byte ≤ 8 := by decide
    have h9 := Nat.mul_le_mul_left N h8
    omega
  refine va_newaK (atype := .byte) (N := N) (h := z) C.1 C.2.1 (C.2.2.2.2.1 _ harr) rfl dg rfl hn hnN hcb (by rw [C.2.2.2.2.2.2.2.1.2.2.1]; exact h1) (by rw [C.2.2.2.2.2.2.2.1.2.2.2]; exact h2) hW.2.1 (fun H1 cA e1 z1 o1 hA hf => ?_)
  have hc : cA = (yC Y).1 := Option.some.inj (hf.symm.trans (C.2.2.2.2.2.1.2 0 _ rfl).2)
  refine kk (by omega) H1 locs ls (hW.grow C.bz z1 o1 ?_) (hS.grow C.bz hW.2.1 z1 o1) hl
  rw [cN_B hk]
  have e : ∀ j, h.1 z j = 0 := fun j => (hW.2.2 z (Nat.le_refl _) j).2.1
  have e2 : vp_cell (yC Y).1 (yN Y z, .inl (h.1 z)) = arrV (yC Y).1 N (fun _ => defaultValue .byte) := by
    rw [hN, show (h.1 z) = fun _ => 0 from funext e]
    rfl
  show H1[z]? = some (vp_cell _ _)
  rw [hc] at e1
  rw [e2]
  exact e1
theorem n_newI {n : Int32} {N : Nat} (C : NGd Y b X cc nL own d mc ms) (harr : Cond.arrayClass .int ∈ lg_tbl) (hk : yK Y z = 10) (hN : yN Y z = N) (hn : ¬ n < 0) (hnN : n.toNatClampNeg = N) (hby : N ≤ 20000) (h1 : cs + 1 ≤ mc) (h2 : sl + N ≤ ms) (dg : decode cc pc = .ok (.newarray .int, 2)) (kk : NJ Y b X nL (pc + 2) lv (.ref z :: st) (z + 1) r h (cs + 1) (sl + N)) : NJ Y b X nL pc lv (.int n :: st) z r h cs sl := by
  intro hz H locs ls hW hS hl
  have hcb : N * componentBytes .int ≤ 536870912 := by
    have h8 : componentBytes .int ≤ 8 := by decide
    have h9 := Nat.mul_le_mul_left N h8
    omega
  refine va_newaK (atype := .int) (N := N) (h := z) C.1 C.2.1 (C.2.2.2.2.1 _ harr) rfl dg rfl hn hnN hcb (by rw [C.2.2.2.2.2.2.2.1.2.2.1]; exact h1) (by rw [C.2.2.2.2.2.2.2.1.2.2.2]; exact h2) hW.2.1 (fun H1 cA e1 z1 o1 hA hf => ?_)
  have hc : cA = (yC Y).2.1 := Option.some.inj (hf.symm.trans (C.2.2.2.2.2.1.2 1 _ rfl).2)
  refine kk (by omega) H1 locs ls (hW.grow C.bz z1 o1 ?_) (hS.grow C.bz hW.2.1 z1 o1) hl
  rw [cN_I hk]
  have e : ∀ j, h.1 z j = 0 := fun j => (hW.2.2 z (Nat.le_refl _) j).2.1
  have e2 : vp_cell (yC Y).2.1 (yN Y z, .inl (h.1 z)) = arrV (yC Y).2.1 N (fun _ => defaultValue .int) := by
    rw [hN, show (h.1 z) = fun _ => 0 from funext e]
    rfl
  show H1[z]? = some (vp_cell _ _)
  rw [hc] at e1
  rw [e2]
  exact e1
theorem n_newJ {n : Int32} {N : Nat} (C : NGd Y b X cc nL own d mc ms) (harr : Cond.arrayClass .long ∈ lg_tbl) (hk : yK Y z = 11) (hN : yN Y z = N) (hn : ¬ n < 0) (hnN : n.toNatClampNeg = N) (hby : N ≤ 20000) (h1 : cs + 1 ≤ mc) (h2 : sl + N ≤ ms) (dg : decode cc pc = .ok (.newarray .long, 2)) (kk : NJ Y b X nL (pc + 2) lv (.ref z :: st) (z + 1) r h (cs + 1) (sl + N)) : NJ Y b X nL pc lv (.int n :: st) z r h cs sl := by
  intro hz H locs ls hW hS hl
  have hcb : N * componentBytes .long ≤ 536870912 := by
    have h8 : componentBytes .long ≤ 8 := by decide
    have h9 := Nat.mul_le_mul_left N h8
    omega
  refine va_newaK (atype := .long) (N := N) (h := z) C.1 C.2.1 (C.2.2.2.2.1 _ harr) rfl dg rfl hn hnN hcb (by rw [C.2.2.2.2.2.2.2.1.2.2.1]; exact h1) (by rw [C.2.2.2.2.2.2.2.1.2.2.2]; exact h2) hW.2.1 (fun H1 cA e1 z1 o1 hA hf => ?_)
  have hc : cA = (yC Y).2.2.1 := Option.some.inj (hf.symm.trans (C.2.2.2.2.2.1.2 2 _ rfl).2)
  refine kk (by omega) H1 locs ls (hW.grow C.bz z1 o1 ?_) (hS.grow C.bz hW.2.1 z1 o1) hl
  rw [cN_J hk]
  have e : ∀ j, h.2 z j = 0 := fun j => (hW.2.2 z (Nat.le_refl _) j).2.2
  have e2 : vp_cell (yC Y).2.2.1 (yN Y z, .inr (.inl (h.2 z))) = arrV (yC Y).2.2.1 N (fun _ => defaultValue .long) := by
    rw [hN, show (h.2 z) = fun _ => 0 from funext e]
    rfl
  show H1[z]? = some (vp_cell _ _)
  rw [hc] at e1
  rw [e2]
  exact e1
theorem n_newZ {n : Int32} {N : Nat} (C : NGd Y b X cc nL own d mc ms) (harr : Cond.arrayClass .boolean ∈ lg_tbl) (hk : yK Y z = 12) (hN : yN Y z = N) (hn : ¬ n < 0) (hnN : n.toNatClampNeg = N) (hby : N ≤ 20000) (h1 : cs + 1 ≤ mc) (h2 : sl + N ≤ ms) (dg : decode cc pc = .ok (.newarray .boolean, 2)) (kk : NJ Y b X nL (pc + 2) lv (.ref z :: st) (z + 1) r h (cs + 1) (sl + N)) : NJ Y b X nL pc lv (.int n :: st) z r h cs sl := by
  intro hz H locs ls hW hS hl
  have hcb : N * componentBytes .boolean ≤ 536870912 := by
    have h8 : componentBytes .boolean ≤ 8 := by decide
    have h9 := Nat.mul_le_mul_left N h8
    omega
  refine va_newaK (atype := .boolean) (N := N) (h := z) C.1 C.2.1 (C.2.2.2.2.1 _ harr) rfl dg rfl hn hnN hcb (by rw [C.2.2.2.2.2.2.2.1.2.2.1]; exact h1) (by rw [C.2.2.2.2.2.2.2.1.2.2.2]; exact h2) hW.2.1 (fun H1 cA e1 z1 o1 hA hf => ?_)
  have hc : cA = (yC Y).2.2.2.1 := Option.some.inj (hf.symm.trans (C.2.2.2.2.2.1.2 3 _ rfl).2)
  refine kk (by omega) H1 locs ls (hW.grow C.bz z1 o1 ?_) (hS.grow C.bz hW.2.1 z1 o1) hl
  rw [cN_Z hk]
  have e : ∀ j, h.1 z j = 0 := fun j => (hW.2.2 z (Nat.le_refl _) j).2.1
  have e2 : vp_cell (yC Y).2.2.2.1 (yN Y z, .inl (h.1 z)) = arrV (yC Y).2.2.2.1 N (fun _ => defaultValue .boolean) := by
    rw [hN, show (h.1 z) = fun _ => 0 from funext e]
    rfl
  show H1[z]? = some (vp_cell _ _)
  rw [hc] at e1
  rw [e2]
  exact e1
theorem fvN_pR {k o j v : Nat} (hf : (fT k j).isSome = true) (hv : ¬ v = 0) : fvN k (pR r o j v) h o j = .ref v ∧ ∀ i, ¬ i = j → fvN k (pR r o j v) h o i = fvN k r h o i := by
  refine ⟨by unfold fvN pR; simp [hf, hv], fun i hi => ?_⟩
  unfold fvN pR
  simp [hi]
theorem fvN_pI {k o j : Nat} {v : Int32} (hf : fT k j = none) : fvN k r (pI h o j v) o j = .int v ∧ ∀ i, ¬ i = j → fvN k r (pI h o j v) o i = fvN k r h o i := by
  refine ⟨by unfold fvN pI; rw [hf]; simp, fun i hi => ?_⟩
  unfold fvN pI
  simp [hi]
theorem W_sz {p : Program} {l : Launch} {e : Env} {R : Room} {s : State} {m : MethodId} {args : Array Value} {below : List Frame} {meth : Method} {c : Code} {H : Heap} {locs : List Loc} {cells slots : Nat} {Q : State → Prop} {g : JFrame} (k : H.size ≤ s.heap.size + cells → W p l e R s m args below meth c H locs cells slots Q g) : W p l e R s m args below meth c H locs cells slots Q g := fun T hT X => k (by rw [← hT]; exact X.same.2.2.1) T hT X
theorem Wnw.ofP {H : Heap} {o : Nat} (g : va_P (yD Y) vwCl (plN b z (cN Y r h)) H) (h1 : b ≤ o) (h2 : o < z) (hs : H.size ≤ z) (h0 : ∀ a, z ≤ a → ∀ j, r a j = 0 ∧ h.1 a j = 0 ∧ h.2 a j = 0) : Wnw Y b z r h H := by
  refine Wnw.of g ?_ h0
  have h3 := (g _ _ (plN_get (f := cN Y r h) (show b ≤ z - 1 by omega) (show z - 1 < z by omega))).lt
  have h4 : z - 1 < H.size := h3
  omega
theorem n_getR {idx k j o v : Nat} {tj : FieldType} {fin : Bool} (C : NGd Y b X cc nL own d mc ms) (f : FL own idx k j tj fin) (h1 : b ≤ o) (h2 : o < z) (hk : yK Y o = k) (hf : (fT k j).isSome = true) (hv : r o j = v) (hv0 : ¬ v = 0) (dg : decode cc pc = .ok (.getfield idx, 3)) (kk : NJ Y b X nL (pc + 3) lv (.ref v :: st) z r h cs sl) : NJ Y b X nL pc lv (.ref o :: st) z r h cs sl := by
  intro hz H locs ls hW hS hl
  obtain ⟨D, T, n, ty, hc, hin, hj, hn, h9, hlink, hty, hnm, -, -⟩ := f
  have hq := plN_get (f := cN Y r h) h1 h2
  rw [cN_o hk h9] at hq
  have hv' : (flN k r h o)[j]? = some (.ref v) := by rw [flN_get (by omega)]; unfold fvN; rw [if_pos hf, hv, if_neg hv0]
  exact va_get C.1 C.2.1 C.2.2.2.2.1 hin C.2.2.2.1 C.2.2.2.2.2.1 hW.P (o - b) hq hc j hj (C.2.2.2.2.1 _ hlink) (fun _ h9 => h9) hv' dg (kk hz H locs ls hW hS hl)
theorem n_putR {idx k j o v : Nat} {tj : FieldType} {fin : Bool} (C : NGd Y b X cc nL own d mc ms) (f : FL own idx k j tj fin) (hin2 : X.2.2.2.2.2.2.2.2.1.name = "<init>") (hdec : ∀ q, vwCl[k]? = some q → (q.2.1 j).1 = own) (h1 : b ≤ o) (h2 : o < z) (hk : yK Y o = k) (hf : (fT k j).isSome = true) (hv0 : ¬ v = 0) (hn : narrow tj (.ref v) = .ref v) (hfit : fits tj (.ref v) = true) (dg : decode cc pc = .ok (.putfield idx, 3)) (kk : NJ Y b X nL (pc + 3) lv st z (pR r o j v) h cs sl) : NJ Y b X nL pc lv (.ref v :: .ref o :: st) z r h cs sl := by
  intro hz H locs ls hW hS hl
  obtain ⟨D, T, n, ty, hc, hin, hj, hnn, h9, hlink, hty, hnm, etj, hfi⟩ := f
  have hq := plN_get (f := cN Y r h) h1 h2
  rw [cN_o hk h9] at hq
  have hset := hW.set (r' := pR r o j v) (h' := h) h1 h2 (x := .inr (k, (flN k r h o).set j (.ref v))) (by rw [cN_o hk h9, flN_set (fvN_pR hf hv0).1 (fvN_pR hf hv0).2]) (pR_ne r h o j v)
  have h0 := hW.zero (r' := pR r o j v) (h' := h) h2 (pR_ne r h o j v)
  cases fin with
  | false =>
    refine va_put C.1 C.2.1 C.2.2.2.2.1 hin ty hty hnm C.2.2.2.1 C.2.2.2.2.2.1 hW.P plN_D hS (o - b) hq hc j hj (C.2.2.2.2.1 _ hlink) (fun _ h9 => h9) hfi (ty := tj) (by rw [← etj]; exact hty j hj) hn hfit (by rw [flN_len]; omega) dg (fun H1 locs1 hP1 hD1 hS1 => ?_)
    rw [hset] at hP1
    exact W_sz (fun hb => kk hz H1 locs1 ls (Wnw.ofP hP1 h1 h2 (by omega) h0) hS1 hl)
  | true =>
    refine va_putF C.1 C.2.1 C.2.2.2.2.1 hin ty hty hnm C.2.2.2.1 C.2.2.2.2.2.1 hW.P plN_D hS (o - b) hq hc j hj (C.2.2.2.2.1 _ hlink) (fun _ h9 => h9) hfi hin2 (hdec _ hc) (ty := tj) (by rw [← etj]; exact hty j hj) hn hfit (by rw [flN_len]; omega) dg (fun H1 locs1 hP1 hD1 hS1 => ?_)
    rw [hset] at hP1
    exact W_sz (fun hb => kk hz H1 locs1 ls (Wnw.ofP hP1 h1 h2 (by omega) h0) hS1 hl)
theorem n_putI {idx k j o : Nat} {tj : FieldType} {v : Int32} (C : NGd Y b X cc nL own d mc ms) (f : FL own idx k j tj false) (h1 : b ≤ o) (h2 : o < z) (hk : yK Y o = k) (hf : fT k j = none) (hn : narrow tj (.int v) = .int v) (hfit : fits tj (.int v) = true) (dg : decode cc pc = .ok (.putfield idx, 3)) (kk : NJ Y b X nL (pc + 3) lv st z r (pI h o j v) cs sl) : NJ Y b X nL pc lv (.int v :: .ref o :: st) z r h cs sl := by
  intro hz H locs ls hW hS hl
  obtain ⟨D, T, n, ty, hc, hin, hj, hnn, h9, hlink, hty, hnm, etj, hfi⟩ := f
  have hq := plN_get (f := cN Y r h) h1 h2
  rw [cN_o hk h9] at hq
  have hset := hW.set (r' := r) (h' := pI h o j v) h1 h2 (x := .inr (k, (flN k r h o).set j (.int v))) (by rw [cN_o hk h9, flN_set (fvN_pI hf).1 (fvN_pI hf).2]) (pI_ne r h o j v)
  have h0 := hW.zero (r' := r) (h' := pI h o j v) h2 (pI_ne r h o j v)
  refine va_put C.1 C.2.1 C.2.2.2.2.1 hin ty hty hnm C.2.2.2.1 C.2.2.2.2.2.1 hW.P plN_D hS (o - b) hq hc j hj (C.2.2.2.2.1 _ hlink) (fun _ h9 => h9) hfi (ty := tj) (by rw [← etj]; exact hty j hj) hn hfit (by rw [flN_len]; omega) dg (fun H1 locs1 hP1 hD1 hS1 => ?_)
  rw [hset] at hP1
  exact W_sz (fun hb => kk hz H1 locs1 ls (Wnw.ofP hP1 h1 h2 (by omega) h0) hS1 hl)
theorem pI_same {o j : Nat} {v : Int32} (e : h.1 o j = v) : pI h o j v = h := by
  unfold pI
  have : (fun a b => if a = o ∧ b = j then v else h.1 a b) = h.1 := by
    funext a b
    by_cases q : a = o ∧ b = j
    · rw [if_pos q, q.1, q.2]; exact e.symm
    · rw [if_neg q]
  rw [this]
/-- a field that is set to what it is -/
theorem n_put0 {idx k j o : Nat} {tj : FieldType} {v : Int32} (C : NGd Y b X cc nL own d mc ms) (f : FL own idx k j tj false) (h1 : b ≤ o) (h2 : o < z) (hk : yK Y o = k) (hf : fT k j = none) (hn : narrow tj (.int v) = .int v) (hfit : fits tj (.int v) = true) (e : h.1 o j = v) (dg : decode cc pc = .ok (.putfield idx, 3)) (kk : NJ Y b X nL (pc + 3) lv st z r h cs sl) : NJ Y b X nL pc lv (.int v :: .ref o :: st) z r h cs sl := n_putI C f h1 h2 hk hf hn hfit dg (by rw [pI_same e]; exact kk)
/-- 'new' by its place in the pool -/
def NL (own : String) (idx k : Nat) : Prop := ∃ (C : String) (T : u_T) (n : Nat) (ty : Nat → FieldType), vwCl[k]? = some (C, T, n) ∧ (∀ w ∈ u_ws C T n, w ∈ lg_tbl) ∧ nF k = n ∧ k < 9 ∧ (∀ i, i < n → parseFieldDescriptor (T i).2.2.1 = some (ty i)) ∧ Cond.classLink own idx C ∈ lg_tbl ∧ Cond.instantiable C n ∈ lg_tbl ∧ Cond.initialized C ∈ lg_tbl ∧ ∀ j, j < n → defaultValue (ty j) = (if (fT k j).isSome = true then .null else .int 0)
theorem n_new {idx k : Nat} (C : NGd Y b X cc nL own d mc ms) (f : NL own idx k) (hk : yK Y z = k) (h1 : cs + 1 ≤ mc) (h2 : sl + nF k ≤ ms) (dg : decode cc pc = .ok (.new idx, 3)) (kk : NJ Y b X nL (pc + 3) lv (.ref z :: st) (z + 1) r h (cs + 1) (sl + nF k)) : NJ Y b X nL pc lv st z r h cs sl := by
  intro hz H locs ls hW hS hl
  obtain ⟨D, T, n, ty, hc, hin, hn, h9, hty, hcl, hinst, hini, hdf⟩ := f
  have hKn := C.2.2.2.2.2.1.1 k _ hc
  subst hn
  refine W.newcK (g := F0 _ pc ls st) (h := z) C.1 C.2.1 C.2.2.2.1 (C.2.2.2.2.1 _ hcl) (C.2.2.2.2.1 _ hinst) (C.2.2.2.2.1 _ hini) rfl dg (by rw [C.2.2.2.2.2.2.2.1.2.2.1]; exact h1) (by rw [C.2.2.2.2.2.2.2.1.2.2.2]; exact h2) hKn.2.1 hW.2.1 (fun H1 kC hkC e1 z1 o1 => ?_)
  refine kk (by omega) H1 locs ls (hW.grow C.bz z1 o1 ?_) (hS.grow C.bz hW.2.1 z1 o1) hl
  rw [cN_o hk h9]
  refine ⟨_, hc, (u_born ty C.2.2.2.2.1 hin hKn hkC e1 hty).to (fun j hj => ?_)⟩
  have hj' : j < nF k := hj
  rw [hdf j hj]
  show _ = (flN k r h z).getD j .null
  rw [List.getD_eq_getElem?_getD, flN_get hj']
  show _ = fvN k r h z j
  unfold fvN
  rw [(hW.2.2 z (Nat.le_refl _) j).1, (hW.2.2 z (Nat.le_refl _) j).2.1]
  simp
theorem n_anew {idx : Nat} {n : Int32} {N : Nat} (C : NGd Y b X cc nL own d mc ms) (hcl : Cond.classLink own idx "SmellRace$Scene" ∈ lg_tbl) (hk : yK Y z = 13) (hN : yN Y z = N) (hn : ¬ n < 0) (hnN : n.toNatClampNeg = N) (hby : N ≤ 20000) (h1 : cs + 1 ≤ mc) (h2 : sl + N ≤ ms) (dg : decode cc pc = .ok (.anewarray idx, 3)) (kk : NJ Y b X nL (pc + 3) lv (.ref z :: st) (z + 1) r h (cs + 1) (sl + N)) : NJ Y b X nL pc lv (.int n :: st) z r h cs sl := by
  intro hz H locs ls hW hS hl
  subst hnN
  refine W.anew (g := F0 _ pc ls (.int n :: st)) C.1 C.2.1 C.2.2.2.1 (C.2.2.2.2.1 _ hcl) (va_AO.use C.2.2.2.2.2.2.2.2.1.2.2.2.2.2) rfl dg rfl hn (by omega) (by rw [C.2.2.2.2.2.2.2.1.2.2.1]; exact h1) (by rw [C.2.2.2.2.2.2.2.1.2.2.2]; exact h2) (fun cA kA comp f1 f2 f3 f4 => ?_)
  have hc : cA = (yC Y).2.2.2.2 := by
    have e := (C.2.2.2.2.2.1.2 4 _ rfl).2
    obtain ⟨_, _, _, _, _, e⟩ := e
    exact Option.some.inj (f1.symm.trans e)
  have e0 := hW.2.1
  rw [e0]
  have o1 : ∀ q, q < z → (H.push { cls := cA, slots := Array.replicate n.toNatClampNeg .null, vm := .none })[q]? = H[q]? := fun q hq => by rw [Array.getElem?_push, if_neg (by omega)]
  have z1 : (H.push { cls := cA, slots := Array.replicate n.toNatClampNeg .null, vm := .none }).size = z + 1 := by rw [Array.size_push, e0]
  refine kk (by omega) _ locs ls (hW.grow C.bz z1 o1 ?_) (hS.grow C.bz hW.2.1 z1 o1) hl
  rw [cN_S hk, hN]
  have e2 : rfN r z = fun _ => none := funext (fun j => by unfold rfN; rw [if_pos (hW.2.2 z (Nat.le_refl _) j).1])
  rw [e2]
  show (H.push _)[z]? = some (arrV (yC Y).2.2.2.2 n.toNatClampNeg (fun _ => .null))
  rw [← arrV_new, hc, ← e0]
  simp
theorem n_aast {o v N iN : Nat} {i : Int32} (C : NGd Y b X cc nL own d mc ms) (h1 : b ≤ o) (h2 : o < z) (hk : yK Y o = 13) (hN : yN Y o = N) (hi : vp_in i N) (hiN : i.toNatClampNeg = iN) (g1 : b ≤ v) (g2 : v < z) (gk : yK Y v = 5) (dg : decode cc pc = .ok (.aastore, 1)) (kk : NJ Y b X nL (pc + 1) lv st z (pR r o iN v) h cs sl) : NJ Y b X nL pc lv (.ref v :: .int i :: .ref o :: st) z r h cs sl := by
  intro hz H locs ls hW hS hl
  subst hiN
  have hv0 : ¬ v = 0 := by have := C.2.2.2.2.2.2.2.2.2.1; omega
  have hq := plN_get (f := cN Y r h) h1 h2
  rw [cN_S hk] at hq
  have hq2 := plN_get (f := cN Y r h) g1 g2
  rw [cN_o gk (by decide)] at hq2
  have e : rfN (pR r o i.toNatClampNeg v) o = va_up (rfN r o) i.toNatClampNeg (some v) := by
    funext j
    unfold rfN va_up pR
    by_cases q : j = i.toNatClampNeg
    · simp [q, hv0]
    · simp [q]
  have hset := hW.set (r' := pR r o i.toNatClampNeg v) (h' := h) h1 h2 (x := .inl ((yC Y).2.2.2.2, yN Y o, .inr (.inr (.inr (.inr (va_up (rfN r o) i.toNatClampNeg (some v))))))) (by rw [cN_S hk, e]) (pR_ne r h o _ v)
  have h0 := hW.zero (r' := pR r o i.toNatClampNeg v) (h' := h) h2 (pR_ne r h o _ v)
  refine va_astq (r := (RX5, TX5, 7)) C.1 C.2.1 C.2.2.2.2.2.1 hW.P plN_D hS (o - b) 4 (v - b) 5 hq rfl hq2 rfl (by rw [hN]; exact hi) dg (fun H1 locs1 hP1 hD1 hS1 => ?_)
  rw [hset] at hP1
  exact W_sz (fun hb => kk hz H1 locs1 ls (Wnw.ofP hP1 h1 h2 (by omega) h0) hS1 hl)
theorem n_last {o N iN : Nat} {i : Int32} {x : Int64} (C : NGd Y b X cc nL own d mc ms) (h1 : b ≤ o) (h2 : o < z) (hk : yK Y o = 11) (hN : yN Y o = N) (hi : vp_in i N) (hiN : i.toNatClampNeg = iN) (dg : decode cc pc = .ok (.lastore, 1)) (kk : NJ Y b X nL (pc + 1) lv st z r (pL h o iN x) cs sl) : NJ Y b X nL pc lv (.long x :: .int i :: .ref o :: st) z r h cs sl := by
  intro hz H locs ls hW hS hl
  subst hiN
  have hq := plN_get (f := cN Y r h) h1 h2
  rw [cN_J hk] at hq
  have hset := hW.set (r' := r) (h' := pL h o i.toNatClampNeg x) h1 h2 (x := .inl ((yC Y).2.2.1, yN Y o, .inr (.inl (vp_updL (h.2 o) i.toNatClampNeg x)))) (by rw [cN_J hk, pL_at]) (pL_ne r h o _ _)
  have h0 := hW.zero (r' := r) (h' := pL h o i.toNatClampNeg x) h2 (pL_ne r h o _ _)
  refine va_last C.1 C.2.1 C.2.2.2.2.2.1 hW.P plN_D hS (o - b) 2 hq rfl (by rw [hN]; exact hi) dg (fun H1 locs1 hP1 hD1 hS1 => ?_)
  rw [hset] at hP1
  exact W_sz (fun hb => kk hz H1 locs1 ls (Wnw.ofP hP1 h1 h2 (by omega) h0) hS1 hl)
theorem n_objInit {idx o : Nat} (C : NGd Y b X cc nL own d mc ms) (hd : 1 ≤ d) (hlink : Cond.methodLink own idx Lib.objectInit ∈ lg_tbl) (hinst : Cond.instanceMethod Lib.objectInit ∈ lg_tbl) (hcode : Cond.code Lib.objectInit ⟨#[0xb1]⟩ 1 none ∈ lg_tbl) (dg : decode cc pc = .ok (.invokespecial idx, 3)) (kk : NJ Y b X nL (pc + 3) lv [] z r h cs sl) : NJ Y b X nL pc lv [.ref o] z r h cs sl := by
  intro hz H locs ls hW hS hl
  have hr := C.2.2.2.2.2.2.2.1
  refine W.objInit (g := F0 _ pc ls [.ref o]) C.1 C.2.1 C.2.2.2.1 (C.2.2.2.2.1 _ hlink) (C.2.2.2.2.1 _ hinst) (C.2.2.2.2.1 _ hcode) rfl (by rw [C.2.2.1]; exact hl.1) rfl dg (by omega) ?_ (kk hz H locs ls hW hS hl)
  show 2 * 0 + 0 + 12 ≤ _
  omega
/-- a constructor by its place in the pool -/
def MI (own : String) (idx : Nat) (y : MethodName) (cc : ByteArray) (nL : Nat) : Prop := GoodIn lg_tbl (Cond.code y cc nL none :: lg_tbl) ∧ Cond.initialized y.cls ∈ lg_tbl ∧ Cond.instanceMethod y ∈ lg_tbl ∧ y.name = "<init>" ∧ (y.cls ≠ "java/lang/invoke/MethodHandle" ∧ y.cls ≠ "java/lang/invoke/VarHandle" ∧ (parseMethodDescriptor y.desc).map (fun d => d.parameters.length) = some 0) ∧ nL ≤ 60 ∧ (Cond.methodLink own idx y ∈ lg_tbl ∨ (own, idx, y, "SmellRace") ∈ nests)
theorem n_callC {y : MethodName} {cc' : ByteArray} {nL' d' idx mc' ms' o : Nat} {post : TR → TH → Prop} (C : NGd Y b X cc nL own d mc ms) (ml : MI own idx y cc' nL') (hM : Mc Y b X.2.1 y cc' nL' d' mc' ms' o r h post) (hz1 : z = o + 1) (hd : d' < d) (hcat : (st.map fun v => v.category).sum ≤ 8) (h1 : cs + mc' ≤ mc) (h2 : sl + ms' ≤ ms) (dg : decode cc pc = .ok (.invokespecial idx, 3)) (kk : ∀ r1 h1, post r1 h1 → NJ Y b X nL (pc + 3) lv st (z + mc') r1 h1 (cs + mc') (sl + ms')) : NJ Y b X nL pc lv (.ref o :: st) z r h cs sl := by
  intro hz H locs ls hW hS hl
  subst hz1
  obtain ⟨hG, hini, hinst, hy1, hy, hL, hlk⟩ := ml
  have hr := C.2.2.2.2.2.2.2.1
  have hR : (rmc d' mc' ms').frames + 1 ≤ X.2.2.2.1.frames ∧ 8 + (nL' + 11) + (rmc d' mc' ms').locals ≤ X.2.2.2.1.locals := by
    show d' + 1 ≤ _ ∧ 8 + (nL' + 11) + 80 * d' ≤ _
    omega
  have hpre : PreS X.2.2.2.2.1 H (va_Pc [.ref o] (Wq Y b (o + 1) r h)) [.ref o] := ⟨fun a U g mk q => ⟨q.1, q.2.1, va_K.moved (u := U) (U := U.calling g mk a) (Vm.Alike.refl U.vm) q.2.2.1, Zy.same (u := U) (U := U.calling g mk a) rfl q.2.2.2⟩, fun U hU hWm => ⟨rfl, by rw [hU]; exact hW, va_K.moved hWm.alike C.2.2.2.2.2.1, by rw [hU]; exact Zy.warm hWm hS C.2.2.2.2.2.2.2.2.1⟩⟩
  rcases hlk with hlk | hlk
  · refine va_callv (va_runI (As := []) (rest := st) ⟨C.1, C.2.1, C.2.2.1, C.2.2.2.1, C.2.2.2.2.1⟩ hM (cwI 0 C.2.2.2.2.1 hG rfl rfl rfl (C.2.2.2.2.1 _ hini) (C.2.2.2.2.1 _ hlk) (C.2.2.2.2.1 _ hinst) hy1 hy hR) hpre rfl rfl hl.1 rfl (lv_room hcat) dg ⟨by omega, by omega⟩) hS (fun _ _ h => h) (fun _ h => h) (fun u t H1 locs1 ht hvm hw hB hz' hk hS1 => ?_)
    exact kk u.1 u.2 hw (by omega) H1 locs1 ls (by rw [← ht]; exact hB.1) hS1 hl
  · refine va_callv (va_runIN (As := []) (rest := st) ⟨C.1, C.2.1, C.2.2.1, C.2.2.2.1, C.2.2.2.2.1⟩ hM ⟨va_cnB 0 C.2.2.2.2.1 hG rfl rfl rfl (C.2.2.2.2.2.2.2.2.1.1 _ hlk) (C.2.2.2.2.1 _ hini) hy hR, hy1, C.2.2.2.2.1 _ hinst⟩ hpre rfl rfl hl.1 rfl (lv_room hcat) dg ⟨by omega, by omega⟩) hS (fun _ _ h => h) (fun _ h => h) (fun u t H1 locs1 ht hvm hw hB hz' hk hS1 => ?_)
    exact kk u.1 u.2 hw (by omega) H1 locs1 ls (by rw [← ht]; exact hB.1) hS1 hl
theorem n_vret {o : Nat} {post : TR → TH → Prop} (C : NGd Y b X cc nL own d mc ms) (R : Rc Y b X mc ms o post) (dg : decode cc pc = .ok (.return_, 1)) (hz1 : z = o + 1 + mc) (hp : post r h) : NJ Y b X nL pc lv [] z r h mc ms := by
  intro hz H locs ls hW hS hl
  subst hz1
  rw [R.2.1]
  exact W.vret C.1 C.2.1 R.1 (fun t ht hWm => ⟨⟨(r, h), rfl, hp, by rw [ht]; exact hW, va_K.moved hWm.alike C.2.2.2.2.2.1⟩, hS.F ht⟩) hS.2.2 dg C.2.2.2.2.2.2.1
theorem Mc.of {l : Launch} {y : MethodName} {o : Nat} {post : TR → TH → Prop} (own : String) (ho : y.cls = own) (hy : plainName y.cls = true) (hnm : y.name = "<init>") (hn : 1 ≤ nL) (hb : 0 < b) (hbo : b ≤ o)
    (body : ∀ X : CX, X.2.1 = l → NGd Y b X cc nL own d mc ms → Rc Y b X mc ms o post → NJ Y b X nL 0 [(0, .ref o)] [] (o + 1) r h 0 0) : Mc Y b l y cc nL d mc ms o r h post := by
  refine Met.ofW (cc := cc) (maxL := nL) (ret := none) hy rfl ?_
  intro p e s m args below meth c s₁ B hml hv
  obtain ⟨rfl, hW, hK, hZ⟩ := hv
  have hts := atoms_spec (ws := Cond.code y cc nL none :: lg_tbl) B.pre
  have hown : s.vm.findClass own = some m.cls := by rw [← ho]; exact findClass_of_methodNamed B.named
  have hin : meth.name = "<init>" := by rw [(name_of_methodNamed B.named B.method).1]; exact hnm
  have hl := lv_entry [Value.ref o] (n := nL) (by simpa [lg_sl, Value.category] using hn)
  rw [lg_entry_eq]
  have hs := hW.2.1
  exact body (p, l, e, rmc d mc ms, s, m, [Value.ref o].toArray, below, meth, c, _) rfl ⟨B.exec, B.bytes, hml, hown, fun w hw => hts w (List.mem_cons_of_mem _ hw), hK, B.notSynchronized, ⟨Nat.le_refl _, Nat.le_refl _, rfl, rfl⟩, hZ, hb, by show b ≤ s.heap.size; omega⟩ ⟨B.returns, rfl, hin, hs⟩ hs.symm s.heap [] _ hW va_S.rf hl
end NROWS
