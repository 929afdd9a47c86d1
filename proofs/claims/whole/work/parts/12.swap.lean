/-- contracts of the two methods that change references -/
def Mir (Y : CG) (r : TR) (l : Launch) (y : MethodName) (cc : ByteArray) (nL : Nat) (d : Nat) (av : List Value) (h : TH) (post : Int32 → TR → TH → Prop) : Prop :=
  Met l y (Cond.code y cc nL (some .int) :: lg_tbl) (rm d) (va_Pc av (Wp Y r h)) (va_Qi (fun v (u : TR × TH) => post v u.1 u.2) (fun u U => Wc Y u.1 u.2 U) (fun q => q ∈ yL Y)) 0 0 (fun q => q ∈ yL Y)
def Mvr (Y : CG) (r : TR) (l : Launch) (y : MethodName) (cc : ByteArray) (nL : Nat) (d : Nat) (av : List Value) (h : TH) (post : TR → TH → Prop) : Prop :=
  Met l y (Cond.code y cc nL none :: lg_tbl) (rm d) (va_Pc av (Wp Y r h)) (va_Qv (fun (u : TR × TH) => post u.1 u.2) (fun u U => Wc Y u.1 u.2 U) (fun q => q ∈ yL Y)) 0 0 (fun q => q ∈ yL Y)
def Rir (Y : CG) (X : CX) (post : Int32 → TR → TH → Prop) : Prop := X.2.2.2.2.2.2.2.2.1.sig.returnType = some .int ∧ X.2.2.2.2.2.2.2.2.2.2 = MQ X.2.2.2.2.2.2.2.1 (va_Qi (fun v (u : TR × TH) => post v u.1 u.2) (fun u U => Wc Y u.1 u.2 U) (fun q => q ∈ yL Y)) X.2.2.2.2.2.2.1 X.2.2.2.2.1 0 0 (fun q => q ∈ yL Y)
def Rvr (Y : CG) (X : CX) (post : TR → TH → Prop) : Prop := X.2.2.2.2.2.2.2.2.1.sig.returnType = none ∧ X.2.2.2.2.2.2.2.2.2.2 = MQ X.2.2.2.2.2.2.2.1 (va_Qv (fun (u : TR × TH) => post u.1 u.2) (fun u U => Wc Y u.1 u.2 U) (fun q => q ∈ yL Y)) X.2.2.2.2.2.2.1 X.2.2.2.2.1 0 0 (fun q => q ∈ yL Y)
theorem Mir.of {Y : CG} {r : TR} {l : Launch} {y : MethodName} {cc : ByteArray} {nL : Nat} {d : Nat} {av : List Value} {h : TH} {post : Int32 → TR → TH → Prop} (own : String) (ho : y.cls = own) (hy : plainName y.cls = true) (hn : (lg_sl av).length ≤ nL) (lv : List (Nat × Value)) (hlv : lv_args 0 av = lv)
    (body : ∀ X : CX, X.2.1 = l → Gd Y X cc nL own d → Rir Y X post → G Y X nL 0 lv [] r h) : Mir Y r l y cc nL d av h post := by
  refine Met.ofW (cc := cc) (maxL := nL) (ret := (some .int)) hy rfl ?_
  intro p e s m args below meth c s₁ B hml hv
  obtain ⟨rfl, ⟨hW, hT, hK⟩, hZ⟩ := hv
  have hts := atoms_spec (ws := Cond.code y cc nL (some .int) :: lg_tbl) B.pre
  have hown : s.vm.findClass own = some m.cls := by rw [← ho]; exact findClass_of_methodNamed B.named
  have hl := lv_entry av (n := nL) hn
  rw [lg_entry_eq]
  rw [hlv] at hl
  exact body (p, l, e, rm d, s, m, av.toArray, below, meth, c, _) rfl ⟨B.exec, B.bytes, hml, hown, fun w hw => hts w (List.mem_cons_of_mem _ hw), hK, B.notSynchronized, rfl, hZ⟩ ⟨B.returns, rfl⟩ s.heap [] _ hW va_S.rf hT hl
theorem Mvr.of {Y : CG} {r : TR} {l : Launch} {y : MethodName} {cc : ByteArray} {nL : Nat} {d : Nat} {av : List Value} {h : TH} {post : TR → TH → Prop} (own : String) (ho : y.cls = own) (hy : plainName y.cls = true) (hn : (lg_sl av).length ≤ nL) (lv : List (Nat × Value)) (hlv : lv_args 0 av = lv)
    (body : ∀ X : CX, X.2.1 = l → Gd Y X cc nL own d → Rvr Y X post → G Y X nL 0 lv [] r h) : Mvr Y r l y cc nL d av h post := by
  refine Met.ofW (cc := cc) (maxL := nL) (ret := none) hy rfl ?_
  intro p e s m args below meth c s₁ B hml hv
  obtain ⟨rfl, ⟨hW, hT, hK⟩, hZ⟩ := hv
  have hts := atoms_spec (ws := Cond.code y cc nL none :: lg_tbl) B.pre
  have hown : s.vm.findClass own = some m.cls := by rw [← ho]; exact findClass_of_methodNamed B.named
  have hl := lv_entry av (n := nL) hn
  rw [lg_entry_eq]
  rw [hlv] at hl
  exact body (p, l, e, rm d, s, m, av.toArray, below, meth, c, _) rfl ⟨B.exec, B.bytes, hml, hown, fun w hw => hts w (List.mem_cons_of_mem _ hw), hK, B.notSynchronized, rfl, hZ⟩ ⟨B.returns, rfl⟩ s.heap [] _ hW va_S.rf hT hl
section SWAP
variable {Y : CG} {X : CX} {cc : ByteArray} {nL d : Nat} {own : String} {pc : Nat} {lv : List (Nat × Value)} {st : List Value} {r : TR} {h : TH}
theorem g_callVvr {y : MethodName} {cc' : ByteArray} {nL' d' idx k n o : Nat} {As st0 : List Value} {post : TR → TH → Prop} (C : Gd Y X cc nL own d) (ml : MV own idx k y cc' nL' none n) (hM : Mvr Y r X.2.1 y cc' nL' d' (.ref o :: As) h post) (to : TO Y o k) (hd : d' < d) (hn : As.length = n) (hst : st0 = As.reverse ++ .ref o :: st) (hcat : (st.map fun v => v.category).sum ≤ 8) (dg : decode cc pc = .ok (.invokevirtual idx, 3)) (kk : ∀ r1 h1, post r1 h1 → G Y X nL (pc + 3) lv st r1 h1) : G Y X nL pc lv st0 r h := by
  subst hst
  intro H locs ls hW hS hT hl
  obtain ⟨D, T, N, hc, h9, hG, hy, hL⟩ := ml
  obtain ⟨q, -, hq⟩ := pl_get (r := r) (h := h) to.1 (cE_o to.2 h9)
  refine va_callv (va_runV (As := As) (rest := st) ⟨C.1, C.2.1, C.2.2.1, C.2.2.2.1, C.2.2.2.2.1⟩ hM (cwV n C.2.2.2.2.1 hG rfl rfl rfl hy (by rw [C.2.2.2.2.2.2.2.1]; exact rm_ok hd hL)) ⟨blind _, va_recv C.2.2.2.2.2.1 hW.1 hc hq, fun U hU hWm => ⟨rfl, ⟨by rw [hU]; exact hW, hT, va_K.moved hWm.alike C.2.2.2.2.2.1⟩, by rw [hU]; exact Zx.warm hWm hS C.2.2.2.2.2.2.2.2⟩⟩ rfl hn hl.1 rfl (lv_room hcat) dg ⟨Nat.zero_le _, Nat.zero_le _⟩) hS (fun _ _ h => h) (fun _ h => h) (fun u t H1 locs1 ht hvm hw hB hz hk hS1 => ?_)
  exact kk u.1 u.2 hw H1 locs1 ls (by rw [← ht]; exact hB.1) hS1 hB.2.1 hl
theorem g_iretr {v : Int32} {post : Int32 → TR → TH → Prop} (C : Gd Y X cc nL own d) (R : Rir Y X post) (dg : decode cc pc = .ok (.ireturn, 1)) (hp : post v r h) : G Y X nL pc lv [.int v] r h := by
  intro H locs ls hW hS hT hl
  rw [R.2]
  exact W.iret C.1 C.2.1 R.1 (fun t ht hWm => ⟨⟨v, (r, h), rfl, hp, by rw [ht]; exact hW, hT, va_K.moved hWm.alike C.2.2.2.2.2.1⟩, hS.F ht⟩) hS.2.2 dg C.2.2.2.2.2.2.1
theorem g_vretr {post : TR → TH → Prop} (C : Gd Y X cc nL own d) (R : Rvr Y X post) (dg : decode cc pc = .ok (.return_, 1)) (hp : post r h) : G Y X nL pc lv [] r h := by
  intro H locs ls hW hS hT hl
  rw [R.2]
  exact W.vret C.1 C.2.1 R.1 (fun t ht hWm => ⟨⟨(r, h), rfl, hp, by rw [ht]; exact hW, hT, va_K.moved hWm.alike C.2.2.2.2.2.1⟩, hS.F ht⟩) hS.2.2 dg C.2.2.2.2.2.2.1
end SWAP
