/-! calls of methods that make nothing, out of a body that makes cells -/
section NCALL
variable {Y : CG} {b : Nat} {X : CX} {cc : ByteArray} {nL d mc ms : Nat} {own : String} {pc : Nat} {lv : List (Nat × Value)} {st : List Value} {z : Nat} {r : TR} {h : TH} {cs sl : Nat}
theorem arrV_ext {cI : ClassId} {N : Nat} {f g : Nat → Value} (e : ∀ j, j < N → f j = g j) : arrV cI N f = arrV cI N g := by
  unfold arrV
  have : (Array.ofFn (n := N) fun j => f j.val) = Array.ofFn (n := N) fun j => g j.val := by
    congr 1
    funext j
    exact e j.val j.isLt
  rw [this]
/-- cells that are whole: their references stay among them -/
def Whl (Y : CG) (b z : Nat) (L : List Nat) (r : TR) : Prop := L.Nodup ∧ (∀ a ∈ L, b ≤ a ∧ a < z ∧ yK Y a ≤ 13) ∧ WT (yw Y L) r
theorem at_cE {L : List Nat} {a : Nat} {H : Heap} (hb : 0 < b) (g : Whl Y b z L r) (ha : a ∈ L) : va_at (yD Y) vwCl (a, cN Y r h a) H ↔ va_at (yD Y) vwCl (a, cE (yw Y L) r h a) H := by
  obtain ⟨-, gk, hT⟩ := g
  have nz : ∀ j k n, fT (yK Y a) j = some (k, n) → (yK Y a = 13 → j < yN Y a) → ¬ r a j = 0 := fun j k n e c => by
    have h1 := (hT a ha j k n e c).1
    have h2 := (gk _ h1).1
    omega
  by_cases h9 : yK Y a < 9
  · have e : cN Y r h a = cE (yw Y L) r h a := by
      rw [cN_o rfl h9, cE_o (Y := yw Y L) (k := yK Y a) rfl h9]
      have e2 : flN (yK Y a) r h a = fl (yK Y a) r h a := by
        unfold flN fl
        apply List.map_congr_left
        intro j _
        unfold fvN fv
        cases hf : fT (yK Y a) j with
        | none => rfl
        | some q =>
          obtain ⟨k, n⟩ := q
          simp only [Option.isSome_some, if_true]
          rw [if_neg (nz j k n hf (fun e => by omega))]
      rw [e2]
    rw [e]
  · by_cases h13 : yK Y a = 13
    · rw [cN_S h13, cE_S (Y := yw Y L) h13]
      have e : vp_cell (yC Y).2.2.2.2 (yN Y a, .inr (.inr (.inr (.inr (rfN r a))))) = vp_cell (yC Y).2.2.2.2 (yN Y a, .inr (.inr (.inr (.inr (fun j => some (r a j)))))) := by
        rw [vp_cell_q, vp_cell_q]
        apply arrV_ext
        intro j hj
        unfold rfN
        rw [if_neg (nz j 5 0 (by rw [h13]; rfl) (fun _ => hj))]
      show H[a]? = some (vp_cell _ _) ↔ H[a]? = some (vp_cell _ _)
      rw [e]
      exact Iff.rfl
    · have h5 := (gk a ha).2.2
      have h6 : yK Y a = 9 ∨ yK Y a = 10 ∨ yK Y a = 11 ∨ yK Y a = 12 := by omega
      rcases h6 with k | k | k | k
      · rw [cN_B k, cE_B (Y := yw Y L) k]; exact Iff.rfl
      · rw [cN_I k, cE_I (Y := yw Y L) k]; exact Iff.rfl
      · rw [cN_J k, cE_J (Y := yw Y L) k]; exact Iff.rfl
      · rw [cN_Z k, cE_Z (Y := yw Y L) k]; exact Iff.rfl
theorem pl_at {L : List Nat} {f : Nat → va_E} {i : Nat} {p : Nat × va_E} (h : (va_pl L f)[i]? = some p) : L[i]? = some p.1 ∧ p = (p.1, f p.1) := by
  unfold va_pl at h
  rw [List.getElem?_map] at h
  cases hl : L[i]? with
  | none => rw [hl] at h; cases h
  | some a =>
    rw [hl] at h
    have e := Option.some.inj h
    rw [← e]
    exact ⟨rfl, rfl⟩
theorem Wnw.wd {L : List Nat} {H : Heap} (hb : 0 < b) (g : Whl Y b z L r) (hW : Wnw Y b z r h H) : Wd (yw Y L) r h H := by
  refine ⟨fun k q hk => ?_, fun i j p q hp hq e => ?_, fun k q hk => ?_⟩
  · obtain ⟨h1, h2⟩ := pl_at hk
    have hm : q.1 ∈ L := List.mem_of_getElem? h1
    rw [h2]
    exact (at_cE hb g hm).mp (hW.1 _ (g.2.1 _ hm).1 (g.2.1 _ hm).2.1)
  · have h1 := (pl_at hp).1
    have h2 := (pl_at hq).1
    exact (List.getElem?_inj (List.getElem?_eq_some_iff.mp h1).1 g.1).mp (h1.trans ((congrArg some e).trans h2.symm))
  · exact List.mem_of_getElem? (pl_at hk).1
theorem Wnw.back {L : List Nat} {H H1 : Heap} {h1 : TH} (hb : 0 < b) (g : Whl Y b z L r) (hW : Wnw Y b z r h H) (hd : Wd (yw Y L) r h1 H1) (hk : ∀ q, q < H.size → ¬ q ∈ L → H1[q]? = H[q]?) (hs : H1.size = z) (hf : Fr (fun a => a ∈ L) h h1) : Wnw Y b z r h1 H1 := by
  refine ⟨fun a ha hz => ?_, hs, fun a ha j => ?_⟩
  · by_cases hm : a ∈ L
    · obtain ⟨k, hk⟩ := va_pl_get (X := []) (f := cE (yw Y L) r h1) hm
      exact (at_cE hb g hm).mpr (hd.1 k _ hk)
    · rw [cN_ne (hf a hm).1 (hf a hm).2 rfl]
      exact (hW.1 a ha hz).kept (hk a (by rw [hW.2.1]; exact hz) hm)
  · have hm : ¬ a ∈ L := fun q => by have := (g.2.1 a q).2.1; omega
    rw [(hf a hm).1, (hf a hm).2]
    exact hW.2.2 a ha j
theorem n_callVv {y : MethodName} {cc' : ByteArray} {nL' d' idx k n o : Nat} {As st0 : List Value} {post : TH → Prop} (L : List Nat) (C : NGd Y b X cc nL own d mc ms) (ml : MV own idx k y cc' nL' none n) (g : Whl Y b z L r) (hM : Mv (yw Y L) r X.2.1 y cc' nL' d' (.ref o :: As) h (fun h1 => Fr (fun a => a ∈ L) h h1 ∧ post h1)) (ho : o ∈ L) (hk : yK Y o = k) (hd : d' < d) (hn : As.length = n) (hst : st0 = As.reverse ++ .ref o :: st) (hcat : (st.map fun v => v.category).sum ≤ 8) (hcs : cs ≤ mc) (hsl : sl ≤ ms) (dg : decode cc pc = .ok (.invokevirtual idx, 3)) (kk : ∀ h1, Fr (fun a => a ∈ L) h h1 → post h1 → NJ Y b X nL (pc + 3) lv st z r h1 cs sl) : NJ Y b X nL pc lv st0 z r h cs sl := by
  subst hst
  intro hz H locs ls hW hS hl
  obtain ⟨D, T, N, hc, h9, hG, hy, hL⟩ := ml
  have hb := C.2.2.2.2.2.2.2.2.2.1
  have hWd := hW.wd hb g
  have hr := C.2.2.2.2.2.2.2.1
  obtain ⟨q, -, hq⟩ := pl_get (Y := yw Y L) (r := r) (h := h) ho (cE_o (Y := yw Y L) hk h9)
  refine va_callv (va_runV (As := As) (rest := st) ⟨C.1, C.2.1, C.2.2.1, C.2.2.2.1, C.2.2.2.2.1⟩ hM (cwV n C.2.2.2.2.1 hG rfl rfl rfl hy (by show d' + 1 ≤ _ ∧ 8 + (nL' + 11) + 80 * d' ≤ _; omega)) ⟨blind _, va_recv C.2.2.2.2.2.1 hWd.1 hc hq, fun U hU hWm => ⟨rfl, ⟨by rw [hU]; exact hWd, g.2.2, va_K.moved hWm.alike C.2.2.2.2.2.1⟩, by rw [hU]; exact (Zy.warm hWm hS C.2.2.2.2.2.2.2.2.1).zx (fun a ha => (g.2.1 a ha).1)⟩⟩ rfl hn hl.1 rfl (lv_room hcat) dg ⟨by omega, by omega⟩) hS (fun a _ ha => (g.2.1 a ha).1) (fun a ha => (g.2.1 a ha).1) (fun u t H1 locs1 ht hvm hw hB hz' hk' hS1 => ?_)
  have e := hW.2.1
  exact W_sz (fun hsz => kk u hw.1 hw.2 hz H1 locs1 ls (hW.back hb g (by rw [← ht]; exact hB.1) hk' (by omega) hw.1) hS1 hl)
theorem n_callSl {y : MethodName} {cc' : ByteArray} {nL' d' idx n : Nat} {As st0 : List Value} {post : Int64 → TH → Prop} (L : List Nat) (C : NGd Y b X cc nL own d mc ms) (ml : MS own idx y cc' nL' (some .long) n) (g : Whl Y b z L r) (hM : Ml (yw Y L) r X.2.1 y cc' nL' d' As h (fun v h1 => Fr (fun a => a ∈ L) h h1 ∧ post v h1)) (hd : d' < d) (hn : As.length = n) (hst : st0 = As.reverse ++ st) (hcat : (st.map fun v => v.category).sum ≤ 8) (hcs : cs ≤ mc) (hsl : sl ≤ ms) (dg : decode cc pc = .ok (.invokestatic idx, 3)) (kk : ∀ v h1, Fr (fun a => a ∈ L) h h1 → post v h1 → NJ Y b X nL (pc + 3) lv (.long v :: st) z r h1 cs sl) : NJ Y b X nL pc lv st0 z r h cs sl := by
  subst hst
  intro hz H locs ls hW hS hl
  obtain ⟨hG, hy, hL⟩ := ml
  have hb := C.2.2.2.2.2.2.2.2.2.1
  have hWd := hW.wd hb g
  have hr := C.2.2.2.2.2.2.2.1
  refine va_calll (va_runS (As := As) (rest := st) ⟨C.1, C.2.1, C.2.2.1, C.2.2.2.1, C.2.2.2.2.1⟩ hM (va_cwS n C.2.2.2.2.1 hG rfl rfl rfl hy (by show d' + 1 ≤ _ ∧ 8 + (nL' + 11) + 80 * d' ≤ _; omega)) ⟨blind _, fun U hU hWm => ⟨rfl, ⟨by rw [hU]; exact hWd, g.2.2, va_K.moved hWm.alike C.2.2.2.2.2.1⟩, by rw [hU]; exact (Zy.warm hWm hS C.2.2.2.2.2.2.2.2.1).zx (fun a ha => (g.2.1 a ha).1)⟩⟩ rfl hn hl.1 rfl (lv_room hcat) dg ⟨by omega, by omega⟩) hS (fun a _ ha => (g.2.1 a ha).1) (fun a ha => (g.2.1 a ha).1) (fun v u t H1 locs1 ht hvm hw hB hz' hk' hS1 => ?_)
  have e := hW.2.1
  exact W_sz (fun hsz => kk v u hw.1 hw.2 hz H1 locs1 ls (hW.back hb g (by rw [← ht]; exact hB.1) hk' (by omega) hw.1) hS1 hl)
end NCALL
/-! segments of cells: kind, length, references (as offsets from the segment's first cell; 0: none) -/
abbrev SgT : Type := List (Nat × Nat × List Nat)
def skK (T : SgT) (i : Nat) : Nat := (T.getD i (0, 0, [])).1
def skN (T : SgT) (i : Nat) : Nat := (T.getD i (0, 0, [])).2.1
def skR (T : SgT) (i j : Nat) : Nat := (T.getD i (0, 0, [])).2.2.getD j 0
def Sgm (Y : CG) (ρ : TR) (o : Nat) (T : SgT) : Prop := ∀ i, i < T.length → yK Y (o + i) = skK T i ∧ yN Y (o + i) = skN T i ∧ ∀ j, ρ (o + i) j = (if skR T i j = 0 then 0 else o + skR T i j)
def shT (i0 : Nat) (T : SgT) : SgT := T.map (fun q => (q.1, q.2.1, q.2.2.map (fun x => if x = 0 then 0 else i0 + x)))
theorem Sgm.sub {Y : CG} {ρ : TR} {o : Nat} {T T' : SgT} (g : Sgm Y ρ o T) (i0 : Nat) (e : (T.drop i0).take T'.length = shT i0 T') : Sgm Y ρ (o + i0) T' := by
  intro i hi
  have h1 : T[i0 + i]? = (shT i0 T')[i]? := by
    rw [← e, List.getElem?_take_of_lt hi, List.getElem?_drop]
  have h2 : T'[i]? = some T'[i] := List.getElem?_eq_getElem hi
  have h3 : (shT i0 T')[i]? = some (T'[i].1, T'[i].2.1, T'[i].2.2.map (fun x => if x = 0 then 0 else i0 + x)) := by
    unfold shT
    rw [List.getElem?_map, h2]
    rfl
  rw [h3] at h1
  have hl : i0 + i < T.length := (List.getElem?_eq_some_iff.mp h1).1
  obtain ⟨g1, g2, g3⟩ := g (i0 + i) hl
  have q1 : T.getD (i0 + i) (0, 0, []) = (T'[i].1, T'[i].2.1, T'[i].2.2.map (fun x => if x = 0 then 0 else i0 + x)) := by rw [List.getD_eq_getElem?_getD, h1]; rfl
  have q2 : T'.getD i (0, 0, []) = T'[i] := by rw [List.getD_eq_getElem?_getD, h2]; rfl
  rw [Nat.add_assoc]
  refine ⟨?_, ?_, fun j => ?_⟩
  · rw [g1]; unfold skK; rw [q1, q2]
  · rw [g2]; unfold skN; rw [q1, q2]
  · rw [g3 j]
    have q3 : skR T (i0 + i) j = if skR T' i j = 0 then 0 else i0 + skR T' i j := by
      unfold skR
      rw [q1, q2]
      show (T'[i].2.2.map _).getD j 0 = _
      rw [List.getD_eq_getElem?_getD, List.getElem?_map, List.getD_eq_getElem?_getD]
      cases hq : T'[i].2.2[j]? with
      | none => rfl
      | some x => rfl
    rw [q3]
    by_cases z : skR T' i j = 0
    · rw [if_pos z, if_pos rfl, if_pos z]
    · rw [if_neg z, if_neg (by omega), if_neg z]
      omega
/-- how the references of an object under way stand: its own up to slot J; of a row p up to place I; of the cells made behind it all -/
def mdR (ρ r : TR) (o J p I c : Nat) : TR := fun a j => if a = o then (if j < J then ρ o j else 0) else if a = p then (if j < I then ρ p j else 0) else if o < a ∧ a < o + c then ρ a j else r a j
def fnR (ρ r : TR) (o c : Nat) : TR := fun a j => if o ≤ a ∧ a < o + c then ρ a j else r a j
theorem md_0 {ρ r : TR} {o : Nat} (hr : ∀ j, r o j = 0) : r = mdR ρ r o 0 o 0 1 := by
  funext a j
  unfold mdR
  by_cases e : a = o
  · rw [if_pos e, if_neg (by omega), e, hr]
  · rw [if_neg e, if_neg e, if_neg (by omega)]
theorem md_arr {ρ r : TR} {o J p I c : Nat} (hr : ∀ j, r (o + c) j = 0) (hρ : ∀ j, ρ (o + c) j = 0) : mdR ρ r o J p I c = mdR ρ r o J p I (c + 1) := by
  funext a j
  unfold mdR
  by_cases e : a = o
  · rw [if_pos e, if_pos e]
  · rw [if_neg e, if_neg e]
    by_cases e2 : a = p
    · rw [if_pos e2, if_pos e2]
    · rw [if_neg e2, if_neg e2]
      by_cases e3 : a = o + c
      · rw [if_neg (by omega), if_pos (by omega), e3, hr, hρ]
      · by_cases e4 : o < a ∧ a < o + c
        · rw [if_pos e4, if_pos (by omega)]
        · rw [if_neg e4, if_neg (by omega)]
theorem md_put {ρ r : TR} {o J p I c j v : Nat} (hJ : J ≤ j) (h0 : ∀ i, J ≤ i → i < j → ρ o i = 0) (hv : ρ o j = v) : pR (mdR ρ r o J p I c) o j v = mdR ρ r o (j + 1) p I c := by
  funext a i
  unfold pR mdR
  by_cases e : a = o
  · by_cases e2 : i = j
    · rw [if_pos ⟨e, e2⟩, if_pos e, if_pos (by omega), e2, hv]
    · rw [if_neg (fun q => e2 q.2), if_pos e, if_pos e]
      by_cases e3 : i < J
      · rw [if_pos e3, if_pos (by omega)]
      · rw [if_neg e3]
        by_cases e4 : i < j + 1
        · rw [if_pos e4, h0 i (by omega) (by omega)]
        · rw [if_neg e4]
  · rw [if_neg (fun q => e q.1), if_neg e, if_neg e]
theorem md_call {ρ r : TR} {o J p I c n : Nat} (hc : 1 ≤ c) (hp : p < o + c) : fnR ρ (mdR ρ r o J p I c) (o + c) n = mdR ρ r o J p I (c + n) := by
  funext a j
  unfold fnR mdR
  by_cases e : o + c ≤ a ∧ a < o + c + n
  · rw [if_pos e, if_neg (by omega), if_neg (by omega), if_pos (by omega)]
  · rw [if_neg e]
    by_cases e1 : a = o
    · rw [if_pos e1, if_pos e1]
    · rw [if_neg e1, if_neg e1]
      by_cases e2 : a = p
      · rw [if_pos e2, if_pos e2]
      · rw [if_neg e2, if_neg e2]
        by_cases e3 : o < a ∧ a < o + c
        · rw [if_pos e3, if_pos (by omega)]
        · rw [if_neg e3, if_neg (by omega)]
theorem md_anew {ρ r : TR} {o J c : Nat} (hc : 1 ≤ c) (hr : ∀ j, r (o + c) j = 0) : mdR ρ r o J o 0 c = mdR ρ r o J (o + c) 0 (c + 1) := by
  funext a j
  unfold mdR
  by_cases e : a = o
  · rw [if_pos e, if_pos e]
  · rw [if_neg e, if_neg e, if_neg e]
    by_cases e3 : a = o + c
    · rw [if_neg (by omega), if_pos e3, if_neg (by omega), e3, hr]
    · rw [if_neg e3]
      by_cases e4 : o < a ∧ a < o + c
      · rw [if_pos e4, if_pos (by omega)]
      · rw [if_neg e4, if_neg (by omega)]
theorem md_ast {ρ r : TR} {o J p I c v : Nat} (hp : ¬ p = o) (hv : ρ p I = v) : pR (mdR ρ r o J p I c) p I v = mdR ρ r o J p (I + 1) c := by
  funext a i
  unfold pR mdR
  by_cases e : a = p
  · have e0 : ¬ a = o := fun q => hp (e.symm.trans q)
    by_cases e2 : i = I
    · rw [if_pos ⟨e, e2⟩, if_neg e0, if_pos e, if_pos (by omega), e2, hv]
    · rw [if_neg (fun q => e2 q.2), if_neg e0, if_pos e, if_neg e0, if_pos e]
      by_cases e3 : i < I
      · rw [if_pos e3, if_pos (by omega)]
      · rw [if_neg e3, if_neg (by omega)]
  · rw [if_neg (fun q => e q.1)]
    by_cases e1 : a = o
    · rw [if_pos e1, if_pos e1]
    · rw [if_neg e1, if_neg e1, if_neg e, if_neg e]
theorem md_row {ρ r : TR} {o J p I c : Nat} (hp : o < p) (hc : p < o + c) (h0 : ∀ j, I ≤ j → ρ p j = 0) : mdR ρ r o J p I c = mdR ρ r o J o 0 c := by
  funext a j
  unfold mdR
  by_cases e : a = o
  · rw [if_pos e, if_pos e]
  · rw [if_neg e, if_neg e, if_neg e]
    by_cases e2 : a = p
    · by_cases e3 : j < I
      · rw [if_pos e2, if_pos e3, if_pos (by omega), e2]
      · rw [if_pos e2, if_neg e3, if_pos (by omega), e2, h0 j (by omega)]
    · rw [if_neg e2]
theorem md_end {ρ r : TR} {o J c : Nat} (hc : 1 ≤ c) (h0 : ∀ j, J ≤ j → ρ o j = 0) : mdR ρ r o J o 0 c = fnR ρ r o c := by
  funext a j
  unfold mdR fnR
  by_cases e : a = o
  · by_cases e3 : j < J
    · rw [if_pos e, if_pos e3, if_pos (by omega), e]
    · rw [if_pos e, if_neg e3, if_pos (by omega), e, h0 j (by omega)]
  · rw [if_neg e, if_neg e]
    by_cases e4 : o < a ∧ a < o + c
    · rw [if_pos e4, if_pos (by omega)]
    · rw [if_neg e4, if_neg (by omega)]
section NSEG
variable {Y : CG} {b : Nat} {X : CX} {cc : ByteArray} {nL d mc ms : Nat} {own : String} {pc : Nat} {lv : List (Nat × Value)} {st : List Value} {r ρ : TR} {h : TH} {cs sl : Nat} {o J p I c : Nat} {T : SgT}
theorem Sgm.no {o c k N : Nat} (g : Sgm Y ρ o T) (e : T[c]? = some (k, N, [])) : yK Y (o + c) = k ∧ yN Y (o + c) = N ∧ ∀ j, ρ (o + c) j = 0 := by
  obtain ⟨g1, g2, g3⟩ := g c (List.getElem?_eq_some_iff.mp e).1
  have q : T.getD c (0, 0, []) = (k, N, []) := by rw [List.getD_eq_getElem?_getD, e]; rfl
  refine ⟨by rw [g1]; unfold skK; rw [q], by rw [g2]; unfold skN; rw [q], fun j => ?_⟩
  rw [g3 j, if_pos (by unfold skR; rw [q]; rfl)]
theorem Sgm.rf {o j v : Nat} (g : Sgm Y ρ o T) (hl : 0 < T.length) (e : skR T 0 j = v) : ρ o j = if v = 0 then 0 else o + v := by
  have := (g 0 hl).2.2 j
  rw [Nat.add_zero] at this
  rw [this, e]
/-- a row made and put into the object's field -/
theorem n_arrB {idx k j N : Nat} {n : Int32} {tj : FieldType} {fin : Bool} (C : NGd Y b X cc nL own d mc ms) (harr : Cond.arrayClass .byte ∈ lg_tbl) (g : Sgm Y ρ o T) (hbo : b ≤ o) (hr : ∀ a, o ≤ a → ∀ j, r a j = 0) (hc : 1 ≤ c) (hT : T[c]? = some (9, N, [])) (hj : skR T 0 j = c) (hJ : J ≤ j) (h0 : ∀ i, i < j → J ≤ i → skR T 0 i = 0) (hk : yK Y o = k) (f : FL own idx k j tj fin) (hin2 : X.2.2.2.2.2.2.2.2.1.name = "<init>") (hdec : ∀ q, vwCl[k]? = some q → (q.2.1 j).1 = own) (hf : (fT k j).isSome = true) (hnr : ∀ v, narrow tj (.ref v) = .ref v) (hfit : ∀ v, fits tj (.ref v) = true) (hn : ¬ n < 0) (hnN : n.toNatClampNeg = N) (hby : N ≤ 20000) (h1 : cs + 1 ≤ mc) (h2 : sl + N ≤ ms) (dg : decode cc pc = .ok (.newarray .byte, 2)) (dg2 : decode cc (pc + 2) = .ok (.putfield idx, 3)) (kk : NJ Y b X nL (pc + 5) lv st (o + (c + 1)) (mdR ρ r o (j + 1) p I (c + 1)) h (cs + 1) (sl + N)) : NJ Y b X nL pc lv (.int n :: .ref o :: st) (o + c) (mdR ρ r o J p I c) h cs sl := by
  obtain ⟨g1, g2, g3⟩ := g.no hT
  have hl : 0 < T.length := by have := (List.getElem?_eq_some_iff.mp hT).1; omega
  refine n_newB C harr g1 g2 hn hnN hby h1 h2 dg ?_
  refine n_putR C f hin2 hdec hbo (by omega) hk hf (by omega) (hnr _) (hfit _) dg2 ?_
  rw [md_put hJ (fun i a e => by rw [g.rf hl (h0 i e a)]; rfl) (by rw [g.rf hl hj, if_neg (by omega)]), md_arr (hr _ (by omega)) g3]
  exact kk
/-- a row made and put into the object's field -/
theorem n_arrI {idx k j N : Nat} {n : Int32} {tj : FieldType} {fin : Bool} (C : NGd Y b X cc nL own d mc ms) (harr : Cond.arrayClass .int ∈ lg_tbl) (g : Sgm Y ρ o T) (hbo : b ≤ o) (hr : ∀ a, o ≤ a → ∀ j, r a j = 0) (hc : 1 ≤ c) (hT : T[c]? = some (10, N, [])) (hj : skR T 0 j = c) (hJ : J ≤ j) (h0 : ∀ i, i < j → J ≤ i → skR T 0 i = 0) (hk : yK Y o = k) (f : FL own idx k j tj fin) (hin2 : X.2.2.2.2.2.2.2.2.1.name = "<init>") (hdec : ∀ q, vwCl[k]? = some q → (q.2.1 j).1 = own) (hf : (fT k j).isSome = true) (hnr : ∀ v, narrow tj (.ref v) = .ref v) (hfit : ∀ v, fits tj (.ref v) = true) (hn : ¬ n < 0) (hnN : n.toNatClampNeg = N) (hby : N ≤ 20000) (h1 : cs + 1 ≤ mc) (h2 : sl + N ≤ ms) (dg : decode cc pc = .ok (.newarray .int, 2)) (dg2 : decode cc (pc + 2) = .ok (.putfield idx, 3)) (kk : NJ Y b X nL (pc + 5) lv st (o + (c + 1)) (mdR ρ r o (j + 1) p I (c + 1)) h (cs + 1) (sl + N)) : NJ Y b X nL pc lv (.int n :: .ref o :: st) (o + c) (mdR ρ r o J p I c) h cs sl := by
  obtain ⟨g1, g2, g3⟩ := g.no hT
  have hl : 0 < T.length := by have := (List.getElem?_eq_some_iff.mp hT).1; omega
  refine n_newI C harr g1 g2 hn hnN hby h1 h2 dg ?_
  refine n_putR C f hin2 hdec hbo (by omega) hk hf (by omega) (hnr _) (hfit _) dg2 ?_
  rw [md_put hJ (fun i a e => by rw [g.rf hl (h0 i e a)]; rfl) (by rw [g.rf hl hj, if_neg (by omega)]), md_arr (hr _ (by omega)) g3]
  exact kk
/-- a row made and put into the object's field -/
theorem n_arrJ {idx k j N : Nat} {n : Int32} {tj : FieldType} {fin : Bool} (C : NGd Y b X cc nL own d mc ms) (harr : Cond.arrayClass .long ∈ lg_tbl) (g : Sgm Y ρ o T) (hbo : b ≤ o) (hr : ∀ a, o ≤ a → ∀ j, r a j = 0) (hc : 1 ≤ c) (hT : T[c]? = some (11, N, [])) (hj : skR T 0 j = c) (hJ : J ≤ j) (h0 : ∀ i, i < j → J ≤ i → skR T 0 i = 0) (hk : yK Y o = k) (f : FL own idx k j tj fin) (hin2 : X.2.2.2.2.2.2.2.2.1.name = "<init>") (hdec : ∀ q, vwCl[k]? = some q → (q.2.1 j).1 = own) (hf : (fT k j).isSome = true) (hnr : ∀ v, narrow tj (.ref v) = .ref v) (hfit : ∀ v, fits tj (.ref v) = true) (hn : ¬ n < 0) (hnN : n.toNatClampNeg = N) (hby : N ≤ 20000) (h1 : cs + 1 ≤ mc) (h2 : sl + N ≤ ms) (dg : decode cc pc = .ok (.newarray .long, 2)) (dg2 : decode cc (pc + 2) = .ok (.putfield idx, 3)) (kk : NJ Y b X nL (pc + 5) lv st (o + (c + 1)) (mdR ρ r o (j + 1) p I (c + 1)) h (cs + 1) (sl + N)) : NJ Y b X nL pc lv (.int n :: .ref o :: st) (o + c) (mdR ρ r o J p I c) h cs sl := by
  obtain ⟨g1, g2, g3⟩ := g.no hT
  have hl : 0 < T.length := by have := (List.getElem?_eq_some_iff.mp hT).1; omega
  refine n_newJ C harr g1 g2 hn hnN hby h1 h2 dg ?_
  refine n_putR C f hin2 hdec hbo (by omega) hk hf (by omega) (hnr _) (hfit _) dg2 ?_
  rw [md_put hJ (fun i a e => by rw [g.rf hl (h0 i e a)]; rfl) (by rw [g.rf hl hj, if_neg (by omega)]), md_arr (hr _ (by omega)) g3]
  exact kk
/-- a row made and put into the object's field -/
theorem n_arrZ {idx k j N : Nat} {n : Int32} {tj : FieldType} {fin : Bool} (C : NGd Y b X cc nL own d mc ms) (harr : Cond.arrayClass .boolean ∈ lg_tbl) (g : Sgm Y ρ o T) (hbo : b ≤ o) (hr : ∀ a, o ≤ a → ∀ j, r a j = 0) (hc : 1 ≤ c) (hT : T[c]? = some (12, N, [])) (hj : skR T 0 j = c) (hJ : J ≤ j) (h0 : ∀ i, i < j → J ≤ i → skR T 0 i = 0) (hk : yK Y o = k) (f : FL own idx k j tj fin) (hin2 : X.2.2.2.2.2.2.2.2.1.name = "<init>") (hdec : ∀ q, vwCl[k]? = some q → (q.2.1 j).1 = own) (hf : (fT k j).isSome = true) (hnr : ∀ v, narrow tj (.ref v) = .ref v) (hfit : ∀ v, fits tj (.ref v) = true) (hn : ¬ n < 0) (hnN : n.toNatClampNeg = N) (hby : N ≤ 20000) (h1 : cs + 1 ≤ mc) (h2 : sl + N ≤ ms) (dg : decode cc pc = .ok (.newarray .boolean, 2)) (dg2 : decode cc (pc + 2) = .ok (.putfield idx, 3)) (kk : NJ Y b X nL (pc + 5) lv st (o + (c + 1)) (mdR ρ r o (j + 1) p I (c + 1)) h (cs + 1) (sl + N)) : NJ Y b X nL pc lv (.int n :: .ref o :: st) (o + c) (mdR ρ r o J p I c) h cs sl := by
  obtain ⟨g1, g2, g3⟩ := g.no hT
  have hl : 0 < T.length := by have := (List.getElem?_eq_some_iff.mp hT).1; omega
  refine n_newZ C harr g1 g2 hn hnN hby h1 h2 dg ?_
  refine n_putR C f hin2 hdec hbo (by omega) hk hf (by omega) (hnr _) (hfit _) dg2 ?_
  rw [md_put hJ (fun i a e => by rw [g.rf hl (h0 i e a)]; rfl) (by rw [g.rf hl hj, if_neg (by omega)]), md_arr (hr _ (by omega)) g3]
  exact kk
end NSEG
