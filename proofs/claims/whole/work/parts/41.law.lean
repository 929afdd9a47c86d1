/-! laws: postfix programs, and how both sides tell them -/
theorem nI_m1n {n : Nat} (h : 0 < n) : nI n + -nI 1 = nI (n - 1) := nI_m1 h
/-- a piece, token by token, over a pile: below 10000 a number, from 10000 on a variable, from 10100 on + - * / ; none: divided by 0 -/
def evT (v : Nat → Int32) : List Nat → List Int32 → Option (List Int32)
  | [], st => some st
  | c :: cs, st =>
    if c < 10000 then evT v cs (nI c :: st)
    else if c < 10100 then evT v cs (v (c - 10000) :: st)
    else match st with
      | y :: x :: rest =>
        if c = 10100 then evT v cs ((x + y) :: rest)
        else if c = 10101 then evT v cs ((x - y) :: rest)
        else if c = 10102 then evT v cs ((x * y) :: rest)
        else if y = 0 then none else evT v cs ((x / y) :: rest)
      | _ => none
theorem evT_lit {v : Nat → Int32} {c : Nat} {cs : List Nat} {st : List Int32} (h : c < 10000) : evT v (c :: cs) st = evT v cs (nI c :: st) := by
  cases st with
  | nil => simp only [evT, if_pos h]
  | cons y t => cases t <;> simp only [evT, if_pos h]
theorem evT_var {v : Nat → Int32} {c : Nat} {cs : List Nat} {st : List Int32} (h : ¬ c < 10000) (h2 : c < 10100) : evT v (c :: cs) st = evT v cs (v (c - 10000) :: st) := by
  cases st with
  | nil => simp only [evT, if_neg h, if_pos h2]
  | cons y t => cases t <;> simp only [evT, if_neg h, if_pos h2]
theorem evT_op {v : Nat → Int32} {c : Nat} {cs : List Nat} {st : List Int32} {x y : Int32} (h : 10100 ≤ c) : evT v (c :: cs) (y :: x :: st) = (if c = 10100 then evT v cs ((x + y) :: st) else if c = 10101 then evT v cs ((x - y) :: st) else if c = 10102 then evT v cs ((x * y) :: st) else if y = 0 then none else evT v cs ((x / y) :: st)) := by rw [evT, if_neg (by omega), if_neg (by omega)]
/-- the pile never lacks, never overflows, and ends with one -/
def wfT : List Nat → Nat → Bool
  | [], d => d == 1
  | c :: cs, d =>
    if c < 10009 then decide (d < 30) && wfT cs (d + 1)
    else decide (10100 ≤ c) && (decide (c ≤ 10103) && (decide (2 ≤ d) && wfT cs (d - 1)))
/-- a piece's value: none where it is divided by 0 -/
def evP (v : Nat → Int32) (cs : List Nat) : Option Int32 := match evT v cs [] with
  | some (x :: _) => some x
  | _ => none
/-- where piece k begins -/
def offs (Ps : List (List Nat)) (k : Nat) : Nat := ((Ps.take k).map List.length).sum
/-- a law object's cells hold the pieces Ps -/
def LawOK (h : TH) (o : Nat) (Ps : List (List Nat)) : Prop :=
  h.1 o 5 = nI Ps.length ∧ Ps.length ≤ 13 ∧ (∀ p, p < Ps.length → h.1 (o + 3) p = nI (offs Ps (p + 1))) ∧ offs Ps Ps.length ≤ 400 ∧
  (∀ p, p < Ps.length → ∀ i, i < (Ps.getD p []).length → h.1 (o + 2) (offs Ps p + i) = nI ((Ps.getD p []).getD i 0)) ∧ (∀ p, p < Ps.length → wfT (Ps.getD p []) 0 = true)
def RLw (r : TR) (o : Nat) : Prop := r o 0 = o + 1 ∧ r o 1 = o + 2 ∧ r o 2 = o + 3 ∧ r o 3 = o + 4
theorem offs_s (Ps : List (List Nat)) {k : Nat} (hk : k < Ps.length) : offs Ps (k + 1) = offs Ps k + (Ps.getD k []).length := by
  unfold offs
  rw [List.take_succ, List.map_append, List.sum_append]
  have e : Ps[k]? = some (Ps.getD k []) := by rw [List.getD_eq_getElem?_getD, List.getElem?_eq_getElem hk]; rfl
  rw [e]; simp
theorem offs_le (Ps : List (List Nat)) {k m : Nat} (hk : k ≤ m) (hm : m ≤ Ps.length) : offs Ps k ≤ offs Ps m := by
  obtain ⟨d, rfl⟩ : ∃ d, m = k + d := ⟨m - k, by omega⟩
  clear hk
  induction d with
  | zero => exact Nat.le_refl _
  | succ d ih =>
    have h1 := ih (by omega)
    have h2 := offs_s Ps (k := k + d) (by omega)
    have e : k + (d + 1) = k + d + 1 := by omega
    rw [e]
    omega
/-- the pile in an array, its top last -/
def pileIs (f : Nat → Int32) (st : List Int32) : Prop := ∀ i, i < st.length → f i = st.getD (st.length - 1 - i) 0
theorem pileIs_push {f : Nat → Int32} {st : List Int32} {x : Int32} (h : pileIs f st) : pileIs (upd f st.length x) (x :: st) := by
  intro i hi
  rw [List.length_cons] at hi ⊢
  by_cases e : i = st.length
  · subst e
    rw [pk_us]
    have e2 : st.length + 1 - 1 - st.length = 0 := by omega
    rw [e2]; rfl
  · rw [pk_un e, h i (by omega)]
    have e2 : st.length + 1 - 1 - i = (st.length - 1 - i) + 1 := by omega
    rw [e2]; rfl
theorem pileIs_op {f : Nat → Int32} {st : List Int32} {x y z : Int32} (h : pileIs f (y :: x :: st)) : pileIs (upd f st.length z) (z :: st) := by
  intro i hi
  rw [List.length_cons] at hi ⊢
  by_cases e : i = st.length
  · subst e
    rw [pk_us]
    have e2 : st.length + 1 - 1 - st.length = 0 := by omega
    rw [e2]; rfl
  · rw [pk_un e, h i (by simp only [List.length_cons]; omega)]
    simp only [List.length_cons]
    have e2 : st.length + 1 + 1 - 1 - i = (st.length - 1 - i) + 1 + 1 := by omega
    have e3 : st.length + 1 - 1 - i = (st.length - 1 - i) + 1 := by omega
    rw [e2, e3]; rfl
theorem pI_row (h : TH) (o j : Nat) (v : Int32) : (pI h o j v).1 o = upd (h.1 o) j v := pI_at h o j v
/-- one piece, from some token on -/
theorem P_value_loop {r : TR} {o : Nat} {Ps : List (List Nat)} {p : Nat} {h0 : TH} {E : TH → Prop} {Q : Int32 → TH → Prop} (hr : RLw r o) (hL : LawOK h0 o Ps) (hp : p < Ps.length)
    (hE : ∀ h x, Fr (fun a => a = o + 4) h0 h → h.1 (o + 4) 0 = x → evP (h0.1 (o + 1)) (Ps.getD p []) = some x → E h)
    (hQ : ∀ h, Fr (fun a => a = o + 4) h0 h → evP (h0.1 (o + 1)) (Ps.getD p []) = none → Q 0 (pI h o 6 1)) :
    ∀ (cs : List Nat) (k : Nat) (st : List Int32) (h : TH), (Ps.getD p []).drop k = cs → k ≤ (Ps.getD p []).length → wfT cs st.length = true → st.length ≤ 30 → pileIs (h.1 (o + 4)) st → Fr (fun a => a = o + 4) h0 h → evT (h0.1 (o + 1)) (Ps.getD p []) [] = evT (h0.1 (o + 1)) cs st →
      ∃ n, lp (fun (K : Int32 × Int32 × TH → Prop) (s : Int32 × Int32 × TH) => DB_Law_value_33 r o (nI p) s.1 s.2.1 s.2.2 (fun y51 y52 h53 => K (y51, y52, h53)) E Q) n (nI st.length, nI (offs Ps p + k), h) := by
  obtain ⟨hr0, hr1, hr2, hr3⟩ := hr
  obtain ⟨hl1, hl2, hl3, hl4, hl5, hl6⟩ := hL
  have hop : offs Ps (p + 1) = offs Ps p + (Ps.getD p []).length := offs_s Ps hp
  have hol : offs Ps (p + 1) ≤ 400 := Nat.le_trans (offs_le Ps (by omega) (Nat.le_refl _)) hl4
  intro cs
  induction cs with
  | nil =>
    intro k st h hcs hk hwf hst hpi hF hev
    have hke : k = (Ps.getD p []).length := by
      have h1 := congrArg List.length hcs
      rw [List.length_drop, List.length_nil] at h1
      omega
    refine ⟨1, lp_s ?_⟩
    unfold DB_Law_value_33
    simp only [hr0, hr1, hr2, hr3]
    rw [nI_clamp (by omega)]
    refine ⟨vp_in_nI (by omega) (by omega), fun _ => ?_, fun c => absurd ?_ c⟩
    · have h1 : st.length = 1 := by simpa [wfT] using hwf
      obtain ⟨x, rfl⟩ : ∃ x, st = [x] := by
        match st, h1 with
        | [x], _ => exact ⟨x, rfl⟩
      refine hE h x hF (hpi 0 (by simp)) ?_
      unfold evP
      rw [hev]; rfl
    · rw [(hF (o + 3) (by omega)).1, hl3 p hp]
      exact (nI_leI (by omega) (by omega)).mpr (by omega)
  | cons c cs ih =>
    intro k st h hcs hk hwf hst hpi hF hev
    have hkl : k < (Ps.getD p []).length := by
      have h1 := congrArg List.length hcs
      rw [List.length_drop, List.length_cons] at h1
      omega
    have hck : (Ps.getD p []).getD k 0 = c := by
      have h1 : (Ps.getD p [])[k]? = some c := by
        have h2 : ((Ps.getD p []).drop k)[0]? = some c := by rw [hcs]; rfl
        rw [List.getElem?_drop] at h2
        simpa using h2
      rw [List.getD_eq_getElem?_getD, h1]; rfl
    have hdr : (Ps.getD p []).drop (k + 1) = cs := by
      rw [← List.drop_drop, hcs]; rfl
    have hco : h.1 (o + 2) (offs Ps p + k) = nI c := by rw [(hF (o + 2) (by omega)).1, hl5 p hp k hkl, hck]
    have hva : h.1 (o + 1) = h0.1 (o + 1) := (hF (o + 1) (by omega)).1
    have go : ∀ (st' : List Int32) (j : Nat) (v : Int32), wfT cs st'.length = true → st'.length ≤ 30 → pileIs (upd (h.1 (o + 4)) j v) st' → evT (h0.1 (o + 1)) (Ps.getD p []) [] = evT (h0.1 (o + 1)) cs st' → ∃ n, lp (fun (K : Int32 × Int32 × TH → Prop) (s : Int32 × Int32 × TH) => DB_Law_value_33 r o (nI p) s.1 s.2.1 s.2.2 (fun y51 y52 h53 => K (y51, y52, h53)) E Q) n (nI st'.length, nI (offs Ps p + k + 1), pI h (o + 4) j v) := by
      intro st' j v h1 h2 h3 h4
      refine ih (k + 1) st' (pI h (o + 4) j v) hdr (by omega) h1 h2 (by rw [pI_row]; exact h3) (hF.tr (Fr.pI rfl)) h4
    have hcb : c < 10104 := by
      unfold wfT at hwf
      split at hwf
      · omega
      · simp only [Bool.and_eq_true, decide_eq_true_eq] at hwf; omega
    have head : ∀ n, (lp (fun (K : Int32 × Int32 × TH → Prop) (s : Int32 × Int32 × TH) => DB_Law_value_33 r o (nI p) s.1 s.2.1 s.2.2 (fun y51 y52 h53 => K (y51, y52, h53)) E Q) (n + 1) (nI st.length, nI (offs Ps p + k), h)) = DB_Law_value_33 r o (nI p) (nI st.length) (nI (offs Ps p + k)) h (fun y51 y52 h53 => lp (fun (K : Int32 × Int32 × TH → Prop) (s : Int32 × Int32 × TH) => DB_Law_value_33 r o (nI p) s.1 s.2.1 s.2.2 (fun y51 y52 h53 => K (y51, y52, h53)) E Q) n (y51, y52, h53)) E Q := fun n => rfl
    have hpre : ∀ (K : Int32 → Int32 → TH → Prop), (c < 10000 → K (nI (st.length + 1)) (nI (offs Ps p + k + 1)) (pI h (o + 4) st.length (nI c))) → (10000 ≤ c → c < 10009 → K (nI (st.length + 1)) (nI (offs Ps p + k + 1)) (pI h (o + 4) st.length (h0.1 (o + 1) (c - 10000)))) → (10100 ≤ c → DJ_Law_value_101 r o (nI p) (nI st.length) (nI (offs Ps p + k)) (nI c) h K E Q) → (c < 10009 → st.length < 30) → (c < 10009 ∨ 10100 ≤ c) → DB_Law_value_33 r o (nI p) (nI st.length) (nI (offs Ps p + k)) h K E Q := by
      intro K k1 k2 k3 k4 k5
      unfold DB_Law_value_33
      simp only [hr0, hr1, hr2, hr3, litI]
      rw [nI_clamp (by omega), nI_clamp (n := offs Ps p + k) (by omega), nI_clamp (n := st.length) (by omega)]
      refine ⟨vp_in_nI (by omega) (by omega), fun q => absurd q ?_, fun _ => ⟨vp_in_nI (by omega) (by omega), ?_⟩⟩
      · rw [(hF (o + 3) (by omega)).1, hl3 p hp, nI_leI (by omega) (by omega)]; omega
      intro x ex
      rw [hco] at ex
      subst ex
      refine ⟨fun q => k3 ((nI_leI (by omega) (by omega)).mp q), fun q => ?_⟩
      have q' : c < 10100 := by
        rcases Nat.lt_or_ge c 10100 with z | z
        · exact z
        · exact absurd ((nI_leI (by omega) (by omega)).mpr z) q
      have hc9 : c < 10009 := by omega
      have h30 := k4 hc9
      refine ⟨fun q => absurd ((nI_leI (by omega) (by omega)).mp q) (by omega), fun _ => ⟨fun q => ?_, fun q => ?_⟩⟩
      · have hc0 := (nI_leI (by omega) (by omega)).mp q
        intro i ei
        rw [pk_sub hc0] at ei
        subst ei
        rw [nI_clamp (by omega)]
        refine ⟨vp_in_nI (by omega) (by omega), vp_in_nI (by omega) (by omega), ?_⟩
        intro h1 e1 x46 e46 x47 e47
        subst e1
        rw [nI_add] at e46 e47
        subst e46; subst e47
        rw [hva]
        exact k2 hc0 hc9
      · refine ⟨vp_in_nI (by omega) (by omega), ?_⟩
        intro h1 e1 x46 e46 x47 e47
        subst e1
        rw [nI_add] at e46 e47
        subst e46; subst e47
        have hc0 : c < 10000 := by
          rcases Nat.lt_or_ge c 10000 with z | z
          · exact z
          · exact absurd ((nI_leI (by omega) (by omega)).mpr z) q
        exact k1 hc0
    by_cases h9 : c < 10009
    · have hw : st.length < 30 ∧ wfT cs (st.length + 1) = true := by
        have := hwf
        unfold wfT at this
        rw [if_pos h9] at this
        simpa using this
      by_cases h4 : c < 10000
      · obtain ⟨n, hn⟩ := go (nI c :: st) st.length (nI c) (by simpa using hw.2) (by simp; omega) (pileIs_push hpi) (by rw [hev, evT_lit h4])
        refine ⟨n + 1, ?_⟩
        rw [head]
        exact hpre _ (fun _ => hn) (fun q => absurd h4 (by omega)) (fun q => absurd q (by omega)) (fun _ => hw.1) (Or.inl h9)
      · obtain ⟨n, hn⟩ := go (h0.1 (o + 1) (c - 10000) :: st) st.length (h0.1 (o + 1) (c - 10000)) (by simpa using hw.2) (by simp; omega) (pileIs_push hpi) (by rw [hev, evT_var h4 (by omega)])
        refine ⟨n + 1, ?_⟩
        rw [head]
        exact hpre _ (fun q => absurd q h4) (fun _ _ => hn) (fun q => absurd q (by omega)) (fun _ => hw.1) (Or.inl h9)
    · have hw : 10100 ≤ c ∧ c ≤ 10103 ∧ 2 ≤ st.length ∧ wfT cs (st.length - 1) = true := by
        have := hwf
        unfold wfT at this
        rw [if_neg h9] at this
        simpa using this
      obtain ⟨y, x, rest, rfl⟩ : ∃ y x rest, st = y :: x :: rest := by
        match st, hw.2.2.1 with
        | y :: x :: rest, _ => exact ⟨y, x, rest, rfl⟩
      have hy : h.1 (o + 4) (rest.length + 1) = y := by
        have := hpi (rest.length + 1) (by simp)
        simpa using this
      have hx : h.1 (o + 4) rest.length = x := by
        have := hpi rest.length (by simp only [List.length_cons]; omega)
        have e : (y :: x :: rest).length - 1 - rest.length = 1 := by simp only [List.length_cons]; omega
        rw [e] at this
        simpa using this
      have hwr : ∀ z : Int32, wfT cs (z :: rest).length = true := fun z => by simpa using hw.2.2.2
      have hev2 : evT (h0.1 (o + 1)) (Ps.getD p []) [] = (if c = 10100 then evT (h0.1 (o + 1)) cs ((x + y) :: rest) else if c = 10101 then evT (h0.1 (o + 1)) cs ((x - y) :: rest) else if c = 10102 then evT (h0.1 (o + 1)) cs ((x * y) :: rest) else if y = 0 then none else evT (h0.1 (o + 1)) cs ((x / y) :: rest)) := by
        rw [hev, evT_op hw.1]
      have hop2 : ∀ (K : Int32 → Int32 → TH → Prop), (c = 10100 → K (nI (rest.length + 1)) (nI (offs Ps p + k + 1)) (pI h (o + 4) rest.length (x + y))) → (c = 10101 → K (nI (rest.length + 1)) (nI (offs Ps p + k + 1)) (pI h (o + 4) rest.length (x - y))) → (c = 10102 → K (nI (rest.length + 1)) (nI (offs Ps p + k + 1)) (pI h (o + 4) rest.length (x * y))) → (c = 10103 → ¬ y = 0 → K (nI (rest.length + 1)) (nI (offs Ps p + k + 1)) (pI h (o + 4) rest.length (x / y))) → (c = 10103 → y = 0 → Q 0 (pI h o 6 1)) → DJ_Law_value_101 r o (nI p) (nI (y :: x :: rest).length) (nI (offs Ps p + k)) (nI c) h K E Q := by
        intro K k0 k1 k2 k3 k4
        have hlen : (y :: x :: rest).length = rest.length + 2 := rfl
        simp only [List.length_cons] at hst
        unfold DJ_Law_value_101
        simp only [hr0, hr1, hr2, hr3, litI, hlen]
        refine ⟨fun q => absurd ((nI_ltI (by omega) (by omega)).mp q) (by omega), fun _ => ⟨fun q => absurd ((nI_ltI (by omega) (by omega)).mp q) (by omega), fun _ => ?_⟩⟩
        intro x17 e17
        rw [nI_m1n (by omega)] at e17
        subst e17
        have e2 : rest.length + 2 - 1 = rest.length + 1 := by omega
        rw [e2]
        intro i19 e19
        rw [pk_sub (by omega)] at e19
        have e3 : rest.length + 1 - 1 = rest.length := by omega
        rw [e3] at e19
        subst e19
        rw [nI_clamp (n := rest.length) (by omega), nI_clamp (n := rest.length + 1) (by omega), hx, hy]
        refine ⟨vp_in_nI (by omega) (by omega), ?_⟩
        intro x20 e20
        subst e20
        refine ⟨vp_in_nI (by omega) (by omega), ?_⟩
        intro x22 e22
        subst e22
        simp only [pk_sub (show 1 ≤ rest.length + 1 by omega), e3]
        rw [nI_clamp (n := rest.length) (by omega)]
        have nx : ∀ z, z = nI (offs Ps p + k) + nI 1 → z = nI (offs Ps p + k + 1) := fun z e => by rw [e, nI_add]
        refine ⟨fun q0 => ⟨fun q1 => ⟨fun q2 => ⟨fun q3 => ?_, fun q3 => ⟨q3, vp_in_nI (by omega) (by omega), ?_⟩⟩, fun q2 => ⟨vp_in_nI (by omega) (by omega), ?_⟩⟩, fun q1 => ⟨vp_in_nI (by omega) (by omega), ?_⟩⟩, fun q0 => ⟨vp_in_nI (by omega) (by omega), ?_⟩⟩
        · intro h27 e27
          subst e27
          have hc : c = 10103 := by
            have a0 : ¬ c = 10100 := fun e => q0 (by rw [e])
            have a1 : ¬ c = 10101 := fun e => q1 (by rw [e])
            have a2 : ¬ c = 10102 := fun e => q2 (by rw [e])
            omega
          exact k4 hc q3
        · intro h1 e1 z ez
          subst e1
          rw [nx z ez]
          have hc : c = 10103 := by
            have a0 : ¬ c = 10100 := fun e => q0 (by rw [e])
            have a1 : ¬ c = 10101 := fun e => q1 (by rw [e])
            have a2 : ¬ c = 10102 := fun e => q2 (by rw [e])
            omega
          exact k3 hc q3
        · intro h1 e1 z ez
          subst e1
          rw [nx z ez]
          exact k2 ((nI_eq (by omega) (by omega)).mp q2)
        · intro h1 e1 z ez
          subst e1
          rw [nx z ez]
          exact k1 ((nI_eq (by omega) (by omega)).mp q1)
        · intro h1 e1 z ez
          subst e1
          rw [nx z ez]
          exact k0 ((nI_eq (by omega) (by omega)).mp q0)
      have fin : ∀ z : Int32, (evT (h0.1 (o + 1)) (Ps.getD p []) [] = evT (h0.1 (o + 1)) cs (z :: rest)) → ((∃ n, lp (fun (K : Int32 × Int32 × TH → Prop) (s : Int32 × Int32 × TH) => DB_Law_value_33 r o (nI p) s.1 s.2.1 s.2.2 (fun y51 y52 h53 => K (y51, y52, h53)) E Q) n (nI (rest.length + 1), nI (offs Ps p + k + 1), pI h (o + 4) rest.length z))) := fun z hz => go (z :: rest) rest.length z (hwr z) (by simp only [List.length_cons] at hst ⊢; omega) (pileIs_op hpi) hz
      by_cases c0 : c = 10100
      · obtain ⟨n, hn⟩ := fin (x + y) (by rw [hev2, if_pos c0])
        refine ⟨n + 1, ?_⟩
        rw [head]
        exact hpre _ (fun q => absurd q (by omega)) (fun _ q => absurd q (by omega)) (fun _ => hop2 _ (fun _ => hn) (fun q => absurd q (by omega)) (fun q => absurd q (by omega)) (fun q => absurd q (by omega)) (fun q => absurd q (by omega))) (fun q => absurd q h9) (Or.inr hw.1)
      by_cases c1 : c = 10101
      · obtain ⟨n, hn⟩ := fin (x - y) (by rw [hev2, if_neg c0, if_pos c1])
        refine ⟨n + 1, ?_⟩
        rw [head]
        exact hpre _ (fun q => absurd q (by omega)) (fun _ q => absurd q (by omega)) (fun _ => hop2 _ (fun q => absurd q (by omega)) (fun _ => hn) (fun q => absurd q (by omega)) (fun q => absurd q (by omega)) (fun q => absurd q (by omega))) (fun q => absurd q h9) (Or.inr hw.1)
      by_cases c2 : c = 10102
      · obtain ⟨n, hn⟩ := fin (x * y) (by rw [hev2, if_neg c0, if_neg c1, if_pos c2])
        refine ⟨n + 1, ?_⟩
        rw [head]
        exact hpre _ (fun q => absurd q (by omega)) (fun _ q => absurd q (by omega)) (fun _ => hop2 _ (fun q => absurd q (by omega)) (fun q => absurd q (by omega)) (fun _ => hn) (fun q => absurd q (by omega)) (fun q => absurd q (by omega))) (fun q => absurd q h9) (Or.inr hw.1)
      have c3 : c = 10103 := by omega
      by_cases hy0 : y = 0
      · refine ⟨1, ?_⟩
        rw [head 0]
        refine hpre _ (fun q => absurd q (by omega)) (fun _ q => absurd q (by omega)) (fun _ => hop2 _ (fun q => absurd q (by omega)) (fun q => absurd q (by omega)) (fun q => absurd q (by omega)) (fun _ q => absurd hy0 q) (fun _ _ => ?_)) (fun q => absurd q h9) (Or.inr hw.1)
        refine hQ h hF ?_
        unfold evP
        rw [hev2, if_neg c0, if_neg c1, if_neg c2, if_pos hy0]
      · obtain ⟨n, hn⟩ := fin (x / y) (by rw [hev2, if_neg c0, if_neg c1, if_neg c2, if_neg hy0])
        refine ⟨n + 1, ?_⟩
        rw [head]
        exact hpre _ (fun q => absurd q (by omega)) (fun _ q => absurd q (by omega)) (fun _ => hop2 _ (fun q => absurd q (by omega)) (fun q => absurd q (by omega)) (fun q => absurd q (by omega)) (fun _ _ => hn) (fun _ q => absurd q hy0)) (fun q => absurd q h9) (Or.inr hw.1)
/-- value(p): the piece's value, or 0 with the mark 'broken' -/
theorem P_Law_value {r : TR} {o : Nat} {Ps : List (List Nat)} {p : Nat} {h : TH} {Q : Int32 → TH → Prop} (hr : RLw r o) (hL : LawOK h o Ps) (hp : p < Ps.length)
    (hE : ∀ h' x, Fr (fun a => a = o + 4) h h' → evP (h.1 (o + 1)) (Ps.getD p []) = some x → Q x h')
    (hQ : ∀ h', Fr (fun a => a = o + 4) h h' → evP (h.1 (o + 1)) (Ps.getD p []) = none → Q 0 (pI h' o 6 1)) : D_Law_value r o (nI p) h Q := by
  have h13 := hL.2.1
  have key : ∃ n, lp (fun (K : Int32 × Int32 × TH → Prop) (s : Int32 × Int32 × TH) => DB_Law_value_33 r o (nI p) s.1 s.2.1 s.2.2 (fun y51 y52 h53 => K (y51, y52, h53)) (fun h54 => Q (h54.1 (r o 3) ((0 : Int32).toNatClampNeg)) h54) Q) n (0, nI (offs Ps p), h) := by
    refine P_value_loop (h0 := h) hr hL hp (fun h' x hF hx he => ?_) hQ (Ps.getD p []) 0 [] h rfl (Nat.zero_le _) (hL.2.2.2.2.2 p hp) (Nat.zero_le _) (fun i hi => absurd hi (Nat.not_lt_zero _)) Fr.rf rfl
    have e : h'.1 (r o 3) ((0 : Int32).toNatClampNeg) = x := by rw [hr.2.2.2]; exact hx
    rw [e]
    exact hE h' x hF he
  unfold D_Law_value
  refine ⟨fun q => absurd q (nI_pos (by omega)), fun _ => ⟨fun _ => ⟨fun q => ?_, fun q => ?_⟩, fun q => absurd ?_ q⟩⟩
  · have hp0 : 0 < p := by
      rcases Nat.eq_zero_or_pos p with z | z
      · subst z; exact absurd rfl q
      · exact z
    intro i6 e6
    rw [nI_s1 hp0] at e6
    subst e6
    refine ⟨vp_in_nI (by omega) (by omega), ?_⟩
    intro x7 e7
    have e8 : x7 = nI (offs Ps p) := by
      rw [e7, hr.2.2.1, nI_clamp (by omega), hL.2.2.1 (p - 1) (by omega)]
      have e9 : p - 1 + 1 = p := by omega
      rw [e9]
    rw [e8]
    exact key
  · have hp0 : p = 0 := (nI_eq (by omega) (by omega)).mp q
    have e8 : nI (offs Ps p) = 0 := by rw [hp0]; rfl
    rw [e8] at key
    exact key
  · rw [hL.1]
    exact (nI_ltI (by omega) (by omega)).mpr hp
/-- what a law tells: the pieces by threes (a, b, c: if a < b then c), the last one else; 0 where something that is looked at is divided by 0 -/
def tellsF (v : Nat → Int32) : List (List Nat) → Int32
  | a :: b :: c :: d :: rest => match evP v a, evP v b with
    | some x, some y => if x < y then (evP v c).getD 0 else tellsF v (d :: rest)
    | _, _ => 0
  | [a] => (evP v a).getD 0
  | _ => 0
