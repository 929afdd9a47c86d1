/-! the reference: where its arrays lie; its laws -/
def aOff : List Nat := [0, 1, 0, 2, 0, 3, 4, 5, 6, 7, 0, 0, 0, 0, 0, 0, 0, 0, 0, 0, 0, 8, 9, 10, 11, 12, 13, 14, 15, 16, 17, 18, 19, 20, 0, 21, 22, 23, 24, 25, 0, 26, 27, 28, 0, 29, 30, 0, 31, 32, 0, 0, 0, 33, 0, 34, 35, 36, 37, 38, 0, 39, 40, 41, 42, 43]
def RMo (r : TR) (m : Nat) : Prop := ∀ j, j < 66 → ¬ aOff.getD j 0 = 0 → r m j = m + aOff.getD j 0

/-- a token of the reference's code: kind and int, as the class's number -/
def tokM (k v : Int32) (c : Nat) : Prop := (c < 10000 ∧ k = 0 ∧ v = nI c) ∨ (10000 ≤ c ∧ c < 10009 ∧ k = 1 ∧ v = nI (c - 10000)) ∨ (10100 ≤ c ∧ c ≤ 10103 ∧ k = nI (c - 10098))
/-- the code from a to b is the piece cs -/
def Seg (h : TH) (m : Nat) (a b : Int32) (cs : List Nat) : Prop := ∃ s, a = nI s ∧ b = nI (s + cs.length) ∧ s + cs.length ≤ 840 ∧ (∀ i, i < cs.length → tokM (h.1 (m + 26) (s + i)) (h.1 (m + 27) (s + i)) (cs.getD i 0)) ∧ wfT cs 0 = true
/-- the model's pile and mark may differ, nothing else -/
def SM (m : Nat) (h h' : TH) : Prop := Fr (fun a => a = m ∨ a = m + 30) h h' ∧ ∀ j, ¬ j = 47 → h'.1 m j = h.1 m j
theorem SM.rf {m : Nat} {h : TH} : SM m h h := ⟨Fr.rf, fun _ _ => rfl⟩
theorem SM.tr {m : Nat} {h h1 h2 : TH} (a : SM m h h1) (b : SM m h1 h2) : SM m h h2 := ⟨a.1.tr b.1, fun j hj => (b.2 j hj).trans (a.2 j hj)⟩
theorem SM.fr {m : Nat} {h h' : TH} (a : Fr (fun a => a = m + 30) h h') : SM m h h' := ⟨a.mono (fun _ q => Or.inr q), fun j _ => congrFun (a m (by omega)).1 j⟩
theorem SM.mark {m : Nat} {h : TH} {v : Int32} : SM m h (pI h m 47 v) := ⟨Fr.pI (Or.inl rfl), fun j hj => pI_n h m 47 v (fun q => hj q.2)⟩
theorem SM.at {m : Nat} {h h' : TH} (a : SM m h h') {x : Nat} (hx : ¬ x = m) (hx2 : ¬ x = m + 30) : h'.1 x = h.1 x := (a.1 x (by omega)).1
theorem Seg.sm {m : Nat} {h h' : TH} {a b : Int32} {cs : List Nat} (s : SM m h h') (g : Seg h m a b cs) : Seg h' m a b cs := by
  obtain ⟨x, h1, h2, h3, h4, h5⟩ := g
  exact ⟨x, h1, h2, h3, fun i hi => by rw [s.at (by omega) (by omega), s.at (by omega) (by omega)]; exact h4 i hi, h5⟩
theorem P_termOf {r : TR} {m : Nat} {h0 : TH} {a b : Int32} {cs0 : List Nat} {Q : Int32 → TH → Prop} (hr : RMo r m) (hg : Seg h0 m a b cs0)
    (hE : ∀ h x, Fr (fun a => a = m + 30) h0 h → evP (h0.1 (m + 29)) cs0 = some x → Q x h)
    (hN : ∀ h, Fr (fun a => a = m + 30) h0 h → evP (h0.1 (m + 29)) cs0 = none → Q 0 (pI h m 47 1)) : D_Mo_termOf r m a b h0 Q := by
  have r41 : r m 41 = m + 26 := hr 41 (by decide) (by decide)
  have r42 : r m 42 = m + 27 := hr 42 (by decide) (by decide)
  have r45 : r m 45 = m + 29 := hr 45 (by decide) (by decide)
  have r46 : r m 46 = m + 30 := hr 46 (by decide) (by decide)
  obtain ⟨s, rfl, rfl, hs, htok, hwf0⟩ := hg
  unfold D_Mo_termOf
  have key : ∀ (cs : List Nat) (k : Nat) (st : List Int32) (h : TH), cs0.drop k = cs → k ≤ cs0.length → wfT cs st.length = true → st.length ≤ 30 → pileIs (h.1 (m + 30)) st → Fr (fun a => a = m + 30) h0 h → evT (h0.1 (m + 29)) cs0 [] = evT (h0.1 (m + 29)) cs st →
      ∃ n, lp (fun (K : Int32 × Int32 × TH → Prop) (s2 : Int32 × Int32 × TH) => DB_Mo_termOf_5 r m (nI (s + cs0.length)) s2.1 s2.2.1 s2.2.2 (fun y40 y41 h42 => K (y40, y41, h42)) (fun h43 => Q (h43.1 (r m 46) ((0 : Int32).toNatClampNeg)) h43) Q) n (nI st.length, nI (s + k), h) := by
    intro cs
    induction cs with
    | nil =>
      intro k st h hcs hk hwf hst hpi hF hev
      have hke : k = cs0.length := by
        have h1 := congrArg List.length hcs
        rw [List.length_drop, List.length_nil] at h1
        omega
      refine ⟨1, lp_s ?_⟩
      unfold DB_Mo_termOf_5
      refine ⟨fun _ => ?_, fun q => absurd ((nI_leI (by omega) (by omega)).mpr (by omega)) q⟩
      have h1 : st.length = 1 := by simpa [wfT] using hwf
      obtain ⟨x, rfl⟩ : ∃ x, st = [x] := by
        match st, h1 with
        | [x], _ => exact ⟨x, rfl⟩
      have e0 : h.1 (r m 46) ((0 : Int32).toNatClampNeg) = x := by
        rw [r46]
        exact hpi 0 (by simp)
      show Q (h.1 (r m 46) ((0 : Int32).toNatClampNeg)) h
      rw [e0]
      refine hE h x hF ?_
      unfold evP
      rw [hev]; rfl
    | cons c cs ih =>
      intro k st h hcs hk hwf hst hpi hF hev
      have hkl : k < cs0.length := by
        have h1 := congrArg List.length hcs
        rw [List.length_drop, List.length_cons] at h1
        omega
      have hck : cs0.getD k 0 = c := by
        have h1 : cs0[k]? = some c := by
          have h2 : (cs0.drop k)[0]? = some c := by rw [hcs]; rfl
          rw [List.getElem?_drop] at h2
          simpa using h2
        rw [List.getD_eq_getElem?_getD, h1]; rfl
      have hdr : cs0.drop (k + 1) = cs := by rw [← List.drop_drop, hcs]; rfl
      have ht := htok k hkl
      rw [hck] at ht
      have hc1 : h.1 (m + 26) (s + k) = h0.1 (m + 26) (s + k) := by rw [(hF (m + 26) (by omega)).1]
      have hc2 : h.1 (m + 27) (s + k) = h0.1 (m + 27) (s + k) := by rw [(hF (m + 27) (by omega)).1]
      have hva : h.1 (m + 29) = h0.1 (m + 29) := (hF (m + 29) (by omega)).1
      have go : ∀ (st' : List Int32) (j : Nat) (v : Int32), wfT cs st'.length = true → st'.length ≤ 30 → pileIs (upd (h.1 (m + 30)) j v) st' → evT (h0.1 (m + 29)) cs0 [] = evT (h0.1 (m + 29)) cs st' → ∃ n, lp (fun (K : Int32 × Int32 × TH → Prop) (s2 : Int32 × Int32 × TH) => DB_Mo_termOf_5 r m (nI (s + cs0.length)) s2.1 s2.2.1 s2.2.2 (fun y40 y41 h42 => K (y40, y41, h42)) (fun h43 => Q (h43.1 (r m 46) ((0 : Int32).toNatClampNeg)) h43) Q) n (nI st'.length, nI (s + k + 1), pI h (m + 30) j v) :=
        fun st' j v h1 h2 h3 h4 => ih (k + 1) st' (pI h (m + 30) j v) hdr (by omega) h1 h2 (by rw [pI_row]; exact h3) (hF.tr (Fr.pI rfl)) h4
      unfold wfT at hwf
      by_cases h9 : c < 10009
      · rw [if_pos h9] at hwf
        simp only [Bool.and_eq_true, decide_eq_true_eq] at hwf
        have push : ∀ v : Int32, evT (h0.1 (m + 29)) cs0 [] = evT (h0.1 (m + 29)) cs (v :: st) → ∃ n, lp (fun (K : Int32 × Int32 × TH → Prop) (s2 : Int32 × Int32 × TH) => DB_Mo_termOf_5 r m (nI (s + cs0.length)) s2.1 s2.2.1 s2.2.2 (fun y40 y41 h42 => K (y40, y41, h42)) (fun h43 => Q (h43.1 (r m 46) ((0 : Int32).toNatClampNeg)) h43) Q) n (nI (st.length + 1), nI (s + k + 1), pI h (m + 30) st.length v) :=
          fun v hv => go (v :: st) st.length v (by simpa using hwf.2) (by simp only [List.length_cons]; omega) (pileIs_push hpi) hv
        rcases ht with ⟨t1, t2, t3⟩ | ⟨t1, t1', t2, t3⟩ | ⟨t1, t1', t2⟩
        · obtain ⟨n, hn⟩ := push (nI c) (by rw [hev, evT_lit t1])
          refine ⟨n + 1, lp_s ?_⟩
          show DB_Mo_termOf_5 r m (nI (s + cs0.length)) (nI st.length) (nI (s + k)) h _ _ Q
          unfold DB_Mo_termOf_5
          refine ⟨fun q => absurd ((nI_leI (by omega) (by omega)).mp q) (by omega), fun _ => ⟨vp_in_nI (by omega) (by omega), ?_⟩⟩
          intro x5 e5
          rw [r41, nI_clamp (by omega), hc1, t2] at e5
          subst e5
          refine ⟨fun q => absurd q (by decide), fun _ => ⟨fun q => absurd rfl q, fun _ => ⟨vp_in_nI (by omega) (by omega), vp_in_nI (by omega) (by omega), ?_⟩⟩⟩
          intro h37 e37 x38 e38 x39 e39
          rw [r46, r42, nI_clamp (by omega), nI_clamp (by omega), hc2, t3] at e37
          rw [nI_1] at e38 e39
          subst e37; subst e38; subst e39
          exact hn
        · obtain ⟨n, hn⟩ := push (h0.1 (m + 29) (c - 10000)) (by rw [hev, evT_var (by omega) (by omega)])
          refine ⟨n + 1, lp_s ?_⟩
          show DB_Mo_termOf_5 r m (nI (s + cs0.length)) (nI st.length) (nI (s + k)) h _ _ Q
          unfold DB_Mo_termOf_5
          refine ⟨fun q => absurd ((nI_leI (by omega) (by omega)).mp q) (by omega), fun _ => ⟨vp_in_nI (by omega) (by omega), ?_⟩⟩
          intro x5 e5
          rw [r41, nI_clamp (by omega), hc1, t2] at e5
          subst e5
          refine ⟨fun q => absurd q (by decide), fun _ => ⟨fun _ => ⟨vp_in_nI (by omega) (by omega), ?_⟩, fun q => absurd q (by decide)⟩⟩
          intro i32 e32
          rw [r42, nI_clamp (by omega), hc2, t3] at e32
          subst e32
          refine ⟨vp_in_nI (by omega) (by omega), vp_in_nI (by omega) (by omega), ?_⟩
          intro h33 e33 x34 e34 x35 e35
          rw [r46, r45, nI_clamp (by omega), nI_clamp (by omega), hva] at e33
          rw [nI_1] at e34 e35
          subst e33; subst e34; subst e35
          exact hn
        · omega
      · rw [if_neg h9] at hwf
        simp only [Bool.and_eq_true, decide_eq_true_eq] at hwf
        have tk : h.1 (m + 26) (s + k) = nI (c - 10098) := by
          rw [hc1]
          rcases ht with ⟨t1, _⟩ | ⟨t1, t1', _⟩ | ⟨_, _, t2⟩
          · omega
          · omega
          · exact t2
        obtain ⟨y, x, rest, rfl⟩ : ∃ y x rest, st = y :: x :: rest := by
          match st, hwf.2.2.1 with
          | y :: x :: rest, _ => exact ⟨y, x, rest, rfl⟩
        have hy : h.1 (m + 30) (rest.length + 1) = y := by
          have := hpi (rest.length + 1) (by simp)
          simpa using this
        have hx : h.1 (m + 30) rest.length = x := by
          have := hpi rest.length (by simp only [List.length_cons]; omega)
          have e : (y :: x :: rest).length - 1 - rest.length = 1 := by simp only [List.length_cons]; omega
          rw [e] at this
          simpa using this
        have hev2 : evT (h0.1 (m + 29)) cs0 [] = (if c = 10100 then evT (h0.1 (m + 29)) cs ((x + y) :: rest) else if c = 10101 then evT (h0.1 (m + 29)) cs ((x - y) :: rest) else if c = 10102 then evT (h0.1 (m + 29)) cs ((x * y) :: rest) else if y = 0 then none else evT (h0.1 (m + 29)) cs ((x / y) :: rest)) := by
          rw [hev, evT_op hwf.1]
        have fin : ∀ z : Int32, (evT (h0.1 (m + 29)) cs0 [] = evT (h0.1 (m + 29)) cs (z :: rest)) → ∃ n, lp (fun (K : Int32 × Int32 × TH → Prop) (s2 : Int32 × Int32 × TH) => DB_Mo_termOf_5 r m (nI (s + cs0.length)) s2.1 s2.2.1 s2.2.2 (fun y40 y41 h42 => K (y40, y41, h42)) (fun h43 => Q (h43.1 (r m 46) ((0 : Int32).toNatClampNeg)) h43) Q) n (nI (rest.length + 1), nI (s + k + 1), pI h (m + 30) rest.length z) := fun z hz => go (z :: rest) rest.length z (by simpa using hwf.2.2.2) (by simp only [List.length_cons] at hst ⊢; omega) (pileIs_op hpi) hz
        simp only [List.length_cons] at hst
        have pre : ∀ (K : Int32 → Int32 → TH → Prop) (E : TH → Prop), (c = 10100 → K (nI (rest.length + 1)) (nI (s + k + 1)) (pI h (m + 30) rest.length (x + y))) → (c = 10101 → K (nI (rest.length + 1)) (nI (s + k + 1)) (pI h (m + 30) rest.length (x - y))) → (c = 10102 → K (nI (rest.length + 1)) (nI (s + k + 1)) (pI h (m + 30) rest.length (x * y))) → (c = 10103 → ¬ y = 0 → K (nI (rest.length + 1)) (nI (s + k + 1)) (pI h (m + 30) rest.length (x / y))) → (c = 10103 → y = 0 → Q 0 (pI h m 47 1)) → DB_Mo_termOf_5 r m (nI (s + cs0.length)) (nI (y :: x :: rest).length) (nI (s + k)) h K E Q := by
          intro K E k0 k1 k2 k3 k4
          have hlen : (y :: x :: rest).length = rest.length + 2 := rfl
          rw [hlen]
          have j104 : (c = 10103 → ¬ y = 0) → DJ_Mo_termOf_104 r m (nI (s + cs0.length)) (nI (rest.length + 1)) (nI (s + k)) (nI (c - 10098)) x y h K E Q := by
            intro hz
            unfold DJ_Mo_termOf_104
            have e3 : nI (rest.length + 1) - 1 = nI rest.length := nI_pred _
            rw [e3, r46, nI_clamp (n := rest.length) (by omega)]
            have nx : ∀ z, z = nI (s + k) + 1 → z = nI (s + k + 1) := fun z e => by rw [e, nI_1]
            have ce : ∀ v : Nat, v < 100 → (nI (c - 10098) = nI v ↔ c - 10098 = v) := fun v hv => nI_eq (by omega) (by omega)
            refine ⟨fun q0 => ⟨fun q1 => ⟨fun q2 => ?_, fun q2 => ⟨vp_in_nI (by omega) (by omega), ?_⟩⟩, fun q1 => ⟨vp_in_nI (by omega) (by omega), ?_⟩⟩, fun q0 => ⟨vp_in_nI (by omega) (by omega), ?_⟩⟩
            · have a0 : ¬ c - 10098 = 2 := fun e => q0 ((ce 2 (by omega)).mpr e)
              have a1 : ¬ c - 10098 = 3 := fun e => q1 ((ce 3 (by omega)).mpr e)
              have a2 : ¬ c - 10098 = 4 := fun e => q2 ((ce 4 (by omega)).mpr e)
              have hc : c = 10103 := by omega
              refine ⟨hz hc, vp_in_nI (by omega) (by omega), ?_⟩
              intro h1 e1 z ez
              subst e1
              rw [nx z ez]
              exact k3 hc (hz hc)
            · intro h1 e1 z ez
              subst e1
              rw [nx z ez]
              have := (ce 4 (by omega)).mp q2
              exact k2 (by omega)
            · intro h1 e1 z ez
              subst e1
              rw [nx z ez]
              have := (ce 3 (by omega)).mp q1
              exact k1 (by omega)
            · intro h1 e1 z ez
              subst e1
              rw [nx z ez]
              have := (ce 2 (by omega)).mp q0
              exact k0 (by omega)
          unfold DB_Mo_termOf_5
          refine ⟨fun q => absurd ((nI_leI (by omega) (by omega)).mp q) (by omega), fun _ => ⟨vp_in_nI (by omega) (by omega), ?_⟩⟩
          intro x5 e5
          rw [r41, nI_clamp (by omega), tk] at e5
          subst e5
          refine ⟨fun _ => ?_, fun q => absurd ((nI_leI (a := 2) (by omega) (by omega)).mpr (by omega)) q⟩
          intro x7 e7
          rw [nI_m1 (by omega)] at e7
          have e2 : rest.length + 2 - 1 = rest.length + 1 := by omega
          rw [e2] at e7
          subst e7
          intro i9 e9
          have e3 : nI (rest.length + 1) - 1 = nI rest.length := nI_pred _
          rw [e3] at e9
          subst e9
          rw [r46, nI_clamp (n := rest.length) (by omega), nI_clamp (n := rest.length + 1) (by omega), hx, hy]
          refine ⟨vp_in_nI (by omega) (by omega), ?_⟩
          intro x10 e10
          subst e10
          refine ⟨vp_in_nI (by omega) (by omega), ?_⟩
          intro x12 e12
          subst e12
          have c5 : nI (c - 10098) = 5 ↔ c = 10103 := by
            have : nI (c - 10098) = nI 5 ↔ c - 10098 = 5 := nI_eq (by omega) (by omega)
            constructor
            · intro e; have := this.mp e; omega
            · intro e; exact this.mpr (by omega)
          refine ⟨fun q => j104 (fun e => absurd (c5.mpr e) q), fun q => ⟨fun q2 => j104 (fun _ => q2), fun q2 => ?_⟩⟩
          intro h27 e27
          subst e27
          exact k4 (c5.mp q) q2
        by_cases c0 : c = 10100
        · obtain ⟨n, hn⟩ := fin (x + y) (by rw [hev2, if_pos c0])
          exact ⟨n + 1, lp_s (pre _ _ (fun _ => hn) (fun q => absurd q (by omega)) (fun q => absurd q (by omega)) (fun q => absurd q (by omega)) (fun q => absurd q (by omega)))⟩
        by_cases c1 : c = 10101
        · obtain ⟨n, hn⟩ := fin (x - y) (by rw [hev2, if_neg c0, if_pos c1])
          exact ⟨n + 1, lp_s (pre _ _ (fun q => absurd q (by omega)) (fun _ => hn) (fun q => absurd q (by omega)) (fun q => absurd q (by omega)) (fun q => absurd q (by omega)))⟩
        by_cases c2 : c = 10102
        · obtain ⟨n, hn⟩ := fin (x * y) (by rw [hev2, if_neg c0, if_neg c1, if_pos c2])
          exact ⟨n + 1, lp_s (pre _ _ (fun q => absurd q (by omega)) (fun q => absurd q (by omega)) (fun _ => hn) (fun q => absurd q (by omega)) (fun q => absurd q (by omega)))⟩
        have c3 : c = 10103 := by omega
        by_cases hy0 : y = 0
        · refine ⟨1, lp_s (pre _ _ (fun q => absurd q (by omega)) (fun q => absurd q (by omega)) (fun q => absurd q (by omega)) (fun _ q => absurd hy0 q) (fun _ _ => ?_))⟩
          refine hN h hF ?_
          unfold evP
          rw [hev2, if_neg c0, if_neg c1, if_neg c2, if_pos hy0]
        · obtain ⟨n, hn⟩ := fin (x / y) (by rw [hev2, if_neg c0, if_neg c1, if_neg c2, if_neg hy0])
          exact ⟨n + 1, lp_s (pre _ _ (fun q => absurd q (by omega)) (fun q => absurd q (by omega)) (fun q => absurd q (by omega)) (fun _ _ => hn) (fun _ q => absurd q hy0))⟩
  exact key cs0 0 [] h0 rfl (Nat.zero_le _) hwf0 (Nat.zero_le _) (fun i hi => absurd hi (Nat.not_lt_zero _)) Fr.rf rfl
