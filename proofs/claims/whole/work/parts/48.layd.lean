/-! laying dishes: the class's side -/
def lyV (t st k c : Nat) : Nat → Int32 := fun i => if i = 0 then nI t else if i = 1 then nI (c % 8) else if i = 2 then nI (c / 8) else if i = 6 then nI k else if i = 7 then nI st else 0
def clamp9 (x : Int32) : Nat := if x < 9 then (if 0 < x then x.toNatClampNeg else 0) else 9
theorem clamp9_le (x : Int32) : clamp9 x ≤ 9 := by
  unfold clamp9
  split
  · rename_i h
    split
    · rename_i h0
      obtain ⟨j, hj, e⟩ := nn_of (Int32.le_of_lt h0)
      rw [e] at h ⊢
      rw [nI_clamp hj]
      have := (nI_ltI (a := j) (b := 9) hj (by omega)).mp h
      omega
    · omega
  · omega
theorem clamp9_eq (x : Int32) : (if 0 < ((if x < 9 then x else 9)) then ((if x < 9 then x else 9)) else 0) = nI (clamp9 x) := by
  unfold clamp9
  by_cases h : x < 9
  · rw [if_pos h, if_pos h]
    by_cases h0 : 0 < x
    · rw [if_pos h0, if_pos h0]
      obtain ⟨j, hj, e⟩ := nn_of (Int32.le_of_lt h0)
      rw [e, nI_clamp hj]
    · rw [if_neg h0, if_neg h0]; rfl
  · rw [if_neg h, if_neg h]; rfl
/-- what a laying writes -/
def layC (B : By) (t k c : Nat) : Nat := 16 * (t + 1) + clamp9 (tellsF (lyV t (bS B k) k c) (bPL B))
/-- layings down the wind, n cells at most -/
def layRun (B : By) (t k w : Nat) : Nat → Option Nat → (Nat → Nat) → (Nat → Nat)
  | 0, _, Y => Y
  | _ + 1, none, Y => Y
  | n + 1, some c, Y => layRun B t k w n (downF B c w) (fun i => if i = 40 * k + c then layC B t k c else Y i)
def layD (B : By) (w k : Nat) (S : Sc) : Sc := (sH S, sP S, sL S, sO S, sC S, sA S, layRun B (sH S) k w (bS B k + 1) (some (sC S k)) (sY S))
/-- a scene's layings alone may change -/
theorem ScOK.lays {h h' : TH} {s : Nat} {S : Sc} {Y : Nat → Nat} (hS : ScOK h s S) (e : ∀ a, s ≤ a → a < s + 3 → h'.1 a = h.1 a) (hy : ∀ i, i < 240 → h'.1 (s + 3) i = nI (Y i)) : ScOK h' s (sH S, sP S, sL S, sO S, sC S, sA S, Y) := by
  obtain ⟨h1, h2, h3, h4, h5, h6, h7⟩ := hS
  refine ⟨?_, ?_, ?_, ?_, fun k hk => ?_, fun k hk => ?_, hy⟩
  · rw [e s (by omega) (by omega)]; exact h1
  · rw [e s (by omega) (by omega)]; exact h2
  · rw [e s (by omega) (by omega)]; exact h3
  · rw [e s (by omega) (by omega)]; exact h4
  · rw [e (s + 1) (by omega) (by omega)]; exact h5 k hk
  · rw [e (s + 2) (by omega) (by omega)]; exact h6 k hk
theorem layRun_ok (B : By) (t k w : Nat) (ht : t ≤ 1000000) (hk : k < 6) : ∀ (n : Nat) (oc : Option Nat) (Y : Nat → Nat), (∀ i, i < 240 → Y i = 0 ∨ (16 ≤ Y i ∧ Y i < 2 ^ 26)) → ∀ i, i < 240 → layRun B t k w n oc Y i = 0 ∨ (16 ≤ layRun B t k w n oc Y i ∧ layRun B t k w n oc Y i < 2 ^ 26) := by
  intro n
  induction n with
  | zero => intro oc Y hY i hi; simp only [layRun]; exact hY i hi
  | succ n ih =>
    intro oc Y hY i hi
    cases oc with
    | none => simp only [layRun]; exact hY i hi
    | some c =>
      simp only [layRun]
      refine ih _ _ (fun j hj => ?_) i hi
      by_cases e : j = 40 * k + c
      · rw [if_pos e]
        have := clamp9_le (tellsF (lyV t (bS B k) k c) (bPL B))
        right
        unfold layC
        omega
      · rw [if_neg e]; exact hY j hj
theorem layD_B {B : By} {w k : Nat} {S : Sc} (hS : ScB S) (hk : k < 6) : ScB (layD B w k S) := ⟨hS.1, hS.2.1, hS.2.2.1, hS.2.2.2.1, hS.2.2.2.2.1, layRun_ok B (sH S) k w hS.1 hk _ _ _ hS.2.2.2.2.2⟩
/-- where a bay and a scene lie apart -/
def apart (b s : Nat) : Prop := s + 4 ≤ b ∨ b + 23 ≤ s
def FLa (b s : Nat) : Nat → Prop := fun a => FBa b a ∨ a = s + 3
theorem P_layDish_loop {r : TR} {b s k w : Nat} {B : By} {h0 : TH} {S : Sc} {Q : TH → Prop} (hr : RBa r b) (hrs : RSc r s) (hB : ByB B) (hap : apart b s) (hk : k < bN B) (hw : w < 8) (hH : sH S ≤ 1000000)
    (hQ : ∀ h', Fr (FLa b s) h0 h' → BScr b h0 h' → (∀ i, i < 240 → h'.1 (s + 3) i = nI (layRun B (sH S) k w (bS B k + 1) (some (sC S k)) (sY S) i)) → Q h') :
    ∀ (m j : Nat) (oc : Option Nat) (Y : Nat → Nat) (h : TH), j + m = bS B k + 1 → (∀ c, oc = some c → c < 40) → BayOK h b B → h.1 s 0 = nI (sH S) → Fr (FLa b s) h0 h → BScr b h0 h → (∀ i, i < 240 → h.1 (s + 3) i = nI (Y i)) → (h.1 (b + 19) 0 = nI (sH S) ∧ h.1 (b + 19) 7 = nI (bS B k) ∧ h.1 (b + 19) 6 = nI k) → layRun B (sH S) k w (bS B k + 1) (some (sC S k)) (sY S) = layRun B (sH S) k w m oc Y →
      lp (fun (K : Int32 × Int32 × TH → Prop) (t : Int32 × Int32 × TH) => DB_Bay_layDish_51 r b s (nI k) (nI w) t.1 t.2.1 t.2.2 (fun y32 y33 h34 => K (y32, y33, h34)) (fun h35 => Q h35) Q) (m + 1) (optI oc, nI j, h) := by
  have hn := hB.2.2.1
  have hk6 : k < 6 := by omega
  have hst := (hB.2.2.2.2.2.2.1 k hk).2.2.1
  intro m
  induction m with
  | zero =>
    intro j oc Y h hj hoc hO hh hF hs hy hv hR
    refine lp_s ?_
    unfold DB_Bay_layDish_51
    rw [hr.1.2.2.2.2.2.1, nI_clamp (by omega), (hO.2.2.2.2.2.2.1 k hk).2.2.1]
    refine ⟨vp_in_nI hk6 (by omega), fun _ => ?_, fun q => absurd ((nI_ltI (by omega) (by omega)).mpr (by omega)) q⟩
    refine hQ h hF hs (fun i hi => ?_)
    rw [hR, hy i hi]; rfl
  | succ m ih =>
    intro j oc Y h hj hoc hO hh hF hs hy hv hR
    refine lp_s ?_
    have main : ∀ K : Int32 → Int32 → TH → Prop, (∀ oc' Y' h', (∀ c, oc' = some c → c < 40) → BayOK h' b B → h'.1 s 0 = nI (sH S) → Fr (FLa b s) h0 h' → BScr b h0 h' → (∀ i, i < 240 → h'.1 (s + 3) i = nI (Y' i)) → (h'.1 (b + 19) 0 = nI (sH S) ∧ h'.1 (b + 19) 7 = nI (bS B k) ∧ h'.1 (b + 19) 6 = nI k) → layRun B (sH S) k w (bS B k + 1) (some (sC S k)) (sY S) = layRun B (sH S) k w m oc' Y' → K (optI oc') (nI (j + 1)) h') → DB_Bay_layDish_51 r b s (nI k) (nI w) (optI oc) (nI j) h K (fun h35 => Q h35) Q := by
      intro K hK
      unfold DB_Bay_layDish_51
      rw [hr.1.2.2.2.2.2.1, nI_clamp (n := k) (by omega), (hO.2.2.2.2.2.2.1 k hk).2.2.1]
      refine ⟨vp_in_nI hk6 (by omega), fun q => absurd ((nI_ltI (by omega) (by omega)).mp q) (by omega), fun _ => ?_⟩
      cases oc with
      | none =>
        refine ⟨fun _ => ?_, fun q => absurd rfl q⟩
        refine hQ h hF hs (fun i hi => ?_)
        rw [hR, hy i hi]; rfl
      | some c =>
        have hc := hoc c rfl
        refine ⟨fun q => absurd q (nI_nm1 (by omega)), fun _ => ?_⟩
        intro h19 e19 h22 e22
        have l14 : r b 14 = b + 18 := hr.2.1.2.2
        have lv0 : r (b + 18) 0 = b + 19 := hr.2.2.2.2.1
        rw [l14, lv0] at e19 e22
        have e1 : jrem (optI (some c)) 8 = nI (c % 8) := jr8 (by omega)
        have e2 : optI (some c) / 8 = nI (c / 8) := dv8 (by omega)
        rw [e1] at e19
        rw [e2] at e22
        have z1 : (1 : Int32).toNatClampNeg = 1 := by decide
        have z2 : (2 : Int32).toNatClampNeg = 2 := by decide
        rw [z1] at e19
        rw [z2] at e22
        have s22 : BScr b h h22 := by
          rw [e22, e19]
          exact (BScr.v19 (by omega)).tr (BScr.v19 (by omega))
        have f22 : Fr (FLa b s) h h22 := by
          rw [e22, e19]
          exact (Fr.pI (by unfold FLa FBa; omega)).tr (Fr.pI (by unfold FLa FBa; omega))
        have O22 := hO.scr s22
        rw [l14]
        refine P_Law_tells hr.2.2.2.2 O22.2.2.2.2.2.2.2.2.2.1 hB.2.2.2.2.2.2.2.2.2 (fun h24 hS24 => ?_)
        have ev : tellsF (h22.1 (b + 18 + 1)) (bPL B) = tellsF (lyV (sH S) (bS B k) k c) (bPL B) := by
          refine tellsF_cg (fun i hi => ?_) _ _ (Nat.le_refl _) O22.2.2.2.2.2.2.2.2.2.1.wf
          show h22.1 (b + 19) i = lyV (sH S) (bS B k) k c i
          have z := O22.2.2.2.2.2.2.2.2.2.2.2
          unfold lyV
          rcases (show i = 0 ∨ i = 1 ∨ i = 2 ∨ i = 3 ∨ i = 4 ∨ i = 5 ∨ i = 6 ∨ i = 7 ∨ i = 8 by omega) with rfl | rfl | rfl | rfl | rfl | rfl | rfl | rfl | rfl
          · rw [e22, e19, pI_n _ _ _ _ (by omega), pI_n _ _ _ _ (by omega)]; exact hv.1
          · rw [e22, pI_n _ _ _ _ (by omega), e19, pI_s]; rfl
          · rw [e22, pI_s]; rfl
          · exact z.1
          · exact z.2.1
          · exact z.2.2.1
          · rw [e22, e19, pI_n _ _ _ _ (by omega), pI_n _ _ _ _ (by omega)]; exact hv.2.2
          · rw [e22, e19, pI_n _ _ _ _ (by omega), pI_n _ _ _ _ (by omega)]; exact hv.2.1
          · exact z.2.2.2
        rw [ev, clamp9_eq]
        have ei : (40 * nI k) + optI (some c) = nI (40 * k + c) := by
          have : (40 : Int32) * nI k = nI (40 * k) := pk_mul 40 k
          rw [this]
          exact nI_add _ _
        rw [ei]
        have s24 : BScr b h h24 := s22.tr (BScr.ask18 hS24)
        have f24 : Fr (FLa b s) h h24 := f22.tr (hS24.1.mono (fun q hq => by unfold FLa FBa; omega))
        have keep : ∀ a, s ≤ a → a < s + 4 → h24.1 a = h.1 a := by
          intro a p1 p2
          unfold apart at hap
          have g1 : h24.1 a = h22.1 a := (hS24.1 a (by omega)).1
          rw [g1, e22, pI_o _ _ _ _ (by omega), e19, pI_o _ _ _ _ (by omega)]
        unfold D_Sc_lay
        refine ⟨vp_in_nI (by omega) (by omega), ?_⟩
        intro h26 e26
        have ev2 : 16 * (h24.1 s 0 + 1) + nI (clamp9 (tellsF (lyV (sH S) (bS B k) k c) (bPL B))) = nI (layC B (sH S) k c) := by
          rw [keep s (by omega) (by omega), hh, nI_1]
          have : (16 : Int32) * nI (sH S + 1) = nI (16 * (sH S + 1)) := pk_mul 16 _
          rw [this, nI_add]; rfl
        rw [hrs.2.2, nI_clamp (by omega), ev2] at e26
        have s26 : BScr b h h26 := s24.tr (BScr.out (fun a p1 p2 => by rw [e26]; exact pI_o _ _ _ _ (by unfold apart at hap; omega)))
        have f26 : Fr (FLa b s) h h26 := f24.tr (by rw [e26]; exact Fr.pI (by unfold FLa; omega))
        refine P_downwind hr (hO.scr s26) hB hc hw ?_
        intro x31 e31
        rw [nI_1] at e31
        subst e31
        refine hK (downF B c w) (fun i => if i = 40 * k + c then layC B (sH S) k c else Y i) h26 (fun d hd => downF_lt hB hd) (hO.scr s26) ?_ (hF.tr f26) (hs.tr s26) (fun i hi => ?_) ?_ ?_
        · rw [e26, pI_o _ _ _ _ (by omega), keep s (by omega) (by omega)]; exact hh
        · show h26.1 (s + 3) i = nI (if i = 40 * k + c then layC B (sH S) k c else Y i)
          by_cases e : i = 40 * k + c
          · rw [if_pos e, e26, e, pI_s]
          · rw [if_neg e, e26, pI_n _ _ _ _ (by omega), keep (s + 3) (by omega) (by omega)]; exact hy i hi
        · have g : h26.1 (b + 19) = h22.1 (b + 19) := by
            rw [e26, pI_o _ _ _ _ (by unfold apart at hap; omega)]
            exact (hS24.1 (b + 19) (by omega)).1
          rw [g, e22, e19, pI_n _ _ _ _ (by omega), pI_n _ _ _ _ (by omega), pI_n _ _ _ _ (by omega), pI_n _ _ _ _ (by omega), pI_n _ _ _ _ (by omega), pI_n _ _ _ _ (by omega)]
          exact hv
        · rw [hR]; rfl
    exact main _ (fun oc' Y' h' a1 a2 a3 a4 a5 a6 a7 a8 => ih (j + 1) oc' Y' h' (by omega) a1 a2 a3 a4 a5 a6 a7 a8)
theorem P_layDish {r : TR} {b s k w : Nat} {B : By} {h : TH} {S : Sc} {Q : TH → Prop} (hr : RBa r b) (hrs : RSc r s) (hO : BayOK h b B) (hB : ByB B) (hS : ScOK h s S) (hSB : ScB S) (hap : apart b s) (hk : k < bN B) (hw : w < 8)
    (hQ : ∀ h', Fr (FLa b s) h h' → BScr b h h' → ScOK h' s (layD B w k S) → Q h') : D_Bay_layDish r b s (nI k) (nI w) h Q := by
  have hn := hB.2.2.1
  have hk6 : k < 6 := by omega
  have hst := (hB.2.2.2.2.2.2.1 k hk).2.2.1
  unfold D_Bay_layDish
  intro h3 e3
  have l14 : r b 14 = b + 18 := hr.2.1.2.2
  have lv0 : r (b + 18) 0 = b + 19 := hr.2.2.2.2.1
  rw [l14, lv0, hS.1] at e3
  refine ⟨vp_in_nI hk6 (by omega), ?_⟩
  intro h7 e7 h10 e10
  rw [l14, lv0] at e7 e10
  have z0 : (0 : Int32).toNatClampNeg = 0 := by decide
  have z6 : (6 : Int32).toNatClampNeg = 6 := by decide
  have z7 : (7 : Int32).toNatClampNeg = 7 := by decide
  rw [z0] at e3
  rw [z7, hr.1.2.2.2.2.2.1, nI_clamp (by omega), e3, pI_o _ _ _ _ (by omega), (hO.2.2.2.2.2.2.1 k hk).2.2.1] at e7
  rw [z6] at e10
  have s10 : BScr b h h10 := by
    rw [e10, e7]
    exact ((BScr.v19 (by omega)).tr (BScr.v19 (by omega))).tr (BScr.v19 (by omega))
  have f10 : Fr (FLa b s) h h10 := by
    rw [e10, e7]
    exact ((Fr.pI (by unfold FLa FBa; omega)).tr (Fr.pI (by unfold FLa FBa; omega))).tr (Fr.pI (by unfold FLa FBa; omega))
  have keep : ∀ a, s ≤ a → a < s + 4 → h10.1 a = h.1 a := by
    intro a p1 p2
    unfold apart at hap
    rw [e10, pI_o _ _ _ _ (by omega), e7, pI_o _ _ _ _ (by omega), pI_o _ _ _ _ (by omega)]
  have S10 : ScOK h10 s S := hS.fr keep
  refine ⟨vp_in_nI hk6 (by omega), ?_⟩
  intro x12 e12
  rw [hrs.1, nI_clamp (by omega), S10.2.2.2.2.1 k hk6] at e12
  rw [e12]
  refine ⟨bS B k + 2, P_layDish_loop (h0 := h) (S := S) hr hrs hB hap hk hw hSB.1 (fun h' hF' hs' hy' => hQ h' hF' hs' ?_) (bS B k + 1) 0 (some (sC S k)) (sY S) h10 (by omega) (fun c hc => ?_) (hO.scr s10) S10.1 f10 s10 S10.2.2.2.2.2.2 ?_ rfl⟩
  · refine ScOK.lays hS (fun a p1 p2 => (hF' a ?_).1) hy'
    unfold apart at hap
    unfold FLa FBa
    omega
  · have := hSB.2.2.2.2.1 k hk6
    simp at hc
    omega
  · refine ⟨?_, ?_, ?_⟩
    · rw [e10, pI_n _ _ _ _ (by omega), e7, pI_n _ _ _ _ (by omega), pI_s]
    · rw [e10, pI_n _ _ _ _ (by omega), e7, pI_s]
    · rw [e10, pI_s]
/-- all boats' layings, of the first j -/
def layUp (B : By) (w fr : Nat) : Nat → Sc → Sc
  | 0, S => S
  | j + 1, S => if fr.testBit j = true then layD B w j (layUp B w fr j S) else layUp B w fr j S
def layAll (B : By) (S : Sc) : Sc := layUp B (windF B (sH S)) (sailM B S &&& sP S) (bN B) S
theorem layUp_B {B : By} {w fr : Nat} {S : Sc} (hS : ScB S) : ∀ j, j ≤ 6 → ScB (layUp B w fr j S) := by
  intro j
  induction j with
  | zero => intro _; exact hS
  | succ j ih =>
    intro hj
    unfold layUp
    split
    · exact layD_B (ih (by omega)) (by omega)
    · exact ih (by omega)
theorem P_layDishes {r : TR} {b s : Nat} {B : By} {h : TH} {S : Sc} {Q : TH → Prop} (hr : RBa r b) (hrs : RSc r s) (hO : BayOK h b B) (hB : ByB B) (hS : ScOK h s S) (hSB : ScB S) (hap : apart b s)
    (hQ : ∀ h', Fr (FLa b s) h h' → BScr b h h' → ScOK h' s (layAll B S) → Q h') : D_Bay_layDishes r b s h Q := by
  have hn := hB.2.2.1
  unfold D_Bay_layDishes
  rw [hS.1]
  refine P_windAt hr hO hB (fun h1 hF1 hs1 => ?_)
  have S1 : ScOK h1 s S := hS.fr (fun a p1 p2 => (hF1 a (by unfold apart at hap; unfold FBa; omega)).1)
  refine P_sailing (hO.scr hs1) hB S1 hSB ?_
  intro x6 e6
  have hsm := sailM_lt hB hSB
  rw [S1.2.1, band hsm hSB.2.1] at e6
  subst e6
  have hfr : sailM B S &&& sP S < 64 := and_lt64 hsm
  have hw4 := way4_le (tellsF (windV (sH S)) (bPW B))
  refine lp_for (bN B) (fun j t => ∃ h', t = (nI j, h') ∧ Fr (FLa b s) h h' ∧ BScr b h h' ∧ ScOK h' s (layUp B (windF B (sH S)) (sailM B S &&& sP S) j S)) ?_ ?_ _ ⟨h1, rfl, hF1.mono (fun q hq => Or.inl hq), hs1, S1⟩
  · rintro j t K hj ⟨h', rfl, hF', hs', hS'⟩ hK
    unfold DB_Bay_layDishes_23
    have O' := hO.scr hs'
    rw [O'.2.2.1]
    refine ⟨fun q => absurd ((nI_leI (by omega) (by omega)).mp q) (by omega), fun _ => ⟨fun q x10 e10 => ?_, fun q => ?_⟩⟩
    · rw [nI_1] at e10
      subst e10
      refine hK _ ⟨h', rfl, hF', hs', ?_⟩
      have : ¬ (sailM B S &&& sP S).testBit j = true := fun z => q ((bt_1 hfr (by omega)).mpr z)
      unfold layUp
      rw [if_neg this]
      exact hS'
    · refine P_layDish hr hrs O' hB hS' (layUp_B hSB j (by omega)) hap hj (show windF B (sH S) < 8 by unfold windF; omega) (fun h2 hF2 hs2 hS2 => ?_)
      intro x13 e13
      rw [nI_1] at e13
      subst e13
      refine hK _ ⟨h2, rfl, hF'.tr hF2, hs'.tr hs2, ?_⟩
      have z := (bt_1 hfr (by omega)).mp q
      unfold layUp
      rw [if_pos z]
      exact hS2
  · rintro t K ⟨h', rfl, hF', hs', hS'⟩
    unfold DB_Bay_layDishes_23
    rw [(hO.scr hs').2.2.1]
    exact ⟨fun _ => hQ h' hF' hs' hS', fun q => absurd (Int32.le_refl _) q⟩
