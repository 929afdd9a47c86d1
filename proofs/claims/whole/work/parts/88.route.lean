/-! the shortest way: both sides -/
def vF (B : By) (c : Nat) : Int32 := optI (farF B c)
theorem toV_cg {B : By} (hB : ByB B) {v v' : Nat → Int32} (e : ∀ d, d < 40 → v d = v' d) (x : Int32) (c : Nat) : toV B v x c = toV B v' x c := by
  funext w
  unfold toV
  cases hb : besF (bW B) (bH B) c w with
  | none => rfl
  | some d => show decide (v d = x) = decide (v' d = x); rw [e d (besF_lt hB.1 hB.2.1 hb).1]
theorem farUp_down {B : By} {c x : Nat} : ∀ k, farUp B (x + k) c = some x → farUp B x c = some x := by
  intro k
  induction k with
  | zero => intro h; exact h
  | succ k ih => intro h; exact ih (farUp_old (by omega) h)
/-- from a cell x + 1 steps away some way leads to one x steps away -/
theorem far_step {B : By} (hB : ByB B) {c x : Nat} (h : farF B c = some (x + 1)) : ∃ w d, 1 ≤ w ∧ w ≤ 4 ∧ besF (bW B) (bH B) c w = some d ∧ d < 40 ∧ farF B d = some x ∧ toV B (vF B) (nI x) c w = true ∧ (∀ i, 1 ≤ i → i < w → toV B (vF B) (nI x) c i = false) ∧ firstW (toV B (vF B) (nI x) c) = nI w := by
  have hx := farF_le h
  have h1 : farUp B (x + 1) c = some (x + 1) := farUp_down (40 - (x + 1)) (by rw [show x + 1 + (40 - (x + 1)) = 40 by omega]; exact h)
  have h0 : farUp B x c = none := by
    cases hq : farUp B x c with
    | none => rfl
    | some y =>
      have := farUp_s hq
      rw [h1] at this
      cases this
      have := farUp_le _ hq
      omega
  rw [farUp_n h0] at h1
  have nt : nextTo B (farUp B x) c x = true := by
    by_cases z : bK B c = 0 ∧ nextTo B (farUp B x) c x = true
    · exact z.2
    · rw [if_neg z] at h1; cases h1
  unfold nextTo at nt
  rw [List.any_eq_true] at nt
  obtain ⟨w, hw, ht⟩ := nt
  have hw' : 1 ≤ w ∧ w ≤ 4 := by simp at hw; omega
  have tv : toV B (vF B) (nI x) c w = true := by
    unfold toV
    cases hb : besF (bW B) (bH B) c w with
    | none => rw [hb] at ht; exact absurd (show false = true from ht) (by decide)
    | some d =>
      rw [hb] at ht
      have hd : farUp B x d = some x := by simpa using ht
      have : farF B d = some x := by
        have := farUp_mono hd (40 - x)
        rw [show x + (40 - x) = 40 by omega] at this
        exact this
      show decide (vF B d = nI x) = true
      unfold vF
      rw [this]
      exact decide_eq_true rfl
  obtain ⟨k, hk, hmin⟩ := pk_least (fun k => 1 ≤ k ∧ k ≤ 4 ∧ toV B (vF B) (nI x) c k = true) ⟨w, hw'.1, hw'.2, tv⟩
  have hz : ∀ i, 1 ≤ i → i < k → toV B (vF B) (nI x) c i = false := fun i a b => by
    cases hq : toV B (vF B) (nI x) c i with
    | true => exact absurd ⟨a, by omega, hq⟩ (hmin i b)
    | false => rfl
  have fw := firstW_at hk.1 hk.2.1 hk.2.2 hz
  have tk := hk.2.2
  cases hb : besF (bW B) (bH B) c k with
  | none => unfold toV at tk; rw [hb] at tk; exact absurd (show false = true from tk) (by decide)
  | some d =>
    have hd := besF_lt hB.1 hB.2.1 hb
    have tk2 := tk
    unfold toV at tk2
    rw [hb] at tk2
    have e : vF B d = nI x := of_decide_eq_true tk2
    have fd : farF B d = some x := (optI_nI (by omega) (fun y hy => by have := farF_le hy; omega)).mp e
    exact ⟨k, d, hk.1, hk.2.1, hb, hd.1, fd, tk, hz, fw⟩
theorem stepE {B : By} (hB : ByB B) {c w d : Nat} (hc : c < 40) (h : besF (bW B) (bH B) c w = some d) : nI (c % 8) + eI w = nI (d % 8) ∧ nI (c / 8) + soI w = nI (d / 8) := by
  have hW := hB.1
  have hH := hB.2.1
  have n0 : ∀ x, nI x + (0 : Int32) = nI x := fun x => by rw [Int32.add_zero]
  unfold besF at h
  unfold eI soI
  by_cases w1 : w = 1
  · subst w1
    simp only [if_true] at h
    split at h
    · cases h
      refine ⟨?_, ?_⟩
      · show nI (c % 8) + 1 = _
        rw [nI_1]; congr 1; omega
      · show nI (c / 8) + 0 = _
        rw [n0]; congr 1; omega
    · cases h
  by_cases w2 : w = 2
  · subst w2
    rw [if_neg (by omega), if_pos rfl] at h
    split at h
    · cases h
      refine ⟨?_, ?_⟩
      · show nI (c % 8) + 0 = _
        rw [n0]; congr 1; omega
      · show nI (c / 8) + 1 = _
        rw [nI_1]; congr 1; omega
    · cases h
  by_cases w3 : w = 3
  · subst w3
    rw [if_neg (by omega), if_neg (by omega), if_pos rfl] at h
    split at h
    · rename_i z
      cases h
      refine ⟨?_, ?_⟩
      · show nI (c % 8) + (-1) = _
        rw [nI_m1 (by omega)]; congr 1; omega
      · show nI (c / 8) + 0 = _
        rw [n0]; congr 1; omega
    · cases h
  by_cases w4 : w = 4
  · subst w4
    rw [if_neg (by omega), if_neg (by omega), if_neg (by omega), if_pos rfl] at h
    split at h
    · rename_i z
      cases h
      refine ⟨?_, ?_⟩
      · show nI (c % 8) + 0 = _
        rw [n0]; congr 1; omega
      · show nI (c / 8) + (-1) = _
        rw [nI_m1 (by omega)]; congr 1; omega
    · cases h
  rw [if_neg w1, if_neg w2, if_neg w3, if_neg w4] at h
  rw [if_neg w1, if_neg w3, if_neg w2, if_neg w4]
  split at h
  · cases h
    exact ⟨n0 _, n0 _⟩
  · cases h
def wI (B : By) (x c : Nat) : Nat := (firstW (toV B (vF B) (nI x) c)).toNatClampNeg
def rtF (B : By) (far c0 : Nat) : Nat → Nat
  | 0 => c0
  | j + 1 => (besF (bW B) (bH B) (rtF B far c0 j) (wI B (far - j - 1) (rtF B far c0 j))).getD 0
theorem rt_ok {B : By} (hB : ByB B) {far c0 : Nat} (hc : c0 < 40) (hf : farF B c0 = some far) : ∀ j, j ≤ far → rtF B far c0 j < 40 ∧ farF B (rtF B far c0 j) = some (far - j) := by
  intro j
  induction j with
  | zero => intro _; exact ⟨hc, hf⟩
  | succ j ih =>
    intro hj
    obtain ⟨i1, i2⟩ := ih (by omega)
    have e : far - j = (far - j - 1) + 1 := by omega
    rw [e] at i2
    obtain ⟨w, d, w1, w4, hb, hd, fd, -, -, fw⟩ := far_step hB i2
    have ew : wI B (far - j - 1) (rtF B far c0 j) = w := by unfold wI; rw [fw]; exact nI_clamp (by omega)
    have er : rtF B far c0 (j + 1) = d := by
      show (besF (bW B) (bH B) (rtF B far c0 j) (wI B (far - j - 1) (rtF B far c0 j))).getD 0 = d
      rw [ew, hb]; rfl
    rw [er]
    exact ⟨hd, by rw [fd]; congr 1⟩
theorem P_wayNearer {r : TR} {h : TH} {b c x : Nat} {B : By} {Q : Int32 → TH → Prop} (hr : RBa r b) (hO : BayOK h b B) (hB : ByB B) (hst : ∀ c, c < 40 → h.1 (b + 2) c = optI (farF B c)) (hc : c < 40) (hf : farF B c = some (x + 1)) (hQ : Q (nI (wI B x c)) h) : D_Bay_wayNearer r b (nI c) h Q := by
  have hx := farF_le hf
  obtain ⟨w, d, w1, w4, -, -, -, -, -, fw⟩ := far_step hB hf
  have ew : firstW (toV B (vF B) (nI x) c) = nI (wI B x c) := by unfold wI; rw [fw, nI_clamp (by omega)]
  unfold D_Bay_wayNearer
  rw [hr.1.2.1, nI_clamp (n := c) (by omega), hst c hc, hf]
  refine ⟨vp_in_nI hc (by omega), ?_⟩
  show D_Bay_wayTo r b (nI c) (nI (x + 1) - 1) h _
  rw [nI_s1 (by omega), show x + 1 - 1 = x by omega]
  refine P_wayTo hr hO hB hc (nI_pos (by omega)) ?_
  rw [toV_cg hB (v' := vF B) hst, ew]
  exact hQ
theorem stepI_pos {B : By} {S : Sc} {k : Nat} (h : 0 < stepI B S k) : ∃ x, 0 < x ∧ x ≤ 40 ∧ sail S k = true ∧ farF B (sC S k) = some x ∧ stepI B S k = nI x := by
  unfold stepI at h ⊢
  cases hl : (sL S).testBit k with
  | true => rw [hl] at h; simp only [if_true] at h; exact absurd h (by decide)
  | false =>
    rw [hl] at h
    simp only [Bool.false_eq_true, if_false] at h ⊢
    cases ho : (sO S).testBit k with
    | true => rw [ho] at h; simp only [if_true] at h; exact absurd h (by decide)
    | false =>
      rw [ho] at h
      simp only [Bool.false_eq_true, if_false] at h ⊢
      cases hf : farF B (sC S k) with
      | none => rw [hf] at h; exact absurd (show (0 : Int32) < -2 from h) (by decide)
      | some x =>
        rw [hf] at h
        have := farF_le hf
        have hx := (nI_ltI (a := 0) (b := x) (by omega) (by omega)).mp h
        exact ⟨x, hx, this, sail_iff.mpr ⟨hl, ho⟩, rfl, rfl⟩
theorem J_route {r : TR} {q b d m L T : Nat} {h : TH} {A : St} {a1 a2 : Int32} {Q : Int32 → Int32 → TH → Prop} (C : Cx r q b d m L T h A) (hQ : ∀ x h', Cx r q b d m L T h' A → Q x x h') : D_SR_route r q a1 a2 h (fun x h1 => D_Mo_route r m a1 a2 h1 (fun y h2 => Q x y h2)) := by
  have hB := C.2.2.2.1.1
  have hn := hB.2.2.1
  obtain ⟨hR, hM, hqm, hA, hx, hm⟩ := id C
  obtain ⟨⟨-, r1, r2, r3, -⟩, -, ⟨s1, s2, -⟩, -, -, -, -, rb, -, ap⟩ := id hR
  obtain ⟨SB, SP, SA, SH, SN, SW, SO⟩ := hA.2.1
  have r49 : r m 49 = m + 32 := hM 49 (by decide) (by decide)
  unfold D_SR_route
  refine P_SRisBoat (B := tB A) r1 hx.1.2.2.1 hB (fun k hk e => ⟨fun z => absurd z z01, fun _ => ?_⟩) (fun hnk => ⟨fun _ => ?_, fun z => absurd rfl z⟩)
  · subst e
    have e6 : (6 : Int32) + nI k = nI (6 + k) := nI_add 6 k
    have hc := SB.2.2.2.2.1 k (by omega)
    have st : ∀ c, c < 40 → h.1 (b + 2) c = optI (farF (tB A) c) := hx.2.1.resolve_left (by omega)
    refine ⟨fun z2 => ?_, fun z2 => ?_⟩
    · have n2 : ¬ a2 < 0 := fun w => absurd (Int32.lt_of_lt_of_le w z2) Int32.lt_irrefl
      obtain ⟨i, hi31, rfl⟩ := nI_of n2
      refine P_stepsToMark hR hA hx hk ⟨fun z => ?_, fun z => ?_⟩
      · obtain ⟨x, hx0, hx40, hs, hf, ex⟩ := stepI_pos z
        have rok := rt_ok hB hc hf
        rw [ex]
        have p1 : (1 : Int32) ≤ nI x := nI_le (a := 1) hx0 (by omega)
        refine ⟨fun z3 => ?_, fun z3 => ?_⟩
        · have hix := (nI_ltI hi31 (by omega)).mp z3
          rw [r2, s1.1, nI_clamp (n := k) (by omega), hx.2.2.2.1.2.2.2.2.1 k (by omega)]
          refine ⟨vp_in_nI (by omega) (by omega), fun x12 e12 => ?_⟩
          subst e12
          refine lp_for i (fun j t => t = (nI (rtF (tB A) x (sC (tS A) k) j), nI j, h)) ?_ ?_ _ rfl
          · rintro j t K hj rfl hK
            obtain ⟨c1, c2⟩ := rok j (by omega)
            have e1 : x - j = (x - j - 1) + 1 := by omega
            rw [e1] at c2
            unfold DB_SR_route_48
            rw [r1]
            refine ⟨fun q => absurd ((nI_leI (by omega) (by omega)).mp q) (by omega), fun _ => ?_⟩
            refine P_wayNearer rb hx.1 hB st c1 c2 ?_
            obtain ⟨w, dd, w1, w4, hb, hd, fd, -, -, fw⟩ := far_step hB c2
            have ew : wI (tB A) (x - j - 1) (rtF (tB A) x (sC (tS A) k) j) = w := by unfold wI; rw [fw]; exact nI_clamp (by omega)
            refine P_beside hx.1.1 hx.1.2.1 hB.1 hB.2.1 c1 (by omega) (fun y ey => hK _ ?_)
            rw [ey, ew, hb]
            show (nI dd, nI j + 1, h) = (nI ((besF (bW (tB A)) (bH (tB A)) (rtF (tB A) x (sC (tS A) k) j) (wI (tB A) (x - j - 1) (rtF (tB A) x (sC (tS A) k) j))).getD 0), nI (j + 1), h)
            rw [nI_1, ew, hb]
            rfl
          · rintro t K rfl
            obtain ⟨c1, c2⟩ := rok i (by omega)
            have e1 : x - i = (x - i - 1) + 1 := by omega
            rw [e1] at c2
            unfold DB_SR_route_48
            rw [r1]
            refine ⟨fun _ => P_wayNearer rb hx.1 hB st c1 c2 ?_, fun q => absurd (Int32.le_refl _) q⟩
            show D_Mo_route r m (nI k) (nI i) h _
            unfold D_Mo_route
            refine P_MoisBoat hM hm.bay (rockB_B hB) (fun k' hk' e' => ⟨fun z => absurd z z01, fun _ => ⟨fun _ => ?_, fun w => absurd z2 w⟩⟩) (fun z => absurd rfl (z k hk))
            refine P_soonestOf hM hA hm hk (fun h5 q5 O5 R5 w5 l5 v5 => ?_)
            replace v5 := v5 (sail_iff.mp hs).1
            have g := R5.2.2.1 k hk
            rw [ex]
            refine ⟨fun _ => ⟨fun _ => ?_, fun w => absurd z3 w⟩, fun w => absurd p1 w⟩
            rw [r49, nI_clamp (n := k) (by omega), g.1]
            refine ⟨vp_in_nI (by omega) (by omega), fun x11 e11 i13 e13 => ?_⟩
            subst e11
            rw [e6] at e13
            subst e13
            rw [nI_clamp (n := 6 + k) (by omega), g.2.1]
            refine ⟨vp_in_nI (by omega) (by omega), fun x14 e14 => ?_⟩
            subst e14
            refine lp_for (i + 1) (fun j t => ∃ wy : Int32, t = (nI (rtF (tB A) x (sC (tS A) k) j % 8), nI (rtF (tB A) x (sC (tS A) k) j / 8), wy, nI j, h5) ∧ ∀ j', j = j' + 1 → wy = nI (wI (tB A) (x - j' - 1) (rtF (tB A) x (sC (tS A) k) j'))) ?_ ?_ _ ⟨0, rfl, fun j' e => by omega⟩
            · rintro j t K hj ⟨wy, rfl, hwy⟩ hK
              obtain ⟨d1, d2⟩ := rok j (by omega)
              have e1 : x - j = (x - j - 1) + 1 := by omega
              rw [e1] at d2
              obtain ⟨w, dd, w1, w4, hb, hd, fd, tw, tz, fw⟩ := far_step hB d2
              have ew : wI (tB A) (x - j - 1) (rtF (tB A) x (sC (tS A) k) j) = w := by unfold wI; rw [fw]; exact nI_clamp (by omega)
              have ex2 : nI x - nI j - 1 = nI (x - j - 1) := by
                have : nI x = nI (x - j) + nI j := by rw [nI_add]; congr 1; omega
                rw [this, Int32.add_sub_cancel, nI_s1 (by omega)]
              unfold DB_Mo_route_60
              refine ⟨fun q => absurd ((nI_ltI (by omega) (by omega)).mp q) (by omega), fun _ => ?_⟩
              have tvc := toV_cg hB (v := h5.1 (m + 35)) (v' := vF (tB A)) v5 (nI (x - j - 1)) (rtF (tB A) x (sC (tS A) k) j)
              refine lp_for (w - 1) (fun a s => s = (nI (1 + a), h5)) ?_ ?_ _ rfl
              · rintro a s K2 ha rfl hK2
                have tf := tz (1 + a) (by omega) (by omega)
                rw [← tvc] at tf
                unfold DB_Mo_route_69
                refine P_eastBy (by omega) (P_southBy (by omega) ?_)
                show D_Mo_farAt r m (nI (rtF (tB A) x (sC (tS A) k) j % 8) + eI (1 + a)) (nI (rtF (tB A) x (sC (tS A) k) j / 8) + soI (1 + a)) h5 _
                have nx : ∀ y : Int32, ¬ y = nI (x - j - 1) → (y = nI x - nI j - 1 → False) := fun y hy e => hy (by rw [e, ex2])
                refine P_farAt hM O5 hB d1 (fun d3 hb3 => ⟨fun z => ?_, fun z x26 e26 => ?_⟩) (fun hb3 => ⟨fun z => ?_, fun z x26 e26 => ?_⟩)
                · unfold toV at tf
                  rw [hb3] at tf
                  exact absurd z (nx _ (of_decide_eq_false tf))
                · have e' : x26 = nI (1 + (a + 1)) := by rw [e26]; show nI (1 + a) + 1 = _; rw [nI_1]; congr 1
                  subst e'
                  exact hK2 _ rfl
                · exact absurd z (nx _ (fun e => absurd e.symm (nI_nm1 (by omega))))
                · have e' : x26 = nI (1 + (a + 1)) := by rw [e26]; show nI (1 + a) + 1 = _; rw [nI_1]; congr 1
                  subst e'
                  exact hK2 _ rfl
              · rintro s K2 rfl
                have e1w : 1 + (w - 1) = w := by omega
                rw [e1w]
                have tf := tw
                rw [← tvc] at tf
                unfold DB_Mo_route_69
                refine P_eastBy (by omega) (P_southBy (by omega) ?_)
                show D_Mo_farAt r m (nI (rtF (tB A) x (sC (tS A) k) j % 8) + eI w) (nI (rtF (tB A) x (sC (tS A) k) j / 8) + soI w) h5 _
                refine P_farAt hM O5 hB d1 (fun d3 hb3 => ⟨fun z => ?_, fun z => ?_⟩) (fun hb3 => ?_)
                · have ed : d3 = dd := by rw [hb] at hb3; cases hb3; rfl
                  subst ed
                  refine P_eastBy (by omega) (fun x33 e33 => P_southBy (by omega) (fun x36 e36 x37 e37 => hK _ ⟨nI w, ?_, fun j' e => ?_⟩))
                  · have st2 : nI (rtF (tB A) x (sC (tS A) k) j % 8) + eI w = nI (d3 % 8) ∧ nI (rtF (tB A) x (sC (tS A) k) j / 8) + soI w = nI (d3 / 8) := by
                      exact stepE hB d1 hb3
                    rw [e33, e36, e37]
                    show (nI (rtF (tB A) x (sC (tS A) k) j % 8) + eI w, nI (rtF (tB A) x (sC (tS A) k) j / 8) + soI w, nI w, nI j + 1, h5) = _
                    have er : rtF (tB A) x (sC (tS A) k) (j + 1) = d3 := by
                      show (besF (bW (tB A)) (bH (tB A)) (rtF (tB A) x (sC (tS A) k) j) (wI (tB A) (x - j - 1) (rtF (tB A) x (sC (tS A) k) j))).getD 0 = d3
                      rw [ew, hb]; rfl
                    rw [st2.1, st2.2, nI_1, er]
                  · have : j' = j := by omega
                    subst this
                    rw [ew]
                · unfold toV at tf
                  rw [hb3] at tf
                  exact absurd (show h5.1 (m + 35) d3 = nI x - nI j - 1 by rw [of_decide_eq_true tf, ex2]) z
                · rw [hb] at hb3; cases hb3
            · rintro t K ⟨wy, rfl, hwy⟩
              unfold DB_Mo_route_60
              refine ⟨fun _ => ?_, fun q => absurd (nI_lt (by omega) (by omega)) q⟩
              rw [hwy i rfl]
              exact hQ _ _ (C.m q5)
        · unfold D_Mo_route
          refine P_MoisBoat hM hm.bay (rockB_B hB) (fun k' hk' e' => ⟨fun z => absurd z z01, fun _ => ⟨fun _ => ?_, fun w => absurd z2 w⟩⟩) (fun z => absurd rfl (z k hk))
          refine P_soonestOf hM hA hm hk (fun h5 q5 O5 R5 w5 l5 v5 => ?_)
          rw [ex]
          exact ⟨fun _ => ⟨fun w => absurd w z3, fun _ => hQ _ _ (C.m q5)⟩, fun w => absurd p1 w⟩
      · unfold D_Mo_route
        refine P_MoisBoat hM hm.bay (rockB_B hB) (fun k' hk' e' => ⟨fun z => absurd z z01, fun _ => ⟨fun _ => ?_, fun w => absurd z2 w⟩⟩) (fun z => absurd rfl (z k hk))
        refine P_soonestOf hM hA hm hk (fun h5 q5 O5 R5 w5 l5 v5 => ?_)
        exact ⟨fun w => absurd (Int32.lt_of_lt_of_le (show (0 : Int32) < 1 by decide) w) z, fun _ => hQ _ _ (C.m q5)⟩
    · unfold D_Mo_route
      refine P_MoisBoat hM hm.bay (rockB_B hB) (fun k' hk' e' => ⟨fun z => absurd z z01, fun _ => ⟨fun w => absurd w z2, fun _ => hQ _ _ C⟩⟩) (fun z => absurd rfl (z k hk))
  · unfold D_Mo_route
    exact P_MoisBoat hM hm.bay (rockB_B hB) (fun k hk e => absurd e (hnk k hk)) (fun _ => ⟨fun _ => hQ _ _ C, fun z => absurd rfl z⟩)
