/-! how far it is to a mark -/
theorem farUp_le {B : By} {c x : Nat} : ∀ n, farUp B n c = some x → x ≤ n := by
  intro n
  induction n with
  | zero =>
    intro h
    unfold farUp at h
    split at h
    · cases h; exact Nat.le_refl _
    · cases h
  | succ n ih =>
    intro h
    unfold farUp at h
    split at h
    · rename_i y hy
      cases h
      have := ih hy
      omega
    · split at h
      · cases h; exact Nat.le_refl _
      · cases h
theorem farUp_s {B : By} {n c x : Nat} (h : farUp B n c = some x) : farUp B (n + 1) c = some x := by
  unfold farUp; rw [h]
theorem farUp_n {B : By} {n c : Nat} (h : farUp B n c = none) : farUp B (n + 1) c = if bK B c = 0 ∧ nextTo B (farUp B n) c n = true then some (n + 1) else none := by
  conv => lhs; unfold farUp
  rw [h]
theorem farUp_mono {B : By} {n c x : Nat} (h : farUp B n c = some x) : ∀ k, farUp B (n + k) c = some x := by
  intro k
  induction k with
  | zero => exact h
  | succ k ih => exact farUp_s ih
theorem farUp_old {B : By} {n c x : Nat} (hx : x ≤ n) (h : farUp B (n + 1) c = some x) : farUp B n c = some x := by
  cases hq : farUp B n c with
  | some y => rw [farUp_s hq] at h; exact h
  | none =>
    rw [farUp_n hq] at h
    split at h
    · cases h; omega
    · cases h
/-- no cell is n + 1 steps away: none is further -/
theorem farUp_stop {B : By} (hB : ByB B) {n : Nat} (h : ∀ c, c < 40 → ¬ farUp B (n + 1) c = some (n + 1)) : ∀ k c, c < 40 → farUp B (n + k) c = farUp B n c := by
  have key : ∀ k, (∀ c, c < 40 → farUp B (n + k) c = farUp B n c) ∧ (∀ c, c < 40 → ¬ farUp B (n + k + 1) c = some (n + k + 1)) := by
    intro k
    induction k with
    | zero => exact ⟨fun _ _ => rfl, h⟩
    | succ k ih =>
      have e1 : ∀ c, c < 40 → farUp B (n + k + 1) c = farUp B (n + k) c := by
        intro c hc
        cases hq : farUp B (n + k) c with
        | some y => exact farUp_s hq
        | none =>
          have := ih.2 c hc
          rw [farUp_n hq] at this ⊢
          by_cases z : bK B c = 0 ∧ nextTo B (farUp B (n + k)) c (n + k) = true
          · rw [if_pos z] at this; exact absurd rfl this
          · rw [if_neg z]
      refine ⟨fun c hc => (e1 c hc).trans (ih.1 c hc), fun c hc hz => ?_⟩
      have hz' : farUp B (n + k + 1 + 1) c = some (n + k + 1 + 1) := hz
      cases hq : farUp B (n + k + 1) c with
      | some y =>
        rw [farUp_s hq] at hz'
        cases hz'
        have := farUp_le _ hq
        omega
      | none =>
        rw [farUp_n hq] at hz'
        split at hz'
        · rename_i z
          have hn := z.2
          unfold nextTo at hn
          rw [List.any_eq_true] at hn
          obtain ⟨w, -, hw⟩ := hn
          cases hb : besF (bW B) (bH B) c w with
          | none => rw [hb] at hw; exact absurd (show false = true from hw) (by decide)
          | some d =>
            rw [hb] at hw
            have hd := besF_lt hB.1 hB.2.1 hb
            exact ih.2 d hd.1 (by simpa using hw)
        · cases hz'
  exact fun k => (key k).1
/-- the first of the four ways of which p holds -/
def firstW (p : Nat → Bool) : Int32 := if p 1 = true then 1 else if p 2 = true then 2 else if p 3 = true then 3 else if p 4 = true then 4 else -1
/-- a way leads to a cell that has the value x -/
def toV (B : By) (v : Nat → Int32) (x : Int32) (c w : Nat) : Bool := match besF (bW B) (bH B) c w with
  | none => false
  | some d => decide (v d = x)
theorem firstW_at {p : Nat → Bool} {j : Nat} (h1 : 1 ≤ j) (h4 : j ≤ 4) (hp : p j = true) (h0 : ∀ i, 1 ≤ i → i < j → p i = false) : firstW p = nI j := by
  unfold firstW
  match j, h1, h4 with
  | 1, _, _ => rw [if_pos hp]; rfl
  | 2, _, _ => rw [if_neg (by rw [h0 1 (by omega) (by omega)]; decide), if_pos hp]; rfl
  | 3, _, _ => rw [if_neg (by rw [h0 1 (by omega) (by omega)]; decide), if_neg (by rw [h0 2 (by omega) (by omega)]; decide), if_pos hp]; rfl
  | 4, _, _ => rw [if_neg (by rw [h0 1 (by omega) (by omega)]; decide), if_neg (by rw [h0 2 (by omega) (by omega)]; decide), if_neg (by rw [h0 3 (by omega) (by omega)]; decide), if_pos hp]; rfl
theorem firstW_no {p : Nat → Bool} (h0 : ∀ i, 1 ≤ i → i ≤ 4 → p i = false) : firstW p = -1 := by
  unfold firstW
  rw [if_neg (by rw [h0 1 (by omega) (by omega)]; decide), if_neg (by rw [h0 2 (by omega) (by omega)]; decide), if_neg (by rw [h0 3 (by omega) (by omega)]; decide), if_neg (by rw [h0 4 (by omega) (by omega)]; decide)]
theorem P_wayTo {r : TR} {h : TH} {b c : Nat} {B : By} {x : Int32} {Q : Int32 → TH → Prop} (hr : RBa r b) (hO : BayOK h b B) (hB : ByB B) (hc : c < 40) (hx : ¬ x < 0) (hQ : Q (firstW (toV B (h.1 (b + 2)) x c)) h) : D_Bay_wayTo r b (nI c) x h Q := by
  unfold D_Bay_wayTo
  refine lp_for 4 (fun j t => t = (nI (1 + j), h) ∧ ∀ i, 1 ≤ i → i < 1 + j → toV B (h.1 (b + 2)) x c i = false) ?_ ?_ _ ⟨rfl, fun i _ _ => by omega⟩
  · rintro j t K hj ⟨rfl, h0⟩ hK
    have st : toV B (h.1 (b + 2)) x c (1 + j) = false → ∀ y : Int32, y = nI (1 + j) + 1 → K (y, h) := by
      intro z y e
      rw [nI_1] at e; subst e
      refine hK _ ⟨rfl, fun i h1 h2 => ?_⟩
      by_cases e : i = 1 + j
      · rw [e]; exact z
      · exact h0 i h1 (by omega)
    unfold DB_Bay_wayTo_2
    refine ⟨fun q => absurd ((nI_leI (a := 5) (by omega) (by omega)).mp q) (by omega), fun _ => ⟨fun z => absurd z hx, fun _ => ?_⟩⟩
    refine P_beside hO.1 hO.2.1 hB.1 hB.2.1 hc (by omega) ?_
    cases hb : besF (bW B) (bH B) c (1 + j) with
    | none =>
      refine ⟨fun _ => st ?_, fun z => absurd rfl z⟩
      unfold toV; rw [hb]
    | some d =>
      have hd := besF_lt hB.1 hB.2.1 hb
      refine ⟨fun z => absurd z (nI_nm1 (show d < 2 ^ 31 by omega)), fun _ => ?_⟩
      show vp_in (nI d) 40 ∧ _
      rw [hr.1.2.1, show (optI (some d)).toNatClampNeg = d from nI_clamp (n := d) (by omega)]
      refine ⟨vp_in_nI hd.1 (by omega), fun z => st ?_, fun z => ?_⟩
      · unfold toV; rw [hb]; exact decide_eq_false z
      · rw [firstW_at (j := 1 + j) (by omega) (by omega) (by unfold toV; rw [hb]; exact decide_eq_true z) h0] at hQ
        exact hQ
  · rintro t K ⟨rfl, h0⟩
    unfold DB_Bay_wayTo_2
    refine ⟨fun _ => ?_, fun q => absurd (show (5 : Int32) ≤ nI (1 + 4) from Int32.le_refl _) q⟩
    rw [firstW_no (fun i a b => h0 i a (by omega))] at hQ
    exact hQ
theorem optI_nI {o : Option Nat} {x : Nat} (hx : x < 2 ^ 31) (ho : ∀ y, o = some y → y < 2 ^ 31) : optI o = nI x ↔ o = some x := by
  cases o with
  | none => exact ⟨fun z => absurd z.symm (nI_nm1 hx), fun z => absurd z (by simp)⟩
  | some y =>
    have := ho y rfl
    exact ⟨fun z => by rw [(nI_eq this hx).mp z], fun z => by cases z; rfl⟩
/-- values of one level, the first c cells of the next -/
def lvF (B : By) (n c : Nat) (i : Nat) : Option Nat := if i < c then farUp B (n + 1) i else farUp B n i
theorem lvF_n {B : By} {n c d : Nat} : lvF B n c d = some n ↔ farUp B n d = some n := by
  unfold lvF
  split
  · exact ⟨fun z => farUp_old (Nat.le_refl _) z, fun z => farUp_s z⟩
  · exact Iff.rfl
theorem lvF_le {B : By} {n c d x : Nat} (h : lvF B n c d = some x) : x ≤ n + 1 := by
  unfold lvF at h
  split at h
  · exact farUp_le _ h
  · have := farUp_le _ h; omega
theorem lv_next {B : By} (hB : ByB B) {n c : Nat} {v : Nat → Int32} (hn : n < 100) (hv : ∀ i, i < 40 → v i = optI (lvF B n c i)) (w : Nat) : toV B v (nI n) c w = (match besF (bW B) (bH B) c w with
    | none => false
    | some d => farUp B n d == some n) := by
  unfold toV
  cases hb : besF (bW B) (bH B) c w with
  | none => rfl
  | some d =>
    have hd := besF_lt hB.1 hB.2.1 hb
    show decide (v d = nI n) = (farUp B n d == some n)
    rw [hv d hd.1]
    have e1 := optI_nI (o := lvF B n c d) (x := n) (by omega) (fun y hy => by have := lvF_le hy; omega)
    have e2 := lvF_n (B := B) (n := n) (c := c) (d := d)
    by_cases z : farUp B n d = some n
    · rw [decide_eq_true (e1.mpr (e2.mpr z)), z]; simp
    · rw [decide_eq_false (fun q => z (e2.mp (e1.mp q)))]
      cases hq : farUp B n d with
      | none => rfl
      | some y => rw [hq] at z; symm; simpa using z
theorem nextTo_any {B : By} (hB : ByB B) {n c : Nat} {v : Nat → Int32} (hn : n < 100) (hv : ∀ i, i < 40 → v i = optI (lvF B n c i)) : (firstW (toV B v (nI n) c) = -1 ↔ nextTo B (farUp B n) c n = false) := by
  have e := lv_next hB hn hv
  unfold nextTo
  rw [List.any_eq_false]
  refine ⟨fun z w hw => ?_, fun z => firstW_no (fun i a b => ?_)⟩
  · intro q
    have q' : toV B v (nI n) c w = true := by rw [e w]; exact q
    have hw' : 1 ≤ w ∧ w ≤ 4 := by simp at hw; omega
    obtain ⟨k, hk, hmin⟩ := pk_least (fun k => 1 ≤ k ∧ k ≤ 4 ∧ toV B v (nI n) c k = true) ⟨w, hw'.1, hw'.2, q'⟩
    have := firstW_at hk.1 hk.2.1 hk.2.2 (fun i a b => by
      cases hq : toV B v (nI n) c i with
      | true => exact absurd ⟨a, by omega, hq⟩ (hmin i b)
      | false => rfl)
    rw [this] at z
    exact nI_nm1 (by omega) z
  · have := z i (by simp; omega)
    rw [e i]
    cases hq : (match besF (bW B) (bH B) c i with
      | none => false
      | some d => farUp B n d == some n) with
    | true => exact absurd hq this
    | false => rfl
/-- the class fills in the steps -/
theorem P_chart {r : TR} {h : TH} {b : Nat} {B : By} {Q : TH → Prop} (hr : RBa r b) (hO : BayOK h b B) (hB : ByB B) (hQ : ∀ h', Fr (fun a => a = b + 2) h h' → (∀ c, c < 40 → h'.1 (b + 2) c = optI (farF B c)) → Q h') : D_Bay_chart r b h Q := by
  have kk : ∀ {h' : TH}, Fr (fun a => a = b + 2) h h' → BayOK h' b B := by
    intro h' f
    obtain ⟨o1, o2, o3, o4, o5, o6, o7, o8, o9, o10, o11⟩ := hO
    have z : ∀ a, ¬ a = b + 2 → h'.1 a = h.1 a := fun a ha => (f a ha).1
    refine ⟨?_, ?_, ?_, ?_, ?_, ?_, ?_, o8.mv ?_ ?_ ?_, o9.mv ?_ ?_ ?_, o10.mv ?_ ?_ ?_, ?_⟩
    · rw [z b (by omega)]; exact o1
    · rw [z b (by omega)]; exact o2
    · rw [z b (by omega)]; exact o3
    · rw [z b (by omega)]; exact o4
    · rw [z b (by omega)]; exact o5
    · rw [z (b + 1) (by omega)]; exact o6
    · rw [z (b + 4) (by omega), z (b + 5) (by omega), z (b + 6) (by omega), z (b + 7) (by omega)]; exact o7
    · rw [z _ (by omega)]
    · rw [z _ (by omega)]
    · rw [z _ (by omega)]
    · rw [z _ (by omega)]
    · rw [z _ (by omega)]
    · rw [z _ (by omega)]
    · rw [z _ (by omega)]
    · rw [z _ (by omega)]
    · rw [z _ (by omega)]
    · rw [z (b + 9) (by omega), z (b + 19) (by omega)]; exact o11
  have k3 : ∀ c, c < 40 → bK B c ≤ 3 := fun c hc => by have := hB.2.2.2.2.2.1 c hc; split at this <;> omega
  unfold D_Bay_chart
  refine lp_for 40 (fun c t => ∃ h', t = (nI c, h') ∧ Fr (fun a => a = b + 2) h h' ∧ ∀ i, i < c → h'.1 (b + 2) i = optI (farUp B 0 i)) ?_ ?_ _ ⟨h, rfl, Fr.rf, fun i hi => absurd hi (Nat.not_lt_zero _)⟩
  · rintro c t K hc ⟨h', rfl, f', v'⟩ hK
    have st : ∀ x : Int32, x = optI (farUp B 0 c) → ∀ h6, h6 = pI h' (b + 2) c x → ∀ y : Int32, y = nI c + 1 → K (y, h6) := by
      intro x ex h6 e6 y ey
      rw [nI_1] at ey; subst ey
      refine hK _ ⟨h6, rfl, f'.tr (by rw [e6]; exact Fr.pI rfl), fun i hi => ?_⟩
      by_cases e : i = c
      · rw [e6, e, pI_s, ex]
      · rw [e6, pI_n _ _ _ _ (by omega)]; exact v' i (by omega)
    unfold DB_Bay_chart_2
    rw [hr.1.1, hr.1.2.1, nI_clamp (n := c) (by omega), (kk f').2.2.2.2.2.1 c hc]
    refine ⟨fun q => absurd ((nI_leI (a := 40) (by omega) (by omega)).mp q) (by omega), fun _ => ⟨vp_in_nI hc (by omega), fun z => ⟨vp_in_nI hc (by omega), st (-1) ?_⟩, fun z => ⟨vp_in_nI hc (by omega), st 0 ?_⟩⟩⟩
    · unfold farUp
      rw [if_neg (fun e => z (by rw [e]; rfl))]; rfl
    · unfold farUp
      have := k3 c hc
      rw [if_pos ((nI_eq (b := 2) (by omega) (by omega)).mp z)]; rfl
  · rintro t K ⟨h', rfl, f', v'⟩
    unfold DB_Bay_chart_2
    refine ⟨fun _ => ?_, fun q => absurd (show (40 : Int32) ≤ nI 40 from Int32.le_refl _) q⟩
    refine lp_for 40 (fun n t => ∃ h' fd, t = (fd, nI (1 + n), h') ∧ Fr (fun a => a = b + 2) h h' ∧ (∀ i, i < 40 → h'.1 (b + 2) i = optI (farUp B n i)) ∧ (fd = 0 → ∀ i, i < 40 → farUp B n i = farUp B 40 i) ∧ (fd = 0 ∨ fd = 1)) ?_ ?_ _ ⟨h', 1, rfl, f', v', fun z => absurd z z01, Or.inr rfl⟩
    · rintro n t K hn ⟨h1, fd, rfl, f1, v1, s1, d1⟩ hK
      unfold DB_Bay_chart_39
      refine ⟨fun q => absurd ((nI_ltI (a := 40) (by omega) (by omega)).mp q) (by omega), fun _ => ⟨fun z => hQ h1 f1 (fun c hc => by rw [v1 c hc, s1 z c hc]; rfl), fun z => ?_⟩⟩
      have e1n : nI (1 + n) - 1 = nI n := by rw [nI_s1 (by omega)]; congr 1; omega
      refine lp_for 40 (fun c t => ∃ h2 fd2, t = (fd2, nI c, h2) ∧ Fr (fun a => a = b + 2) h h2 ∧ (∀ i, i < 40 → h2.1 (b + 2) i = optI (lvF B n c i)) ∧ (fd2 = 0 → ∀ i, i < c → ¬ farUp B (n + 1) i = some (n + 1)) ∧ (fd2 = 0 ∨ fd2 = 1)) ?_ ?_ _ ⟨h1, 0, rfl, f1, fun i hi => ?_, fun _ i hi => absurd hi (Nat.not_lt_zero _), Or.inl rfl⟩
      · rintro c t K2 hc ⟨h2, fd2, rfl, f2, v2, s2, d2⟩ hK2
        have O2 := kk f2
        have stay : farUp B (n + 1) c = farUp B n c → ∀ y : Int32, y = nI c + 1 → K2 (fd2, y, h2) := by
          intro e y ey
          rw [nI_1] at ey; subst ey
          refine hK2 _ ⟨h2, fd2, rfl, f2, fun i hi => ?_, fun z i hi => ?_, d2⟩
          · rw [v2 i hi]
            unfold lvF
            by_cases ei : i = c
            · subst ei
              rw [if_neg (by omega), if_pos (by omega), e]
            · by_cases q : i < c
              · rw [if_pos q, if_pos (by omega)]
              · rw [if_neg q, if_neg (by omega)]
          · by_cases ei : i = c
            · subst ei
              rw [e]
              intro q
              have := farUp_le _ q
              omega
            · exact s2 z i (by omega)
        have lc : lvF B n c c = farUp B n c := by unfold lvF; rw [if_neg (by omega)]
        unfold DB_Bay_chart_53
        show ((40 ≤ nI c → _) ∧ _)
        rw [hr.1.1, hr.1.2.1, nI_clamp (n := c) (by omega), O2.2.2.2.2.2.1 c hc, v2 c hc, lc]
        refine ⟨fun q => absurd ((nI_leI (a := 40) (by omega) (by omega)).mp q) (by omega), fun _ => ⟨vp_in_nI hc (by omega), fun z => stay ?_, fun z => ⟨vp_in_nI hc (by omega), fun y => stay ?_, fun y => ?_⟩⟩⟩
        · cases hq : farUp B n c with
          | some x => exact farUp_s hq
          | none => rw [farUp_n hq, if_neg (fun w => z (by rw [w.1]; rfl))]
        · cases hq : farUp B n c with
          | some x => exact farUp_s hq
          | none => rw [hq] at y; exact absurd rfl y
        · have hq : farUp B n c = none := by
            cases hq : farUp B n c with
            | some x =>
              rw [hq] at y
              have := farUp_le _ hq
              exact absurd y (nI_nm1 (show x < 2 ^ 31 by omega))
            | none => rfl
          have k0 := (nI_eq (b := 0) (by have := k3 c hc; omega) (by omega)).mp z
          have na := nextTo_any hB (n := n) (c := c) (v := h2.1 (b + 2)) (by omega) v2
          rw [e1n]
          refine P_wayTo hr O2 hB hc (nI_pos (by omega)) ⟨fun w => stay ?_, fun w => ⟨vp_in_nI hc (by omega), fun h31 e31 x33 e33 => ?_⟩⟩
          · rw [farUp_n hq, if_neg (fun q => by rw [na.mp w] at q; exact absurd q.2 (by decide)), hq]
          · have nx : farUp B (n + 1) c = some (n + 1) := by
              have nt : nextTo B (farUp B n) c n = true := by
                cases hx : nextTo B (farUp B n) c n with
                | true => rfl
                | false => exact absurd (na.mpr hx) w
              rw [farUp_n hq, if_pos ⟨k0, nt⟩]
            rw [nI_1] at e33; subst e33
            refine hK2 _ ⟨h31, 1, rfl, f2.tr (by rw [e31]; exact Fr.pI rfl), fun i hi => ?_, fun z => absurd z z01, Or.inr rfl⟩
            unfold lvF
            by_cases ei : i = c
            · subst ei
              rw [e31, pI_s, if_pos (by omega), nx]
              show nI (1 + n) = nI (n + 1)
              congr 1; omega
            · rw [e31, pI_n _ _ _ _ (by omega), v2 i hi]
              unfold lvF
              by_cases q : i < c
              · rw [if_pos q, if_pos (by omega)]
              · rw [if_neg q, if_neg (by omega)]
      · rintro t K2 ⟨h2, fd2, rfl, f2, v2, s2, d2⟩
        unfold DB_Bay_chart_53
        refine ⟨fun _ x e => ?_, fun q => absurd (show (40 : Int32) ≤ nI 40 from Int32.le_refl _) q⟩
        rw [nI_1] at e; subst e
        refine hK _ ⟨h2, fd2, by rw [show 1 + n + 1 = 1 + (n + 1) by omega], f2, fun i hi => ?_, fun z i hi => ?_, d2⟩
        · rw [v2 i hi]; unfold lvF; rw [if_pos hi]
        · have st := farUp_stop hB (n := n) (fun c hc => s2 z c hc)
          have a1 := st 1 i hi
          have a2 := st (40 - n) i hi
          rw [show n + (40 - n) = 40 by omega] at a2
          rw [a1, a2]
      · rw [v1 i hi]; unfold lvF; rw [if_neg (by omega)]
    · rintro t K ⟨h1, fd, rfl, f1, v1, s1, d1⟩
      unfold DB_Bay_chart_39
      exact ⟨fun _ => hQ h1 f1 v1, fun q => absurd (nI_lt (a := 40) (by omega) (by omega)) q⟩
