/-! hidden: the reference's side -/
def exF (p : Nat → Bool) : Nat → Bool
  | 0 => false
  | j + 1 => exF p j || p j
theorem exF_t {p : Nat → Bool} {j : Nat} (h : p j = true) : ∀ n, j < n → exF p n = true := by
  intro n
  induction n with
  | zero => intro q; omega
  | succ n ih =>
    intro hj
    unfold exF
    rcases Nat.lt_or_ge j n with q | q
    · rw [ih q]; rfl
    · have : j = n := by omega
      subst this; rw [h, Bool.or_true]
theorem exF_x {p : Nat → Bool} : ∀ n, exF p n = true → ∃ j, j < n ∧ p j = true := by
  intro n
  induction n with
  | zero => intro h; exact absurd (show false = true from h) (by decide)
  | succ n ih =>
    intro h
    unfold exF at h
    rw [Bool.or_eq_true] at h
    rcases h with h | h
    · obtain ⟨j, a, b⟩ := ih h; exact ⟨j, by omega, b⟩
    · exact ⟨n, by omega, h⟩
theorem bf_of {b : Bool} (h : ¬ b = true) : b = false := by cases b with | true => exact absurd rfl h | false => rfl
theorem exF_f {p : Nat → Bool} {n : Nat} (h : exF p n = false) {j : Nat} (hj : j < n) : p j = false := bf_of (fun q => absurd (exF_t q n hj) (by rw [h]; decide))
theorem exF_no {p : Nat → Bool} {n : Nat} (h : ∀ j, j < n → p j = false) : exF p n = false := bf_of (fun q => by obtain ⟨j, a, b⟩ := exF_x n q; rw [h j a] at b; exact absurd b (by decide))
def nbB (B : By) (R c w : Nat) : Bool := match besF (bW B) (bH B) c w with
  | none => false
  | some d => R.testBit d
theorem nbB_n {B : By} {R c w : Nat} (h : besF (bW B) (bH B) c w = none) : nbB B R c w = false := by unfold nbB; rw [h]
theorem nbB_s {B : By} {R c w d : Nat} (h : besF (bW B) (bH B) c w = some d) : nbB B R c w = R.testBit d := by unfold nbB; rw [h]
def cmF (B : By) (R c : Nat) : Bool := R.testBit c || exF (fun j => nbB B R c (j + 1)) 4
theorem P_comesTo {r : TR} {h : TH} {m L c R : Nat} {rk : Int32} {B : By} {Q : Int32 → TH → Prop} (hr : RMo r m) (hO : MBay h m L rk B) (hB : ByB B) (hc : c < 40) (hcb : ∀ i, i < 40 → h.1 (m + 36) i = (if R.testBit i = true then 1 else 0)) (h1 : cmF B R c = true → Q 1 h) (h0 : cmF B R c = false → Q 0 h) : D_Mo_comesTo r m (nI c) h Q := by
  have r57 : r m 57 = m + 36 := hr 57 (by decide) (by decide)
  unfold D_Mo_comesTo
  rw [r57, nI_clamp (n := c) (by omega), hcb c hc]
  refine ⟨vp_in_nI hc (by omega), fun y => ?_, fun y => ?_⟩
  · have hb : R.testBit c = false := by
      cases q : R.testBit c with
      | true => rw [q] at y; exact absurd y (by decide)
      | false => rfl
    refine lp_for 4 (fun j t => t = (nI (1 + j), h) ∧ exF (fun j => nbB B R c (j + 1)) j = false) ?_ ?_ _ ⟨rfl, rfl⟩
    · rintro j t K hj ⟨rfl, ex⟩ hK
      have e1j : 1 + j = j + 1 := by omega
      unfold DB_Mo_comesTo_13
      rw [r57, (jd8 hc).1, (jd8 hc).2]
      refine ⟨fun q => absurd ((nI_ltI (a := 4) (by omega) (by omega)).mp q) (by omega), fun _ => ?_⟩
      refine P_eastBy (by omega) (fun x7 e7 => P_southBy (by omega) (fun x10 e10 => ?_))
      subst e7; subst e10
      have no : nbB B R c (j + 1) = false → ∀ y : Int32, y = nI (1 + j) + 1 → K (y, h) := fun z y ey => by
        have : y = nI (1 + (j + 1)) := by rw [ey, nI_1]; congr 1
        subst this
        refine hK _ ⟨rfl, ?_⟩
        show (exF (fun j => nbB B R c (j + 1)) j || nbB B R c (j + 1)) = false
        rw [ex, z]; rfl
      refine P_stepM hr hO hB hc (fun d hd ex1 ey1 => ⟨fun q => absurd q z01, fun _ i16 e16 => ?_⟩) (fun hd => ⟨fun _ => no (nbB_n (by rw [← e1j]; exact hd)), fun q => absurd rfl q⟩)
      have hd40 := (besF_lt hB.1 hB.2.1 hd).1
      rw [e1j] at hd
      rw [ex1, ey1] at e16
      have : i16 = nI d := by rw [e16]; show nI 8 * nI (d / 8) + nI (d % 8) = nI d; rw [pk_mul, nI_add]; congr 1; omega
      subst this
      rw [nI_clamp (n := d) (by omega), hcb d hd40]
      refine ⟨vp_in_nI hd40 (by omega), fun y2 => no ?_, fun y2 => h1 ?_⟩
      · rw [nbB_s hd]
        cases q : R.testBit d with
        | true => rw [q] at y2; exact absurd y2 (by decide)
        | false => rfl
      · unfold cmF
        have : nbB B R c (j + 1) = true := by
          rw [nbB_s hd]
          cases q : R.testBit d with
          | true => rfl
          | false => rw [q] at y2; exact absurd rfl y2
        rw [exF_t (p := fun j => nbB B R c (j + 1)) this 4 hj, Bool.or_true]
    · rintro t K ⟨rfl, ex⟩
      unfold DB_Mo_comesTo_13
      refine ⟨fun _ => h0 ?_, fun q => absurd (nI_lt (a := 4) (by omega) (by omega)) q⟩
      unfold cmF
      rw [hb, ex]; rfl
  · refine h1 ?_
    unfold cmF
    cases q : R.testBit c with
    | true => rfl
    | false => rw [q] at y; exact absurd rfl y
/-- some boat sails in the cell -/
def bcF (S : Sc) (n c : Nat) : Bool := exF (fun o => sail S o && decide (sC S o = c)) n
theorem P_smb77 {r : TR} {h : TH} {m L k d : Nat} {rk l5 l6 : Int32} {B : By} {S : Sc} {K27 : Int32 → Int32 → Int32 → TH → Prop} {K140 K164 : TH → Prop} {Q : Int32 → TH → Prop} (hr : RMo r m) (hO : MBay h m L rk B) (hB : ByB B) (hR : RowOK (h.1 (m + 32)) (bN B) (nI k) S) (hw : h.1 m 51 = nI k) (hP : ScP (bN B) S) (hk : k < bN B) (hSB : ScB S) (hd : d < 40) (h1 : bcF S (bN B) d = true → Q 1 h) (h0 : bcF S (bN B) d = false → K140 h) : ∃ n, lp (fun (K : Int32 × TH → Prop) (s : Int32 × TH) => DB_Mo_isSmeltBy_77 r m (nI k) (nI (d % 8)) (nI (d / 8)) l5 l6 s.1 s.2 K27 (fun y32 h33 => K (y32, h33)) K140 K164 Q) n (0, h) := by
  have hn := hB.2.2.1
  have hL := hO.2.1
  have r25 : r m 25 = m + 12 := hr 25 (by decide) (by decide)
  have r49 : r m 49 = m + 32 := hr 49 (by decide) (by decide)
  refine lp_for (bN B) (fun o t => t = (nI o, h) ∧ exF (fun o => sail S o && decide (sC S o = d)) o = false) ?_ ?_ _ ⟨rfl, rfl⟩
  · rintro o t K ho ⟨rfl, ex⟩ hK
    have no : (sail S o && decide (sC S o = d)) = false → ∀ y : Int32, y = nI o + 1 → K (y, h) := fun z y ey => by
      rw [nI_1] at ey; subst ey
      refine hK _ ⟨rfl, ?_⟩
      show (exF (fun o => sail S o && decide (sC S o = d)) o || (sail S o && decide (sC S o = d))) = false
      rw [ex, z]; rfl
    unfold DB_Mo_isSmeltBy_77
    intro i17 e17
    rw [hO.1] at e17
    subst e17
    rw [r25, nI_clamp (n := L) (by omega), hO.2.2.2.2.2.1]
    refine ⟨vp_in_nI hL (by omega), fun q => absurd ((nI_leI (by omega) (by omega)).mp q) (by omega), fun _ => ⟨fun q => no ?_, fun q => ?_⟩⟩
    · have e := (nI_eq (by omega) (by omega)).mp q
      have l := (hR.2.2.1 k hk).2.2.2.1 rfl
      have : sail S o = false := by rw [e]; unfold sail; rw [l]; rfl
      rw [this]; rfl
    · refine P_Mo_isSailing hr hR hw hP hn ho (fun y => ⟨fun z => absurd z z01, fun _ => ?_⟩) (fun y => ⟨fun _ => no (by rw [y]; rfl), fun z => absurd rfl z⟩)
      have g := hR.2.2.1 o ho
      have hc := hSB.2.2.2.2.1 o (by omega)
      rw [r49, nI_clamp (n := o) (by omega), g.1]
      refine ⟨vp_in_nI (by omega) (by omega), fun z => no ?_, fun z i29 e29 => ?_⟩
      · rw [decide_eq_false (fun e => z (by rw [e])), Bool.and_false]
      · have e' : i29 = nI (6 + o) := by rw [e29]; exact nI_add 6 o
        subst e'
        rw [nI_clamp (n := 6 + o) (by omega), g.2.1]
        refine ⟨vp_in_nI (by omega) (by omega), fun z2 => no ?_, fun z2 => h1 ?_⟩
        · rw [decide_eq_false (fun e => z2 (by rw [e])), Bool.and_false]
        · have a := (nI_eq (by omega) (by omega)).mp z
          have b := (nI_eq (by omega) (by omega)).mp z2
          exact exF_t (p := fun o => sail S o && decide (sC S o = d)) (by rw [y, decide_eq_true (show sC S o = d by omega)]; rfl) _ ho
  · rintro t K ⟨rfl, ex⟩
    unfold DB_Mo_isSmeltBy_77
    intro i17 e17
    rw [hO.1] at e17
    subst e17
    rw [r25, nI_clamp (n := L) (by omega), hO.2.2.2.2.2.1]
    exact ⟨vp_in_nI hL (by omega), fun _ => h0 ex, fun q => absurd (Int32.le_refl _) q⟩
/-- some boat sails where a dish would be laid -/
def htF (B : By) (w : Nat) (p : Nat → Bool) : Nat → Option Nat → Bool
  | 0, _ => false
  | _ + 1, none => false
  | n + 1, some c => p c || htF B w p n (downF B c w)
theorem htF_none (B : By) (w : Nat) (p : Nat → Bool) (n : Nat) : htF B w p n none = false := by cases n <;> rfl
theorem P_isSmeltBy {r : TR} {h : TH} {m L k c : Nat} {rk : Int32} {B : By} {S : Sc} {Q : Int32 → TH → Prop} (hr : RMo r m) (hO : MBay h m L rk B) (hB : ByB B) (hR : RowOK (h.1 (m + 32)) (bN B) (nI k) S) (hw : h.1 m 51 = nI k) (hP : ScP (bN B) S) (hk : k < bN B) (hSB : ScB S) (hc : c < 40) (hcx : c % 8 < bW B) (hcy : c / 8 < bH B)
    (h1 : ∀ h', Fr (fun a => a = m ∨ a = m + 29 ∨ a = m + 30) h h' → MK m h h' → htF B (windF B (sH S)) (bcF S (bN B)) (bS B k + 1) (some c) = true → Q 1 h')
    (h0 : ∀ h', Fr (fun a => a = m ∨ a = m + 29 ∨ a = m + 30) h h' → MK m h h' → htF B (windF B (sH S)) (bcF S (bN B)) (bS B k + 1) (some c) = false → Q 0 h') : D_Mo_isSmeltBy r m (nI k) (nI c) h Q := by
  have hn := hB.2.2.1
  have hL := hO.2.1
  have hst := (hB.2.2.2.2.2.2.1 k hk).2.2.1
  have r49 : r m 49 = m + 32 := hr 49 (by decide) (by decide)
  have r28 : r m 28 = m + 15 := hr 28 (by decide) (by decide)
  have z30 : (30 : Int32).toNatClampNeg = 30 := by decide
  have ww := way4_le (tellsF (windV (sH S)) (bPW B))
  have hw8 : windF B (sH S) < 8 := by unfold windF; omega
  unfold D_Mo_isSmeltBy
  intro x1 e1 x2 e2
  rw [(jd8 hc).1] at e1
  rw [(jd8 hc).2] at e2
  subst e1; subst e2
  rw [r49, z30, hR.1]
  refine P_windIn hr hO (fun h4 f4 k4 => ?_)
  have O4 := hO.mk k4
  have R4 : RowOK (h4.1 (m + 32)) (bN B) (nI k) S := by rw [(f4 (m + 32) (by omega)).1]; exact hR
  have w4 : h4.1 m 51 = nI k := by rw [k4.2 51 (by omega)]; exact hw
  have q1 := h1 h4 f4 k4
  have q0 := h0 h4 f4 k4
  generalize windF B (sH S) = w at q1 q0 hw8 ⊢
  have s4 : ∀ i : Int32, i = 6 * h4.1 m 18 + nI k → i = nI (6 * L + k) := fun i e => by rw [e, O4.1]; show nI 6 * nI L + nI k = _; rw [pk_mul, nI_add]
  have st4 := (O4.2.2.2.2.2.2.2.2.2.1 k hk).2.2.1
  refine lp_for (bS B k + 1) (fun i t => (i = 0 ∧ t = (nI (c % 8), nI (c / 8), nI 0, h4)) ∨ (0 < i ∧ ∃ c', c' < 40 ∧ t = (nI (c' % 8) + eI w, nI (c' / 8) + soI w, nI i, h4) ∧ htF B w (bcF S (bN B)) (bS B k + 1) (some c) = htF B w (bcF S (bN B)) (bS B k + 1 - i) (downF B c' w))) ?_ ?_ _ (Or.inl ⟨rfl, rfl⟩)
  · rintro i t K hi ht hK
    have nx : ∀ e, e < 40 → htF B w (bcF S (bN B)) (bS B k + 1) (some c) = htF B w (bcF S (bN B)) (bS B k + 1 - i) (some e) → bcF S (bN B) e = false → ∀ X Y Z : Int32, X = nI (e % 8) + eI w → Y = nI (e / 8) + soI w → Z = nI i + 1 → K (X, Y, Z, h4) := by
      intro e he eq hb X Y Z eX eY eZ
      subst eX; subst eY
      rw [nI_1] at eZ; subst eZ
      refine hK _ (Or.inr ⟨by omega, e, he, rfl, ?_⟩)
      rw [eq, show bS B k + 1 - i = (bS B k + 1 - (i + 1)) + 1 by omega]
      show (bcF S (bN B) e || htF B w (bcF S (bN B)) (bS B k + 1 - (i + 1)) (downF B e w)) = _
      rw [hb]; rfl
    have yes : ∀ e, htF B w (bcF S (bN B)) (bS B k + 1) (some c) = htF B w (bcF S (bN B)) (bS B k + 1 - i) (some e) → bcF S (bN B) e = true → Q 1 h4 := by
      intro e eq hb
      refine q1 ?_
      rw [eq, show bS B k + 1 - i = (bS B k + 1 - (i + 1)) + 1 by omega]
      show (bcF S (bN B) e || htF B w (bcF S (bN B)) (bS B k + 1 - (i + 1)) (downF B e w)) = _
      rw [hb]; rfl
    rcases ht with ⟨rfl, rfl⟩ | ⟨i0, c', hc', rfl, eq⟩
    · unfold DB_Mo_isSmeltBy_27
      intro i9 e9
      rw [s4 i9 e9, r28, nI_clamp (n := 6 * L + k) (by omega), st4]
      refine ⟨vp_in_nI (by omega) (by omega), fun q => absurd ((nI_ltI (b := 0) (by omega) (by omega)).mp q) (by omega), fun _ => ?_⟩
      refine P_isCell hr O4 hB (by omega) (by omega) (fun _ _ => ⟨fun z => absurd z z01, fun _ => ⟨fun _ => ?_, fun z => absurd (Int32.le_refl _) z⟩⟩) (fun z => absurd ⟨hcx, hcy⟩ z)
      refine P_smb77 hr O4 hB R4 w4 hP hk hSB hc (fun y => yes c rfl y) (fun y => ?_)
      exact P_eastBy (by omega) (fun x37 e37 => P_southBy (by omega) (fun x40 e40 x41 e41 => nx c hc rfl y _ _ _ e37 e40 e41))
    · unfold DB_Mo_isSmeltBy_27
      intro i9 e9
      rw [s4 i9 e9, r28, nI_clamp (n := 6 * L + k) (by omega), st4]
      refine ⟨vp_in_nI (by omega) (by omega), fun q => absurd ((nI_ltI (by omega) (by omega)).mp q) (by omega), fun _ => ?_⟩
      refine P_stepM hr O4 hB hc' (fun e he ex ey => ⟨fun z => absurd z z01, fun _ => ⟨fun z => absurd z (nI_nle i0 (by omega)), fun _ => ?_⟩⟩) (fun he => ⟨fun _ => q0 ?_, fun z => absurd rfl z⟩)
      · have he' := besF_lt hB.1 hB.2.1 he
        have kd := bK_le hB he'.1
        have e37' : ∀ X : Int32, X = nI (c' % 8) + eI w + eI w → X = nI (e % 8) + eI w := fun X eX => by rw [eX, ex]
        have e40' : ∀ X : Int32, X = nI (c' / 8) + soI w + soI w → X = nI (e / 8) + soI w := fun X eX => by rw [eX, ey]
        rw [ex, ey]
        refine P_sortAt hr O4 he'.1 he'.2.1 he'.2.2 ⟨fun y => ?_, fun y => q0 ?_⟩
        · have eq' : htF B w (bcF S (bN B)) (bS B k + 1) (some c) = htF B w (bcF S (bN B)) (bS B k + 1 - i) (some e) := by
            rw [eq]
            unfold downF
            rw [he]
            show htF B w (bcF S (bN B)) (bS B k + 1 - i) (if bK B e = 1 then none else some e) = _
            rw [if_neg (fun z => y (by rw [z]; rfl))]
          refine P_smb77 hr O4 hB R4 w4 hP hk hSB he'.1 (fun y => yes e eq' y) (fun y => ?_)
          exact P_eastBy (by omega) (fun x37 e37 => P_southBy (by omega) (fun x40 e40 x41 e41 => nx e he'.1 eq' y _ _ _ e37 e40 e41))
        · rw [eq]
          unfold downF
          rw [he]
          show htF B w (bcF S (bN B)) (bS B k + 1 - i) (if bK B e = 1 then none else some e) = _
          rw [if_pos ((nI_eq (b := 1) (by omega) (by omega)).mp y), htF_none]
      · rw [eq]
        unfold downF
        rw [he, htF_none]
  · rintro t K ht
    have : ∃ X Y : Int32, t = (X, Y, nI (bS B k + 1), h4) ∧ htF B w (bcF S (bN B)) (bS B k + 1) (some c) = false := by
      rcases ht with ⟨z, -⟩ | ⟨-, c', -, rfl, eq⟩
      · omega
      · refine ⟨_, _, rfl, ?_⟩
        rw [eq, Nat.sub_self]; rfl
    obtain ⟨X, Y, rfl, hz⟩ := this
    unfold DB_Mo_isSmeltBy_27
    intro i9 e9
    rw [s4 i9 e9, r28, nI_clamp (n := 6 * L + k) (by omega), st4]
    exact ⟨vp_in_nI (by omega) (by omega), fun _ => q0 hz, fun q => absurd (nI_lt (a := bS B k) (by omega) (by omega)) q⟩
