/-! an hour: the reference's side -/
theorem mBits1 : ∀ m : Fin 64, ∀ k : Fin 6, ((nI m.1 >>> (nI k.1 &&& 31)) &&& 1) = nI (m.1 / 2 ^ k.1 % 2) := by decide +kernel
def pcUp (m : Nat) : Nat → Nat
  | 0 => 0
  | j + 1 => pcUp m j + m / 2 ^ j % 2
theorem P_bits {r : TR} {m : Nat} {h : TH} {Q : Int32 → TH → Prop} (hm : m < 64) (hQ : Q (nI (popc m)) h) : D_Mo_bits r (nI m) h Q := by
  unfold D_Mo_bits
  refine lp_for 6 (fun j s => s = (nI (pcUp m j), nI j, h)) ?_ ?_ _ rfl
  · rintro j s K hj rfl hK
    unfold DB_Mo_bits_4
    refine ⟨fun q => absurd ((nI_leI (a := 6) (by omega) (by omega)).mp q) (by omega), fun _ x4 e4 x5 e5 => ?_⟩
    have hb := mBits1 ⟨m, hm⟩ ⟨j, hj⟩
    rw [hb, nI_add] at e4
    rw [nI_1] at e5
    subst e4; subst e5
    exact hK _ rfl
  · rintro s K rfl
    unfold DB_Mo_bits_4
    refine ⟨fun _ => ?_, fun q => absurd (show (6 : Int32) ≤ nI 6 from Int32.le_refl _) q⟩
    have e : pcUp m 6 = popc m := by
      unfold popc
      simp only [pcUp]
      omega
    show Q (nI (pcUp m 6)) h
    rw [e]
    exact hQ
theorem P_Mo_smellsOf {r : TR} {h : TH} {m L n k : Nat} {wo rk seed : Int32} {B : By} {S : Sc} {Q : Int32 → TH → Prop} (hr : RMo r m) (hO : MBay h m L rk B) (hB : ByB B) (hn : n = bN B) (hR : RowOK (h.1 (m + 32)) n wo S) (hw : h.1 m 51 = wo) (hs : h.1 m 50 = seed) (hSB : ScB S) (hP : ScP n S) (hk : k < n) (hQ : Q (nI (smells B S seed k)) h) : D_Mo_smellsOf r m (nI k) h Q := by
  have hn6 : n ≤ 6 := by rw [hn]; exact hB.2.2.1
  have r49 : r m 49 = m + 32 := hr 49 (by decide) (by decide)
  have r25 : r m 25 = m + 12 := hr 25 (by decide) (by decide)
  have r29 : r m 29 = m + 16 := hr 29 (by decide) (by decide)
  have z30 : (30 : Int32).toNatClampNeg = 30 := by decide
  have hL := hO.2.1
  have hc := hSB.2.2.2.2.1 k (by omega)
  unfold D_Mo_smellsOf
  refine P_Mo_isSailing hr hR hw hP hn6 hk (fun hsl => ⟨fun z => absurd z z01, fun _ => ?_⟩) (fun hsl => ⟨fun _ => ?_, fun z => absurd rfl z⟩)
  · refine P_Mo_hasCold hr hO hB hs hR.1 (fun hco => ⟨fun z => absurd z z01, fun _ => ?_⟩) (fun hco => ⟨fun _ => ?_, fun z => absurd rfl z⟩)
    · unfold smells at hQ
      rw [if_neg (fun z => by rw [hco] at z; exact absurd z.2 (by decide))] at hQ
      exact hQ
    · unfold smells at hQ
      rw [if_pos ⟨hsl, hco⟩] at hQ
      obtain ⟨g1, g2, -, -, -⟩ := hR.2.2.1 k hk
      refine lp_for (bN B) (fun j t => t = (nI (smUp B S k j), nI j, h)) ?_ ?_ _ rfl
      · rintro j t K hj rfl hK
        have hj6 : j < 6 := by omega
        have hi : 40 * j + sC S k < 240 := by omega
        have hyb := hSB.2.2.2.2.2 _ hi
        have hm := smUp_lt B S k j (by omega)
        have hh := hSB.1
        unfold DB_Mo_smellsOf_22
        intro i10 e10
        rw [hO.1] at e10
        subst e10
        rw [r25, nI_clamp (n := L) (by omega), hO.2.2.2.2.2.1]
        have skip : smUp B S k (j + 1) = smUp B S k j → ∀ x18 : Int32, x18 = nI j + 1 → K (nI (smUp B S k j), x18, h) := by
          intro e x18 e18
          rw [nI_1] at e18
          subst e18
          rw [← e]
          exact hK _ rfl
        refine ⟨vp_in_nI hL (by omega), fun q => absurd ((nI_leI (by omega) (by omega)).mp q) (by omega), fun _ => ⟨fun q => skip ?_, fun q => ?_⟩⟩
        · have ejk : j = k := (nI_eq (by omega) (by omega)).mp q
          conv => lhs; unfold smUp
          rw [if_neg (fun z => z.1 ejk)]
        · have ejk : ¬ j = k := fun z => q (by rw [z])
          refine ⟨vp_in_nI (by omega) (by omega), ?_⟩
          intro i16 e16
          have e16' : i16 = nI (6 + k) := by rw [e16]; exact nI_add 6 k
          subst e16'
          rw [r49, nI_clamp (n := k) (by omega), nI_clamp (n := 6 + k) (by omega), g1, g2]
          refine ⟨vp_in_nI (by omega) (by omega), P_Mo_isSmelt hr hR hSB hn6 hc (by omega) (fun hl => ⟨fun z => absurd z z01, fun _ => ?_⟩) (fun hl => ⟨fun _ => skip ?_, fun z => absurd rfl z⟩)⟩
          · intro i24 e24
            have e24' : i24 = nI (6 + k) := by rw [e24]; exact nI_add 6 k
            subst e24'
            refine ⟨vp_in_nI (by omega) (by omega), vp_in_nI (by omega) (by omega), ?_⟩
            intro i26 e26
            rw [nI_clamp (n := 6 + k) (by omega), g2] at e26
            replace e26 : i26 = (32 + (6 * ((8 * nI (sC S k / 8)) + h.1 (m + 32) k))) + nI j := e26
            rw [g1] at e26
            have e26' : i26 = nI (32 + (6 * sC S k + j)) := by
              rw [e26]
              have e8 : (8 : Int32) * nI (sC S k / 8) = nI (8 * (sC S k / 8)) := pk_mul 8 _
              have e6 : (6 : Int32) * nI (sC S k) = nI (6 * sC S k) := pk_mul 6 _
              have e32 : (32 : Int32) + nI (6 * sC S k) = nI (32 + 6 * sC S k) := nI_add 32 _
              rw [e8, nI_add, show 8 * (sC S k / 8) + sC S k % 8 = sC S k by omega, e6, e32, nI_add]
              exact congrArg nI (by omega)
            subst e26'
            refine ⟨vp_in_nI (by omega) (by omega), ?_⟩
            intro i28 e28
            rw [hO.1] at e28
            have e28' : i28 = nI (6 * L + k) := by
              rw [e28]
              have : (6 : Int32) * nI L = nI (6 * L) := pk_mul 6 L
              rw [this, nI_add]
            subst e28'
            have hno := (hB.2.2.2.2.2.2.1 k (by omega)).2.2.2
            have hnz : ¬ sY S (40 * j + sC S k) = 0 := by
              intro z
              unfold lies at hl
              simp [z] at hl
            have elay : layH (sY S (40 * j + sC S k)) = nI (sY S (40 * j + sC S k) / 16) - 1 := by
              unfold layH
              rw [if_neg hnz, nI_s1 (by omega)]
            rw [r29, nI_clamp (n := 6 * L + k) (by omega), (hO.2.2.2.2.2.2.2.2.2.1 k (by omega)).2.2.2, z30, hR.1, nI_clamp (n := 32 + (6 * sC S k + j)) (by omega), (hR.2.2.2 (sC S k) hc j (by omega)).1, elay]
            have hyq : sY S (40 * j + sC S k) / 16 < 2 ^ 26 := by omega
            refine ⟨vp_in_nI (by omega) (by omega), fun q2 => skip ?_, fun q2 => ?_⟩
            · have := (fresh_iff hno hSB.1 hyq).mp q2
              conv => lhs; unfold smUp
              rw [if_neg]
              intro y
              have y2 := y.2.2
              unfold fresh at y2
              simp only [decide_eq_true_eq] at y2
              omega
            · have : ¬ (bNo B k + sY S (40 * j + sC S k) / 16 < sH S + 1) := fun z => q2 ((fresh_iff hno hSB.1 hyq).mpr z)
              intro x31 e31 x32 e32
              rw [bo_1 hm hj6] at e31
              rw [nI_1] at e32
              subst e31; subst e32
              refine hK _ ?_
              have e : smUp B S k (j + 1) = smUp B S k j ||| 2 ^ j := by
                conv => lhs; unfold smUp
                rw [if_pos]
                refine ⟨ejk, hl, ?_⟩
                unfold fresh
                simp only [decide_eq_true_eq]
                omega
              rw [e]
          · conv => lhs; unfold smUp
            rw [if_neg (fun y => by rw [hl] at y; exact absurd y.2.1 (by decide))]
      · rintro t K rfl
        unfold DB_Mo_smellsOf_22
        intro i10 e10
        rw [hO.1] at e10
        subst e10
        rw [r25, nI_clamp (n := L) (by omega), hO.2.2.2.2.2.1]
        exact ⟨vp_in_nI hL (by omega), fun _ => hQ, fun q => absurd (Int32.le_refl _) q⟩
  · unfold smells at hQ
    rw [if_neg (fun z => by rw [hsl] at z; exact absurd z.1 (by decide))] at hQ
    exact hQ
/-- the least number, looked at from above: the first j from the top are done -/
theorem P_near {r : TR} {h : TH} {m s : Nat} {a1 : Int32} {E : Int32 → TH → Prop} {Q : Int32 → TH → Prop} (hs : s < 64) (hE : E (leastI s) h) : ∃ n, lp (fun (K : Int32 × Int32 × TH → Prop) (t : Int32 × Int32 × TH) => DB_Mo_wayOf_11 r m a1 (nI s) t.1 t.2.1 t.2.2 (fun y11 y12 h13 => K (y11, y12, h13)) E Q) n ((-1), 5, h) := by
  have inv : ∀ j, j ≤ 6 → ∀ x : Int32, ((∃ i, i < 6 ∧ 6 - j ≤ i ∧ s.testBit i = true ∧ (∀ i', 6 - j ≤ i' → i' < i → s.testBit i' = false) ∧ x = nI i) ∨ ((∀ i, 6 - j ≤ i → i < 6 → s.testBit i = false) ∧ x = -1)) → j = 6 → x = leastI s := by
    intro j _ x hx e
    subst e
    rcases hx with ⟨i, h1, h2, h3, h4, rfl⟩ | ⟨h1, rfl⟩
    · exact (leastI_at h1 h3 (fun i' hi' => h4 i' (by omega) hi')).symm
    · exact (leastI_no (fun i hi => h1 i (by omega) hi)).symm
  refine lp_for 6 (fun j t => ∃ x, t = (x, nI (6 - j) - 1, h) ∧ ((∃ i, i < 6 ∧ 6 - j ≤ i ∧ s.testBit i = true ∧ (∀ i', 6 - j ≤ i' → i' < i → s.testBit i' = false) ∧ x = nI i) ∨ ((∀ i, 6 - j ≤ i → i < 6 → s.testBit i = false) ∧ x = -1))) ?_ ?_ _ ⟨-1, rfl, Or.inr ⟨fun i h1 h2 => by omega, rfl⟩⟩
  · rintro j t K hj ⟨x, rfl, hx⟩ hK
    have e5 : nI (6 - j) - 1 = nI (5 - j) := by rw [nI_s1 (by omega)]; exact congrArg nI (by omega)
    have e6 : nI (6 - (j + 1)) - 1 = nI (5 - j) + (-1) := by
      have : 6 - (j + 1) = 5 - j := by omega
      rw [this, Int32.sub_eq_add_neg]
    show DB_Mo_wayOf_11 r m a1 (nI s) x (nI (6 - j) - 1) h _ E Q
    rw [e5]
    unfold DB_Mo_wayOf_11
    refine ⟨fun q => absurd q (nI_pos (by omega)), fun _ => ⟨fun q x8 e8 => ?_, fun q x10 e10 => ?_⟩⟩
    · subst e8
      refine hK _ ⟨x, by rw [e6], ?_⟩
      have hb : s.testBit (5 - j) = false := by
        cases hb : s.testBit (5 - j) with
        | false => rfl
        | true => exact absurd ((bt_1 hs (by omega)).mpr hb) q
      rcases hx with ⟨i, h1, h2, h3, h4, rfl⟩ | ⟨h1, rfl⟩
      · left
        refine ⟨i, h1, by omega, h3, fun i' a b => ?_, rfl⟩
        by_cases e : i' = 5 - j
        · rw [e]; exact hb
        · exact h4 i' (by omega) b
      · right
        refine ⟨fun i a b => ?_, rfl⟩
        by_cases e : i = 5 - j
        · rw [e]; exact hb
        · exact h1 i (by omega) b
    · subst e10
      have hb := (bt_1 hs (by omega)).mp q
      refine hK _ ⟨nI (5 - j), by rw [e6], ?_⟩
      left
      exact ⟨5 - j, by omega, by omega, hb, fun i' a b => by omega, rfl⟩
  · rintro t K ⟨x, rfl, hx⟩
    have e := inv 6 (by omega) x hx rfl
    show DB_Mo_wayOf_11 r m a1 (nI s) x (nI (6 - 6) - 1) h _ E Q
    unfold DB_Mo_wayOf_11
    refine ⟨fun _ => ?_, fun q => absurd (by decide) q⟩
    rw [e]
    exact hE
