/-- laid no more than the nose's hours ago -/
def fresh (S : Sc) (nose i : Nat) : Bool := decide (sH S + 1 ≤ nose + sY S i / 16)
theorem fresh_iff {nose H q : Nat} (hn : nose ≤ 9) (hH : H ≤ 1000000) (hq : q < 2 ^ 26) : nI nose < nI H - (nI q - 1) ↔ nose + q < H + 1 := by
  rcases Nat.eq_zero_or_pos q with z | z
  · subst z
    have e : nI H - (nI 0 - 1) = nI (H + 1) := by
      have e1 : nI 0 - 1 = (-1 : Int32) := by decide
      rw [e1, Int32.sub_neg, nI_1]
    rw [e, nI_ltI (by omega) (by omega)]
    omega
  · rw [nI_s1 z, Int32.lt_iff_toInt_lt, pk_sub_toInt (by omega) (by omega), nI_toInt (by omega)]
    omega
/-- the dishes that boat k smells, of the first j, if it sails and has no cold -/
def smUp (B : By) (S : Sc) (k : Nat) : Nat → Nat
  | 0 => 0
  | d + 1 => if ¬ d = k ∧ lies S (40 * d + sC S k) = true ∧ fresh S (bNo B k) (40 * d + sC S k) = true then smUp B S k d ||| 2 ^ d else smUp B S k d
theorem smUp_lt (B : By) (S : Sc) (k : Nat) : ∀ d, d ≤ 6 → smUp B S k d < 64 := by
  intro d
  induction d with
  | zero => intro _; show 0 < 64; omega
  | succ d ih =>
    intro hd
    unfold smUp
    split
    · exact bo_lt (ih (by omega)) (by omega)
    · exact ih (by omega)
/-- the dishes that a boat smells -/
def smells (B : By) (S : Sc) (seed : Int32) (k : Nat) : Nat := if sail S k = true ∧ coldB (bCo B) seed (16 * nI (sH S) + nI k) = false then smUp B S k (bN B) else 0
theorem smells_lt {B : By} {S : Sc} {seed : Int32} {k : Nat} (hB : ByB B) : smells B S seed k < 64 := by
  unfold smells
  split
  · exact smUp_lt B S k _ hB.2.2.1
  · omega
theorem P_dishesSmelledBy {r : TR} {h : TH} {b s k : Nat} {B : By} {S : Sc} {seed : Int32} {Q : Int32 → TH → Prop} (hr : RBa r b) (hrs : RSc r s) (hO : BayOK h b B) (hB : ByB B) (hS : ScOK h s S) (hSB : ScB S) (hk : k < bN B) (hQ : Q (nI (smells B S seed k)) h) : D_Bay_dishesSmelledBy r b s (nI k) seed h Q := by
  have hn := hB.2.2.1
  have hk6 : k < 6 := by omega
  have hc := hSB.2.2.2.2.1 k hk6
  unfold D_Bay_dishesSmelledBy
  refine P_isSailing hS hSB hk6 (fun hs => ⟨fun z => absurd z z01, fun _ => ?_⟩) (fun hs => ⟨fun _ => ?_, fun z => absurd rfl z⟩)
  · rw [hS.1]
    refine P_hasCold hO.2.2.2.1 (fun hco => ⟨fun z => absurd z z01, fun _ => ?_⟩) (fun hco => ⟨fun _ => ?_, fun z => absurd rfl z⟩)
    · unfold smells at hQ
      rw [if_neg (fun z => by rw [hco] at z; exact absurd z.2 (by decide))] at hQ
      exact hQ
    · unfold smells at hQ
      rw [if_pos ⟨hs, hco⟩] at hQ
      refine lp_for (bN B) (fun j t => t = (nI (smUp B S k j), nI j, h)) ?_ ?_ _ rfl
      · rintro j t K hj rfl hK
        have hj6 : j < 6 := by omega
        have hi : 40 * j + sC S k < 240 := by omega
        have hyb := hSB.2.2.2.2.2 _ hi
        have hm := smUp_lt B S k j (by omega)
        unfold DB_Bay_dishesSmelledBy_29
        rw [hO.2.2.1]
        refine ⟨fun q => absurd ((nI_leI (by omega) (by omega)).mp q) (by omega), fun _ => ⟨vp_in_nI hk6 (by omega), ?_⟩⟩
        intro x11 e11
        have e12 : x11 = nI (40 * j + sC S k) := by
          rw [e11, hrs.1, nI_clamp (by omega), hS.2.2.2.2.1 k hk6]
          have : (40 : Int32) * nI j = nI (40 * j) := pk_mul 40 j
          rw [this, nI_add]
        subst e12
        refine P_laidHour hrs hS hSB hi ⟨vp_in_nI hk6 (by omega), ?_⟩
        rw [hr.1.2.2.2.2.2.2, nI_clamp (by omega), (hO.2.2.2.2.2.2.1 k hk).2.2.2, hS.1]
        have hno := (hB.2.2.2.2.2.2.1 k hk).2.2.2
        have hyq : sY S (40 * j + sC S k) / 16 < 2 ^ 26 := by omega
        have skip : smUp B S k (j + 1) = smUp B S k j → ∀ x18 : Int32, x18 = nI j + 1 → K (nI (smUp B S k j), x18, h) := by
          intro e x18 e18
          rw [nI_1] at e18
          subst e18
          rw [← e]
          exact hK _ rfl
        have j77 : ∀ s0 : Int32, (s0 = 0 → fresh S (bNo B k) (40 * j + sC S k) = false) → (¬ s0 = 0 → fresh S (bNo B k) (40 * j + sC S k) = true) → DJ_Bay_dishesSmelledBy_77 r b s (nI k) (nI (smUp B S k j)) (nI j) (nI (40 * j + sC S k)) s0 h (fun y27 y28 h29 => K (y27, y28, h29)) (fun x30 h31 => Q x30 h31) Q := by
          intro s0 f0 f1
          unfold DJ_Bay_dishesSmelledBy_77
          refine ⟨fun q => skip ?_, fun q => ?_⟩
          · have ejk : j = k := (nI_eq (by omega) (by omega)).mp q
            conv => lhs; unfold smUp
            rw [if_neg (fun z => z.1 ejk)]
          · have ejk : ¬ j = k := fun z => q (by rw [z])
            refine P_lies hrs hS hSB hi (fun hl => ⟨fun z => absurd z z01, fun _ => ⟨fun z => skip ?_, fun z => ?_⟩⟩) (fun hl => ⟨fun _ => skip ?_, fun z => absurd rfl z⟩)
            · conv => lhs; unfold smUp
              rw [if_neg (fun y => by rw [f0 z] at y; exact absurd y.2.2 (by decide))]
            · intro x25 e25 x26 e26
              rw [bo_1 hm hj6] at e25
              rw [nI_1] at e26
              subst e25; subst e26
              refine hK _ ?_
              have e : smUp B S k (j + 1) = smUp B S k j ||| 2 ^ j := by
                conv => lhs; unfold smUp
                rw [if_pos ⟨ejk, hl, f1 z⟩]
              rw [e]
            · conv => lhs; unfold smUp
              rw [if_neg (fun y => by rw [hl] at y; exact absurd y.2.1 (by decide))]
        refine ⟨fun q => j77 0 (fun _ => ?_) (fun z => absurd rfl z), fun q => j77 1 (fun z => absurd z z01) (fun _ => ?_)⟩
        · have := (fresh_iff hno hSB.1 hyq).mp q
          unfold fresh
          simp only [decide_eq_false_iff_not]
          omega
        · have : ¬ (bNo B k + sY S (40 * j + sC S k) / 16 < sH S + 1) := fun z => q ((fresh_iff hno hSB.1 hyq).mpr z)
          unfold fresh
          simp only [decide_eq_true_eq]
          omega
      · rintro t K rfl
        unfold DB_Bay_dishesSmelledBy_29
        rw [hO.2.2.1]
        exact ⟨fun _ => hQ, fun q => absurd (Int32.le_refl _) q⟩
  · unfold smells at hQ
    rw [if_neg (fun z => by rw [hs] at z; exact absurd z.1 (by decide))] at hQ
    exact hQ
