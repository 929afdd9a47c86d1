/-! fried, sure: both sides -/
theorem an1 : ∀ a : Fin 64, ∀ k : Fin 6, (nI a.1 &&& ((1 : Int32) <<< (nI k.1 &&& 31))) = nI (a.1 &&& 2 ^ k.1) := by decide +kernel
theorem or1 : ∀ a : Fin 64, ∀ k : Fin 6, (nI a.1 ||| ((1 : Int32) <<< (nI k.1 &&& 31))) = nI (a.1 ||| 2 ^ k.1) ∧ a.1 ||| 2 ^ k.1 < 64 := by decide +kernel
/-- whose a pan can be, by the first k that were told -/
def alF (n : Nat) (T : List (Nat × Nat)) : Nat → Nat → Nat
  | 0, _ => 2 ^ n - 1
  | k + 1, p => if (T.getD k (0, 0)).1 = p then alF n T k p &&& (T.getD k (0, 0)).2 else alF n T k p
theorem alF_s {n k p : Nat} {T : List (Nat × Nat)} : alF n T (k + 1) p = if (T.getD k (0, 0)).1 = p then alF n T k p &&& (T.getD k (0, 0)).2 else alF n T k p := rfl
theorem df_and {a b c : Nat} (h : dfM a c = 0) : dfM (a &&& b) c = 0 := by
  unfold dfM at *
  rw [Nat.and_assoc, Nat.and_comm b, ← Nat.and_assoc, h, Nat.zero_and]
theorem alF_ok {n : Nat} {T : List (Nat × Nat)} (hn : n ≤ 6) : ∀ k p, alF n T k p < 64 ∧ dfM (alF n T k p) (2 ^ n - 1) = 0 := by
  have x := dx6 ⟨n, by omega⟩
  simp only [] at x
  have l := (ab1 ⟨n, by omega⟩).2
  simp only [] at l
  intro k
  induction k with
  | zero => intro p; exact ⟨l, x.2⟩
  | succ k ih =>
    intro p
    unfold alF
    split
    · exact ⟨and_lt64 (ih p).1, df_and (ih p).2⟩
    · exact ih p
theorem alK_ok {n pan k : Nat} {al : Nat → Nat} (hal : ∀ p, p < 6 → al p < 64 ∧ dfM (al p) (2 ^ n - 1) = 0) (hp : pan < 6) : ∀ p, p < 6 → alK al pan k p < 64 ∧ dfM (alK al pan k p) (2 ^ n - 1) = 0 := by
  intro p h
  unfold alK
  split
  · exact ⟨and_lt64 (hal pan hp).1, df_and (hal pan hp).2⟩
  · exact hal p h
theorem P_allowFirst {r : TR} {q n k : Nat} {h : TH} {T : List (Nat × Nat)} {Q : TH → Prop} (r1 : r (q + 183) 1 = q + 184) (r2 : r (q + 183) 2 = q + 185) (r3 : r (q + 183) 3 = q + 186) (hT : ToldOK h q T) (hl : T.length ≤ 20) (hT2 : ∀ i, i < T.length → (T.getD i (0, 0)).1 < n ∧ (T.getD i (0, 0)).2 < 64) (hn : n ≤ 6) (hk : k ≤ T.length) (hQ : ∀ h', Fr (fun a => a = q + 186) h h' → (∀ p, p < 6 → h'.1 (q + 186) p = nI (alF n T k p)) → Q h') : D_Told_allowFirst r (q + 183) (nI k) (nI n) h Q := by
  unfold D_Told_allowFirst
  rw [(ab1 ⟨n, by omega⟩).1, r3]
  refine P_fill (n := 6) (by omega) (fun h2 f2 g2 => ?_)
  refine lp_for k (fun i t => ∃ h', t = (nI i, h') ∧ Fr (fun a => a = q + 186) h h' ∧ ∀ p, p < 6 → h'.1 (q + 186) p = nI (alF n T i p)) ?_ ?_ _ ⟨h2, rfl, f2, fun p hp => g2 p hp⟩
  · rintro i t K hi ⟨h', rfl, f', g'⟩ hK
    obtain ⟨t1, t2⟩ := hT2 i (by omega)
    have e0 := (f' (q + 183) (by omega)).1
    have e4 := (f' (q + 184) (by omega)).1
    have e5 := (f' (q + 185) (by omega)).1
    have ti := hT.2 i (by omega)
    unfold DB_Told_allowFirst_14
    rw [e0, hT.1, r1, r2, r3, e4, e5, nI_clamp (n := i) (by omega), ti.1, ti.2, nI_clamp (n := (T.getD i (0, 0)).1) (by omega)]
    refine ⟨fun z => absurd ((nI_leI (by omega) (by omega)).mp z) (by omega), fun _ => ⟨fun z => absurd ((nI_leI (by omega) (by omega)).mp z) (by omega), fun _ => ⟨vp_in_nI (by omega) (by omega), fun i9 e9 => ?_⟩⟩⟩
    subst e9
    rw [nI_clamp (n := (T.getD i (0, 0)).1) (by omega), g' _ (by omega), band (alF_ok hn i _).1 t2]
    refine ⟨vp_in_nI (by omega) (by omega), vp_in_nI (by omega) (by omega), vp_in_nI (by omega) (by omega), fun h11 e11 x12 e12 => ?_⟩
    rw [nI_1] at e12; subst e12
    refine hK _ ⟨h11, rfl, f'.tr (by rw [e11]; exact Fr.pI rfl), fun p hp => ?_⟩
    rw [e11, alF_s]
    by_cases e : (T.getD i (0, 0)).1 = p
    · rw [if_pos e, ← e, pI_s]
    · rw [if_neg e, pI_n _ _ _ _ (by omega)]; exact g' p hp
  · rintro t K ⟨h', rfl, f', g'⟩
    unfold DB_Told_allowFirst_14
    exact ⟨fun _ => hQ h' f' g', fun z => absurd (Int32.le_refl _) z⟩
theorem P_waysLeft {r : TR} {q n : Nat} {h : TH} {al : Nat → Nat} {Q : Int32 → TH → Prop} (r3 : r (q + 183) 3 = q + 186) (r4 : r (q + 183) 4 = q + 187) (hn : n ≤ 6) (hg : ∀ p, p < 6 → h.1 (q + 186) p = nI (al p)) (hal : ∀ p, p < 6 → al p < 64 ∧ dfM (al p) (2 ^ n - 1) = 0) (hQ : ∀ h', Fr (fun a => a = q + 187) h h' → Q (nI (wysN al n)) h') : D_Told_waysLeft r (q + 183) (nI n) h Q := by
  have l := (ab1 ⟨n, by omega⟩).2
  simp only [] at l
  have z0 : (0 : Int32).toNatClampNeg = 0 := by decide
  unfold D_Told_waysLeft
  intro x1 e1
  rw [(ab1 ⟨n, by omega⟩).1] at e1
  replace e1 : x1 = nI (2 ^ n - 1) := e1
  subst e1
  rw [r4, z0]
  refine P_fill (n := 64) (by omega) (fun h3 f3 g3 h6 e6 => ?_)
  refine lp_for (2 ^ n - 1) (fun t s => ∃ h', s = (nI t, h') ∧ Fr (fun a => a = q + 187) h h' ∧ ∀ i, i < 64 → h'.1 (q + 187) i = nI (dpP al t i)) ?_ ?_ _ ⟨h6, rfl, ?_, fun i hi => ?_⟩
  · rintro t s K ht ⟨h', rfl, f', g'⟩ hK
    have ht64 : t < 64 := by omega
    have p6 := dx5 ⟨t, by omega⟩
    simp only [] at p6
    have a6 := hal (popc t) p6
    have e186 : ∀ p, p < 6 → h'.1 (q + 186) p = nI (al p) := fun p hp => by rw [(f' (q + 186) (by omega)).1]; exact hg p hp
    unfold DB_Told_waysLeft_23
    refine ⟨fun z => absurd ((nI_leI (by omega) (by omega)).mp z) (by omega), fun _ => ?_⟩
    refine P_bitCount ht64 ⟨vp_in_nI p6 (by omega), fun x12 e12 => ?_⟩
    rw [r3, nI_clamp (n := popc t) (by omega), e186 _ p6, df_i a6.1 ht64] at e12
    subst e12
    refine lp_for n (fun j s => ∃ h2, s = (nI j, h2) ∧ Fr (fun a => a = q + 187) h h2 ∧ ∀ i, i < 64 → h2.1 (q + 187) i = nI (dpP al t i + exS al t i j)) ?_ ?_ _ ⟨h', rfl, f', g'⟩
    · rintro j s K2 hj ⟨h2, rfl, f2, g2⟩ hK2
      have hj6 : j < 6 := by omega
      have fb := df_bit a6.1 ht64 hj6
      have fl := df_lt (b := t) a6.1
      have ste : ∀ i, exS al t i (j + 1) = exS al t i j + (if t.testBit j = false ∧ (al (popc t)).testBit j = true ∧ i = t ||| 2 ^ j then dpS al t else 0) := fun i => rfl
      unfold DB_Told_waysLeft_46
      refine ⟨fun z => absurd ((nI_leI (by omega) (by omega)).mp z) (by omega), fun _ => ⟨fun y x16 e16 => ?_, fun y i18 e18 => ?_⟩⟩
      · rw [nI_1] at e16; subst e16
        refine hK2 _ ⟨h2, rfl, f2, fun i hi => ?_⟩
        rw [ste, if_neg (fun w => ?_), Nat.add_zero]
        · exact g2 i hi
        · refine y ((bt_1 fl hj6).mpr ?_)
          rw [fb, w.1, w.2.1]; rfl
      · have yb := (bt_1 fl hj6).mp y
        rw [fb, Bool.and_eq_true, Bool.not_eq_true'] at yb
        have o := or1 ⟨t, ht64⟩ ⟨j, hj6⟩
        simp only [] at o
        rw [o.1] at e18 ⊢
        subst e18
        rw [r4, nI_clamp (n := t ||| 2 ^ j) (by omega), nI_clamp (n := t) (by omega), g2 _ o.2, g2 t ht64, exS_self ht64 j (by omega), Nat.add_zero, dpP_self ht64 (Nat.le_refl _), nI_add]
        refine ⟨vp_in_nI o.2 (by omega), vp_in_nI ht64 (by omega), vp_in_nI o.2 (by omega), fun h20 e20 x21 e21 => ?_⟩
        rw [nI_1] at e21; subst e21
        refine hK2 _ ⟨h20, rfl, f2.tr (by rw [e20]; exact Fr.pI rfl), fun i hi => ?_⟩
        rw [e20, ste]
        by_cases e : i = t ||| 2 ^ j
        · subst e; rw [pI_s, if_pos ⟨yb.2, yb.1, rfl⟩, Nat.add_assoc]; rfl
        · rw [pI_n _ _ _ _ (fun w => e w.2), if_neg (fun w => e w.2.2), Nat.add_zero]; exact g2 i hi
    · rintro s K2 ⟨h2, rfl, f2, g2⟩
      unfold DB_Told_waysLeft_46
      refine ⟨fun _ x25 e25 => ?_, fun z => absurd (Int32.le_refl _) z⟩
      rw [nI_1] at e25; subst e25
      refine hK _ ⟨h2, rfl, f2, fun i hi => ?_⟩
      rw [g2 i hi, dpP_next hi ht64]
      congr 2
      unfold exS
      refine (sumF_tail 6 hn (fun k k1 k2 => ?_)).symm
      rw [if_neg (fun w => ?_)]
      have := dx7 ⟨_, a6.1⟩ ⟨n, by omega⟩ ⟨k, k2⟩ a6.2 w.2.1
      simp only [] at this
      omega
  · rintro s K ⟨h', rfl, f', g'⟩
    unfold DB_Told_waysLeft_23
    refine ⟨fun _ => ⟨vp_in_nI l (by omega), ?_⟩, fun z => absurd (Int32.le_refl _) z⟩
    rw [nI_clamp (n := 2 ^ n - 1) (by omega)]
    have e : h'.1 (q + 187) (2 ^ n - 1) = nI (wysN al n) := by rw [g' _ l, dpP_self l (Nat.le_refl _), dp_all hn hal]
    show Q (h'.1 (q + 187) (2 ^ n - 1)) h'
    rw [e]
    exact hQ h' f'
  · rw [e6]; exact f3.tr (Fr.pI rfl)
  · have e0 : dpP al 0 i = if i = 0 then 1 else 0 := by
      unfold dpP
      rw [sumF_zero 6 (fun k hk => by rw [if_neg (by omega)]), Nat.add_zero]
    rw [e6, e0]
    by_cases z : i = 0
    · subst z; rw [pI_s, if_pos rfl]; rfl
    · rw [pI_n _ _ _ _ (by omega), if_neg z]; exact g3 i hi
theorem wys_le (al : Nat → Nat) {n : Nat} (hn : n ≤ 6) : wysN al n ≤ 46656 := by
  have a := cntF_le (fun w => iwB al n w 0) (6 ^ n)
  have b : 6 ^ n ≤ 6 ^ 6 := Nat.pow_le_pow_right (by omega) hn
  unfold wysN
  omega
theorem P_ownerOf {r : TR} {q n pan : Nat} {h : TH} {al : Nat → Nat} {Q : Int32 → TH → Prop} (r3 : r (q + 183) 3 = q + 186) (r4 : r (q + 183) 4 = q + 187) (hn : n ≤ 6) (hp : pan < n) (hg : ∀ p, p < 6 → h.1 (q + 186) p = nI (al p)) (hal : ∀ p, p < 6 → al p < 64 ∧ dfM (al p) (2 ^ n - 1) = 0) (hQ : ∀ h', Fr (fun a => a = q + 186 ∨ a = q + 187) h h' → Q (seekF (sureF al n pan) n 0) h') : D_Told_ownerOf r (q + 183) (nI pan) (nI n) h Q := by
  have wl := wys_le al hn
  unfold D_Told_ownerOf
  refine P_waysLeft r3 r4 hn hg hal (fun h1 f1 => ⟨vp_in_nI (by omega) (by omega), fun x5 e5 => ?_⟩)
  rw [r3, nI_clamp (n := pan) (by omega), (f1 (q + 186) (by omega)).1, hg pan (by omega)] at e5
  subst e5
  refine lp_for n (fun k s => ∃ h', s = (nI k, h') ∧ Fr (fun a => a = q + 186 ∨ a = q + 187) h h' ∧ (∀ p, p < 6 → ¬ p = pan → h'.1 (q + 186) p = nI (al p)) ∧ seekF (sureF al n pan) n 0 = seekF (sureF al n pan) (n - k) k) ?_ ?_ _ ⟨h1, rfl, f1.mono (fun a ha => Or.inr ha), fun p a b => by rw [(f1 (q + 186) (by omega)).1]; exact hg p a, rfl⟩
  · rintro k s K hk ⟨h', rfl, f', g', es⟩ hK
    rw [show n - k = (n - (k + 1)) + 1 by omega] at es
    unfold DB_Told_ownerOf_17
    refine ⟨fun z => absurd ((nI_leI (by omega) (by omega)).mp z) (by omega), fun _ => ⟨fun z => ?_, fun z => ⟨vp_in_nI (by omega) (by omega), fun h10 e10 => ?_⟩⟩⟩
    · have w0 : wysN al n = 0 := by
        have := (nI_leI (b := 0) (by omega) (by omega)).mp z
        omega
      have e2 : seekF (sureF al n pan) n 0 = -2 := seekF_no n 0 (fun i _ _ => by unfold sureF; rw [if_neg (by omega)])
      have := hQ h' f'
      rw [e2] at this
      exact this
    · have wp : 0 < wysN al n := by
        rcases Nat.eq_zero_or_pos (wysN al n) with w | w
        · rw [w] at z; exact absurd (Int32.le_refl _) z
        · exact w
      rw [r3, nI_clamp (n := pan) (by omega), an1 ⟨al pan, (hal pan (by omega)).1⟩ ⟨k, by omega⟩] at e10
      have g10 : ∀ p, p < 6 → h10.1 (q + 186) p = nI (alK al pan k p) := fun p hp6 => by
        rw [e10]
        unfold alK
        by_cases e : p = pan
        · subst e; rw [pI_s, if_pos rfl]
        · rw [pI_n _ _ _ _ (fun w => e w.2), if_neg e]; exact g' p hp6 e
      have f10 : Fr (fun a => a = q + 186 ∨ a = q + 187) h h10 := f'.tr (by rw [e10]; exact Fr.pI (Or.inl rfl))
      have wk := wys_le (alK al pan k) hn
      refine P_waysLeft r3 r4 hn g10 (alK_ok hal (by omega)) (fun h11 f11 => ?_)
      have f2 := f10.tr (f11.mono (fun a ha => Or.inr ha))
      refine ⟨fun y x14 e14 => ?_, fun y => ?_⟩
      · rw [nI_1] at e14; subst e14
        have sn : sureF al n pan k = none := by
          unfold sureF
          rw [if_neg (fun w => y (by rw [w.2]))]
        refine hK _ ⟨h11, rfl, f2, fun p a b => ?_, by rw [es, seekF_n sn]⟩
        rw [(f11 (q + 186) (by omega)).1, g10 p a]
        unfold alK
        rw [if_neg b]
      · have sn : sureF al n pan k = some (nI k) := by
          unfold sureF
          rw [if_pos ⟨wp, (nI_eq (by omega) (by omega)).mp y⟩]
        have := hQ h11 f2
        rw [es, seekF_s sn] at this
        exact this
  · rintro s K ⟨h', rfl, f', g', es⟩
    unfold DB_Told_ownerOf_17
    refine ⟨fun _ => ?_, fun z => absurd (Int32.le_refl _) z⟩
    have := hQ h' f'
    rw [es, Nat.sub_self] at this
    exact this
