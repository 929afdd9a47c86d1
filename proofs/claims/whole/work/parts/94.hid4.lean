/-! hidden: both sides -/
def bi (b : Bool) : Int32 := if b = true then 1 else 0
theorem bi0 {b : Bool} (h : bi b = 0) : b = false := by cases b with | true => exact absurd h (by decide) | false => rfl
theorem bi1 {b : Bool} (h : ¬ bi b = 0) : b = true := by cases b with | true => rfl | false => exact absurd rfl h
theorem nar_bi (b : Bool) : vp_nar .boolean (bi b) = bi b := by cases b <;> decide
theorem bi_if (b : Bool) : (if b = true then 1 else 0 : Int32) = bi b := rfl
def LF (m : Nat) (h h' : TH) : Prop := Fr (fun a => a = m ∨ a = m + 29 ∨ a = m + 30 ∨ a = m + 37) h h' ∧ ∀ j, ¬ j = 47 → h'.1 m j = h.1 m j
theorem LF.rf {m : Nat} {h : TH} : LF m h h := ⟨Fr.rf, fun _ _ => rfl⟩
theorem LF.tr {m : Nat} {h h1 h2 : TH} (a : LF m h h1) (b : LF m h1 h2) : LF m h h2 := ⟨a.1.tr b.1, fun j x => (b.2 j x).trans (a.2 j x)⟩
theorem LF.q {m : Nat} {h h' : TH} (a : LF m h h') : Qm m h h' := ⟨a.1.mono (fun q hq => by unfold FQ; omega), fun j x _ _ _ => a.2 j x⟩
theorem LF.bay {m L : Nat} {rk : Int32} {h h' : TH} {B : By} (a : LF m h h') (g : MBay h m L rk B) : MBay h' m L rk B := g.mv (fun x p q => (a.1 x (by omega)).1) (a.2 18 (by omega)) ((a.2 52 (by omega)).trans g.2.2.1)
theorem sp_bit {B : By} (hB : ByB B) {R c : Nat} (h : RI B R) : (spC B R 40).testBit c = (decide (c % 8 < bW B ∧ c / 8 < bH B) && (decide (¬ bK B c = 1) && cmF B R c)) := by
  by_cases h1 : c % 8 < bW B ∧ c / 8 < bH B
  · by_cases h2 : ¬ bK B c = 1
    · rw [decide_eq_true h1, decide_eq_true h2, spC_cm hB h h1.1 h1.2 h2]; rfl
    · rw [decide_eq_false h2, Bool.false_and, Bool.and_false]
      exact bf_of (fun z => h2 ((spC_RI hB h).2 c z).2.2)
  · rw [decide_eq_false h1, Bool.false_and]
    exact bf_of (fun z => h1 ⟨((spC_RI hB h).2 c z).1, ((spC_RI hB h).2 c z).2.1⟩)
theorem P_hid109 {r : TR} {h : TH} {m L k R : Nat} {rk l2 : Int32} {B : By} {S : Sc} {K94 : Int32 → TH → Prop} {K250 : Int32 → TH → Prop} {K292 : TH → Prop} {Q : Int32 → TH → Prop} (hr : RMo r m) (hO : MBay h m L rk B) (hB : ByB B) (hR : RowOK (h.1 (m + 32)) (bN B) (nI k) S) (hw : h.1 m 51 = nI k) (hP : ScP (bN B) S) (hk : k < bN B) (hSB : ScB S) (hRI : RI B R) (hcb : ∀ i, i < 40 → h.1 (m + 36) i = bi (R.testBit i))
    (hE : ∀ h', LF m h h' → (∀ i, i < 40 → h'.1 (m + 37) i = bi ((spC B R 40).testBit i && (decide (bK B i = 0) && !htF B (windF B (sH S)) (bcF S (bN B)) (bS B k + 1) (some i)))) → K250 (bi (exF (mkB B (spC B R 40)) 40)) h') :
    ∃ n, lp (fun (K : Int32 × Int32 × TH → Prop) (s : Int32 × Int32 × TH) => DB_Mo_hidden_109 r m (nI k) l2 s.1 s.2.1 s.2.2 K94 (fun y66 y67 h68 => K (y66, y67, h68)) K250 K292 Q) n (0, 0, h) := by
  have r58 : r m 58 = m + 37 := hr 58 (by decide) (by decide)
  refine lp_for 40 (fun c t => ∃ h', t = (bi (exF (mkB B (spC B R 40)) c), nI c, h') ∧ LF m h h' ∧ ∀ i, i < c → h'.1 (m + 37) i = bi ((spC B R 40).testBit i && (decide (bK B i = 0) && !htF B (windF B (sH S)) (bcF S (bN B)) (bS B k + 1) (some i)))) ?_ ?_ _ ⟨h, rfl, LF.rf, fun i hi => by omega⟩
  · rintro c t K hc ⟨h', rfl, f', g'⟩ hK
    have kd := bK_le hB hc
    have O' := f'.bay hO
    have R' : RowOK (h'.1 (m + 32)) (bN B) (nI k) S := by rw [(f'.1 (m + 32) (by omega)).1]; exact hR
    have w' : h'.1 m 51 = nI k := (f'.2 51 (by omega)).trans hw
    have cb' : ∀ i, i < 40 → h'.1 (m + 36) i = (if R.testBit i = true then 1 else 0) := fun i hi => by rw [(f'.1 (m + 36) (by omega)).1]; exact hcb i hi
    have fin : ∀ (v : Bool) (h2 h3 : TH) (X y : Int32), LF m h' h2 → h2.1 (m + 37) = h'.1 (m + 37) → v = ((spC B R 40).testBit c && (decide (bK B c = 0) && !htF B (windF B (sH S)) (bcF S (bN B)) (bS B k + 1) (some c))) → X = bi (exF (mkB B (spC B R 40)) (c + 1)) → h3 = pI h2 (r m 58) (nI c).toNatClampNeg (vp_nar .boolean (bi v)) → y = nI c + 1 → K (X, y, h3) := by
      intro v h2 h3 X y f2 e2 ev eX e3 ey
      rw [nI_1] at ey
      rw [r58, nI_clamp (n := c) (by omega), nar_bi] at e3
      subst ey; subst eX
      refine hK _ ⟨h3, rfl, ?_, fun i hi => ?_⟩
      · refine (f'.tr f2).tr ?_
        rw [e3]
        exact ⟨Fr.pI (Or.inr (Or.inr (Or.inr rfl))), fun j _ => by rw [pI_n _ _ _ _ (by omega)]⟩
      · rw [e3]
        by_cases hi2 : i = c
        · subst hi2; rw [pI_s, ev]
        · rw [pI_n _ _ _ _ (by omega), e2]; exact g' i (by omega)
    have ex1 : exF (mkB B (spC B R 40)) (c + 1) = (exF (mkB B (spC B R 40)) c || mkB B (spC B R 40) c) := rfl
    have j199 : ∀ (X : Int32), X = bi (exF (mkB B (spC B R 40)) (c + 1)) → ((spC B R 40).testBit c = true → c % 8 < bW B ∧ c / 8 < bH B) → DJ_Mo_hidden_199 r m (nI k) l2 (nI c) (bi ((spC B R 40).testBit c)) X h' K94 (fun y66 y67 h68 => K (y66, y67, h68)) K250 K292 Q := by
      intro X eX hcl
      unfold DJ_Mo_hidden_199
      rw [(jd8 hc).1, (jd8 hc).2]
      refine ⟨fun z => ⟨vp_in_nI hc (by omega), fun h42 e42 x43 e43 => fin false h' h42 X x43 LF.rf rfl (by rw [bi0 z]; rfl) eX e42 e43⟩, fun z => ?_⟩
      have b1 := bi1 z
      obtain ⟨cx, cy⟩ := hcl b1
      refine P_sortAt hr O' hc cx cy ⟨fun y => ⟨vp_in_nI hc (by omega), fun h47 e47 x48 e48 => fin false h' h47 X x48 LF.rf rfl ?_ eX e47 e48⟩, fun y => ?_⟩
      · rw [decide_eq_false (fun e => y (by rw [e]; rfl)), Bool.false_and, Bool.and_false]
      · have k0 : bK B c = 0 := (nI_eq (b := 0) (by omega) (by omega)).mp y
        refine P_isSmeltBy hr O' hB R' w' hP hk hSB hc cx cy (fun h2 f2 k2 ht => ⟨fun _ => ⟨vp_in_nI hc (by omega), fun h52 e52 x53 e53 => fin false h2 h52 X x53 ⟨f2.mono (fun a ha => by omega), k2.2⟩ (f2 (m + 37) (by omega)).1 ?_ eX e52 e53⟩, fun q => absurd q z01⟩) (fun h2 f2 k2 ht => ⟨fun q => absurd rfl q, fun _ => ⟨vp_in_nI hc (by omega), fun h54 e54 x55 e55 => fin true h2 h54 X x55 ⟨f2.mono (fun a ha => by omega), k2.2⟩ (f2 (m + 37) (by omega)).1 ?_ eX e54 e55⟩⟩)
        · rw [ht, Bool.not_true, Bool.and_false, Bool.and_false]
        · rw [ht, b1, decide_eq_true k0]; rfl
    have j165 : ∀ (x : Int32), x = bi ((spC B R 40).testBit c) → ((spC B R 40).testBit c = true → c % 8 < bW B ∧ c / 8 < bH B) → DJ_Mo_hidden_165 r m (nI k) l2 (bi (exF (mkB B (spC B R 40)) c)) (nI c) x h' K94 (fun y66 y67 h68 => K (y66, y67, h68)) K250 K292 Q := by
      intro x ex hcl
      subst ex
      unfold DJ_Mo_hidden_165 DJ_Mo_hidden_194 DJ_Mo_hidden_198
      rw [(jd8 hc).1, (jd8 hc).2]
      refine ⟨fun z => j199 1 ?_ hcl, fun z => ⟨fun y => j199 0 ?_ hcl, fun y => ?_⟩⟩
      · rw [ex1, bi1 z]; rfl
      · rw [ex1, bi0 z]; unfold mkB; rw [bi0 y]; rfl
      · obtain ⟨cx, cy⟩ := hcl (bi1 y)
        refine P_sortAt hr O' hc cx cy ⟨fun w => j199 0 ?_ hcl, fun w => j199 1 ?_ hcl⟩
        · rw [ex1, bi0 z]; unfold mkB; rw [decide_eq_false (fun e => w (by rw [e]; rfl)), Bool.and_false]; rfl
        · rw [ex1]; unfold mkB; rw [bi1 y, decide_eq_true ((nI_eq (b := 2) (by omega) (by omega)).mp w), Bool.and_true, Bool.or_true]; rfl
    have sb := sp_bit hB (c := c) hRI
    unfold DB_Mo_hidden_109 DJ_Mo_hidden_164
    rw [(jd8 hc).1, (jd8 hc).2]
    refine ⟨fun q => absurd ((nI_leI (a := 40) (by omega) (by omega)).mp q) (by omega), fun _ => ?_⟩
    refine P_isCell hr O' hB (by omega) (by omega) (fun cx cy => ⟨fun q => absurd q z01, fun _ => ?_⟩) (fun nc => ⟨fun _ => ?_, fun q => absurd rfl q⟩)
    · refine P_sortAt hr O' hc cx cy ⟨fun y => ?_, fun y => ?_⟩
      · have s0 : (spC B R 40).testBit c = false := by
          rw [sb, decide_eq_false (show ¬ ¬ bK B c = 1 from fun z => z ((nI_eq (b := 1) (by omega) (by omega)).mp y)), Bool.false_and, Bool.and_false]
        exact j165 0 (by rw [s0]; rfl) (fun z => by rw [s0] at z; exact absurd z (by decide))
      · have s1 : (spC B R 40).testBit c = cmF B R c := by
          rw [sb, decide_eq_true ⟨cx, cy⟩, decide_eq_true (show ¬ bK B c = 1 from fun z => y (by rw [z]; rfl))]; rfl
        refine P_comesTo hr O' hB hc cb' (fun z => ⟨fun q => absurd q z01, fun _ => j165 1 (by rw [s1, z]; rfl) (fun _ => ⟨cx, cy⟩)⟩) (fun z => ⟨fun _ => j165 0 (by rw [s1, z]; rfl) (fun _ => ⟨cx, cy⟩), fun q => absurd rfl q⟩)
    · have s0 : (spC B R 40).testBit c = false := by rw [sb, decide_eq_false nc, Bool.false_and]
      exact j165 0 (by rw [s0]; rfl) (fun z => by rw [s0] at z; exact absurd z (by decide))
  · rintro t K ⟨h', rfl, f', g'⟩
    unfold DB_Mo_hidden_109
    exact ⟨fun _ => hE h' f' g', fun q => absurd (show (40 : Int32) ≤ nI 40 from Int32.le_refl _) q⟩
theorem P_hid259 {r : TR} {h : TH} {m : Nat} {l1 l2 : Int32} {p : Nat → Bool} {K94 : Int32 → TH → Prop} {K286 K292 : TH → Prop} {Q : Int32 → TH → Prop} (hr : RMo r m) (hp : ∀ i, i < 40 → h.1 (m + 37) i = bi (p i)) (hE : ∀ h', Fr (fun a => a = m + 36) h h' → (∀ i, i < 40 → h'.1 (m + 36) i = bi (p i)) → K286 h') :
    ∃ n, lp (fun (K : Int32 × TH → Prop) (s : Int32 × TH) => DB_Mo_hidden_259 r m l1 l2 s.1 s.2 K94 (fun y78 h79 => K (y78, h79)) K286 K292 Q) n (0, h) := by
  have r57 : r m 57 = m + 36 := hr 57 (by decide) (by decide)
  have r58 : r m 58 = m + 37 := hr 58 (by decide) (by decide)
  refine lp_for 40 (fun c t => ∃ h', t = (nI c, h') ∧ Fr (fun a => a = m + 36) h h' ∧ ∀ i, i < c → h'.1 (m + 36) i = bi (p i)) ?_ ?_ _ ⟨h, rfl, Fr.rf, fun i hi => by omega⟩
  · rintro c t K hc ⟨h', rfl, f', g'⟩ hK
    unfold DB_Mo_hidden_259
    refine ⟨fun q => absurd ((nI_leI (a := 40) (by omega) (by omega)).mp q) (by omega), fun _ => ⟨vp_in_nI hc (by omega), vp_in_nI hc (by omega), fun h76 e76 x77 e77 => ?_⟩⟩
    rw [nI_1] at e77
    rw [r57, r58, nI_clamp (n := c) (by omega), (f' (m + 37) (by omega)).1, hp c hc, nar_bi] at e76
    subst e77
    refine hK _ ⟨h76, rfl, f'.tr (by rw [e76]; exact Fr.pI rfl), fun i hi => ?_⟩
    rw [e76]
    by_cases hi2 : i = c
    · subst hi2; rw [pI_s]
    · rw [pI_n _ _ _ _ (by omega)]; exact g' i (by omega)
  · rintro t K ⟨h', rfl, f', g'⟩
    unfold DB_Mo_hidden_259
    exact ⟨fun _ => hE h' f' g', fun q => absurd (show (40 : Int32) ≤ nI 40 from Int32.le_refl _) q⟩
theorem P_hid41 {r : TR} {h : TH} {m k c0 : Nat} {K87 : TH → Prop} {Q : Int32 → TH → Prop} (hr : RMo r m) (hk : k < 6) (hc0 : c0 < 40) (hx : h.1 (m + 32) k = nI (c0 % 8)) (hy : h.1 (m + 32) (6 + k) = nI (c0 / 8)) (hE : ∀ h', Fr (fun a => a = m + 36) h h' → (∀ i, i < 40 → h'.1 (m + 36) i = bi ((2 ^ c0).testBit i)) → K87 h') :
    ∃ n, lp (fun (K : Int32 × TH → Prop) (s : Int32 × TH) => DB_Mo_hidden_41 r m (nI k) s.1 s.2 (fun y23 h24 => K (y23, h24)) K87 Q) n (0, h) := by
  have r57 : r m 57 = m + 36 := hr 57 (by decide) (by decide)
  have r49 : r m 49 = m + 32 := hr 49 (by decide) (by decide)
  refine lp_for 40 (fun c t => ∃ h', t = (nI c, h') ∧ Fr (fun a => a = m + 36) h h' ∧ ∀ i, i < c → h'.1 (m + 36) i = bi ((2 ^ c0).testBit i)) ?_ ?_ _ ⟨h, rfl, Fr.rf, fun i hi => by omega⟩
  · rintro c t K hc ⟨h', rfl, f', g'⟩ hK
    have fin : ∀ (v : Bool) (h3 : TH) (y : Int32), v = (2 ^ c0).testBit c → h3 = pI h' (r m 57) (nI c).toNatClampNeg (vp_nar .boolean (bi v)) → y = nI c + 1 → K (y, h3) := by
      intro v h3 y ev e3 ey
      rw [nI_1] at ey
      rw [r57, nI_clamp (n := c) (by omega), nar_bi] at e3
      subst ey
      refine hK _ ⟨h3, rfl, f'.tr (by rw [e3]; exact Fr.pI rfl), fun i hi => ?_⟩
      rw [e3]
      by_cases hi2 : i = c
      · subst hi2; rw [pI_s, ev]
      · rw [pI_n _ _ _ _ (by omega)]; exact g' i (by omega)
    unfold DB_Mo_hidden_41
    refine ⟨fun q => absurd ((nI_leI (a := 40) (by omega) (by omega)).mp q) (by omega), fun _ i16 e16 => ?_⟩
    have e16' : i16 = nI (6 + k) := by rw [e16]; exact nI_add 6 k
    subst e16'
    have ec : ((8 * (h'.1 (r m 49) (nI (6 + k)).toNatClampNeg)) + (h'.1 (r m 49) (nI k).toNatClampNeg)) = nI c0 := by
      rw [r49, nI_clamp (n := 6 + k) (by omega), nI_clamp (n := k) (by omega), (f' (m + 32) (by omega)).1, hx, hy]
      show nI 8 * nI (c0 / 8) + nI (c0 % 8) = nI c0
      rw [pk_mul, nI_add]; congr 1; omega
    rw [ec]
    refine ⟨vp_in_nI (by omega) (by omega), vp_in_nI (by omega) (by omega), fun z => ⟨vp_in_nI hc (by omega), fun h19 e19 x20 e20 => fin false h19 x20 ?_ e19 e20⟩, fun z => ⟨vp_in_nI hc (by omega), fun h21 e21 x22 e22 => fin true h21 x22 ?_ e21 e22⟩⟩
    · rw [Nat.testBit_two_pow, decide_eq_false (fun e => z (by rw [e]))]
    · rw [Nat.testBit_two_pow, decide_eq_true ((nI_eq (by omega) (by omega)).mp z).symm]
  · rintro t K ⟨h', rfl, f', g'⟩
    unfold DB_Mo_hidden_41
    exact ⟨fun _ => hE h' f' g', fun q => absurd (show (40 : Int32) ≤ nI 40 from Int32.le_refl _) q⟩
