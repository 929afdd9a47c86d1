/-! one thing told: the reference's side -/
theorem bnd_as {α β γ : Type} (x : Except (Nat × Nat) α) (f : α → Except (Nat × Nat) β) (g : β → Except (Nat × Nat) γ) : bnd (bnd x f) g = bnd x (fun a => bnd (f a) g) := by cases x <;> rfl
theorem tell_law {kd pl va : Nat → Nat} {nm : Nat → List Nat} {t : Nat} {P : PSt} (hk : kd t = 6 ∨ kd t = 7 ∨ kd t = 8) : tellP kd pl va nm t P = bnd (needP kd pl (kd t) t) (fun t1 => bnd (refL kd pl va t1) (fun p => .ok (p.1, lawS (kd t - 6) p.2 P))) := by
  unfold tellP tellB refL lawP
  rw [if_neg (by omega), if_neg (by omega), if_pos hk]
  cases needP kd pl (kd t) t with
  | error e => rfl
  | ok t1 =>
    show bnd (bnd (bnd (needP kd pl 24 t1) _) _) _ = bnd (bnd (needP kd pl 24 t1) _) _
    cases needP kd pl 24 t1 with
    | error e => rfl
    | ok t2 =>
      show bnd (bnd (lwL kd pl va 4 t2 []) _) _ = bnd (bnd (lwL kd pl va 4 t2 []) _) _
      cases lwL kd pl va 4 t2 [] with
      | error e => rfl
      | ok p =>
        show bnd (needP kd pl 23 p.1) _ = bnd (bnd (needP kd pl 23 p.1) _) _
        cases needP kd pl 23 p.1 with
        | error e => rfl
        | ok t' => rfl
theorem pl_le {c : Nat → Nat} {n t : Nat} : plT c n t ≤ plT c n (t + 1) := by
  have g : plT c n t ≤ tkE c n (plT c n t) := by
    unfold tkE
    split
    · omega
    · split
      · omega
      · split <;> omega
  have b : posT c n (t + 1) ≤ plT c n (t + 1) := by
    show posT c n (t + 1) ≤ blE c n (posT c n (t + 1))
    unfold blE
    exact runTo_p.1
  have e : posT c n (t + 1) = tkE c n (plT c n t) := rfl
  omega
theorem pl_mono {c : Nat → Nat} {n t : Nat} : ∀ k, plT c n t ≤ plT c n (t + k)
  | 0 => Nat.le_refl _
  | k + 1 => Nat.le_trans (pl_mono k) pl_le
theorem Fb.le {c : Nat → Nat} {n t t' : Nat} {fl : Option (Nat × Nat)} (h : t ≤ t') (g : Fb c n t fl) : Fb c n t' fl := fun k p e => by
  have a := g k p e
  have b := pl_mono (c := c) (n := n) (t := t) (t' - t)
  rw [show t + (t' - t) = t' by omega] at b
  omega
theorem P_MtellLawF {r : TR} {h : TH} {m sd b K0 k : Nat} {e : Nat × Nat} {v : Int32} {Q : TH → Prop} (hr : RMo r m) (f : FSt h m sd e b) (hs : sd < 2) (hb : 130 * sd ≤ b) (hb2 : b < 130 * sd + 108) (hQ : ∀ h', PL m sd k b K0 h h' → RfF h' m e.1 e.2 → Q h') : D_Mo_tellLaw r m v h Q := by
  have r35 : r m 35 = m + 21 := hr 35 (by decide) (by decide)
  have n0 : vp_nar .boolean 0 = 0 := by decide
  unfold D_Mo_tellLaw
  refine P_mustF f.1 (fun x3 e3 => ⟨0 + 1, lp_s ?_⟩)
  unfold DB_Mo_tellLaw_12
  refine ⟨fun _ => ?_, fun z => absurd z f.1.ne⟩
  show DJ_Mo_tellLaw_129 r m v x3 h Q
  unfold DJ_Mo_tellLaw_129
  rw [f.2.1, r35, nI_clamp (n := b) (by omega), n0]
  refine ⟨vp_in_nI (by omega) (by omega), fun h39 e39 => ?_⟩
  have em : h39.1 m = h.1 m := by rw [e39, pI_o _ _ _ _ (by omega)]
  have f39 : FSt h39 m sd e b := ⟨⟨f.1.1, by rw [em]; exact f.1.2.1, by rw [em]; exact f.1.2.2⟩, by rw [em]; exact f.2.1, by rw [em]; exact f.2.2⟩
  refine P_termF (b0 := b) (K0 := K0) (k := k) hr f39 hs (Nat.le_refl _) (by omega) (fun h40 p40 f40 => ?_)
  refine P_mustF f40.1 ⟨fun z => absurd z f40.1.pos, fun _ => hQ h40 (PL.tr (by rw [e39]; exact PL.br (by omega) (Nat.le_refl _) (by omega)) p40) f40.1⟩
theorem P_lawM {r : TR} {h0 h : TH} {m sd n J t b K k : Nat} {c : Nat → Nat} {P : PSt} {Q : TH → Prop} (hs : sd < 2) (hJ : Jok (kdT c n) J) (hv : ∀ t, kdT c n t = 3 → vaT c n t ≤ 9999) (s : MD r h0 h m sd c n J t b K P) (hf : Fb c n t (dF P)) (hk : kdT c n t = k + 6) (hk3 : k < 3)
    (hok : ∀ p, tellP (kdT c n) (plT c n) (vaT c n) (nmT c n) t P = .ok p → ∀ h' b' K', MD r h0 h' m sd c n J p.1 b' K' p.2 → Fb c n p.1 (dF p.2) → Q h')
    (her : ∀ e, tellP (kdT c n) (plT c n) (vaT c n) (nmT c n) t P = .error e → ∀ h', erM m sd e h0 h' → Q h') : DJ_Mo_tellOne_210 r m (nI k) h Q := by
  have hr := s.1.1.1.1
  have tJ := s.1.1.2.1
  have j4 := hJ.1
  have bd := s.2.2.2.2.2
  have bd' := bd
  unfold Bds at bd
  rw [tell_law (by omega)] at hok her
  unfold DJ_Mo_tellOne_210
  rw [s.1.1.2.2.1]
  refine ⟨fun _ => ?_, fun z => absurd (Int32.le_refl _) z⟩
  refine P_goesOn s.1.1 (fun t4 => ?_) (fun t4 h1 f1 => ?_)
  · rw [needP_t rfl t4] at hok her
    have s1 := s.on (hJ.2 t tJ (by omega) t4)
    refine P_MtellLaw s1.1 hs hk3 hJ hv (by omega) (by omega) (by omega) (by omega) (fun p hp h' b' K' pl l' x1 x2 x3 x4 lw => ?_) (fun e he h' pl f' => her e ?_ h' ⟨s1.2.1.tr (pl.F hk3 (by omega) (by omega)), f', ?_⟩)
    · refine hok (p.1, lawS k p.2 P) ?_ h' b' K' ?_ (Fb.le (t := t) ?_ hf)
      · show bnd (refL _ _ _ (t + 1)) _ = _
        rw [hp, hk]
        show Except.ok (p.1, lawS (k + 6 - 6) p.2 P) = _
        rw [Nat.add_sub_cancel]
      · obtain ⟨-, s2, s3, ⟨d0, d1, d2⟩, s5, s6⟩ := s1
        have ea : ∀ a, m + 9 ≤ a → a ≤ m + 18 → h'.1 a = (pI h m 11 (nI (t + 1))).1 a := fun a y z => (pl.1 a (by omega)).1
        have em : ∀ j, j = 15 ∨ j = 16 ∨ j = 20 → h'.1 m j = (pI h m 11 (nI (t + 1))).1 m j := fun j hj => pl.2.1 j (by omega) (by omega) (by omega) (by omega) (by omega) (by omega) (by omega)
        have B := s3.mv ea (pl.1 (m + 8) (by omega)).2 (em 20 (by omega))
        have oth : ∀ k' pn (Ps : List (List Nat)), ¬ k' = k → DM1 (pI h m 11 (nI (t + 1))) m sd k' pn Ps b K → DM1 h' m sd k' pn Ps b' K' := fun k' pn Ps hne g => g.mv x3 x2 (pl.2.2.1 _ (by omega)).1 (pl.2.2.1 _ (by omega)).2 (fun x hx a y z => pl.2.2.2.1 x (Or.inl hx) a y z) (fun x hx => pl.2.2.2.2 x (Or.inl hx))
        refine ⟨l', s2.tr (pl.F hk3 (by omega) (by omega)), B, ?_, s5.mv (em 15 (by omega)) (em 16 (by omega)), by unfold Bds; omega⟩
        have k012 : k = 0 ∨ k = 1 ∨ k = 2 := by omega
        rcases k012 with rfl | rfl | rfl
        · exact ⟨Or.inl lw, oth 1 1 _ (by omega) d1, oth 2 1 _ (by omega) d2⟩
        · exact ⟨oth 0 0 _ (by omega) d0, Or.inl lw, oth 2 1 _ (by omega) d2⟩
        · exact ⟨oth 0 0 _ (by omega) d0, oth 1 1 _ (by omega) d1, Or.inl lw⟩
      · unfold refL at hp
        obtain ⟨t2, y1, hp⟩ := bnd_ok hp
        obtain ⟨q, y2, hp⟩ := bnd_ok hp
        obtain ⟨t', y3, hp⟩ := bnd_ok hp
        have z1 := needP_ok y1
        have z3 := needP_ok y3
        have jj := hJ.2 (t + 1) s1.1.1.2.1 (by omega) z1.2.1
        have z2 := lwL_31 hJ hv 4 t2 [] q (by omega) ⟨0, rfl⟩ y2
        cases hp
        show t ≤ t'
        omega
    · show bnd (refL _ _ _ (t + 1)) _ = _
      rw [he]; rfl
    · rw [pl.2.1 19 (by omega) (by omega) (by omega) (by omega) (by omega) (by omega) (by omega)]; exact s1.1.2.2.2.2
  · have g1 : erM m sd (2, plT c n t) h0 h1 := FaultM.er (e := (2, plT c n t)) f1 ⟨(by decide : ¬ (2 : Nat) = 0), (by decide : (2 : Nat) ≤ 9)⟩ s
    have F1 : FSt h1 m sd (2, plT c n t) b := FaultM.FSt (e := (2, plT c n t)) f1 ⟨(by decide : ¬ (2 : Nat) = 0), (by decide : (2 : Nat) ≤ 9)⟩ s.1
    refine P_MtellLawF (K0 := K) (k := k) hr F1 hs (by omega) (by omega) (fun h' pl f' => her (2, plT c n t) (by rw [needP_2 rfl t4]; rfl) h' ⟨g1.1.tr (pl.F hk3 (by omega) (by omega)), f', ?_⟩)
    rw [pl.2.1 19 (by omega) (by omega) (by omega) (by omega) (by omega) (by omega) (by omega)]; exact g1.2.2
