def TkM (h : TH) (m : Nat) (c : Nat → Nat) (n J : Nat) : Prop := ∀ j, j ≤ J → h.1 (m + 3) j = nI (mkK (kdT c n j)) ∧ h.1 (m + 4) j = nI (plT c n j) ∧ (kdT c n j = 3 → h.1 (m + 5) j = nI (vaT c n j)) ∧ (kdT c n j = 2 → h.2 (m + 6) j = lN (bse 27 (nmT c n j)))
theorem P_cut {r : TR} {h : TH} {m n J : Nat} {f : Nat → Int32} {Q : TH → Prop} (t : TpM r h m n f) (hk : ∀ k, k < 19 → h.2 (m + 7) k = lN (b27 (wdL.getD k []))) (hJ : stp (fun j => byC (f j)) n J) (hQ : ∀ h', Fr (fun a => a = m ∨ (m + 3 ≤ a ∧ a ≤ m + 6)) h h' → (∀ x, ¬ x = 10 → h'.1 m x = h.1 m x) → TkM h' m (fun j => byC (f j)) n J → Q h') : D_Mo_cut r m h Q := by
  have hr := t.1
  have n2 := t.2.2.1
  have r9 : r m 9 = m + 7 := hr 9 (by decide) (by decide)
  unfold D_Mo_cut
  intro h1 e1
  have F1 : Fr (fun a => a = m ∨ (m + 3 ≤ a ∧ a ≤ m + 6)) h h1 := by rw [e1]; exact Fr.pI (Or.inl rfl)
  have X1 : ∀ x, ¬ x = 10 → h1.1 m x = h.1 m x := fun x hx => by rw [e1, pI_n _ _ _ _ (by omega)]
  refine lp_inv (fun s => ∃ i T h', s = (nI i, h') ∧ i ≤ n ∧ T ≤ 401 ∧ Fr (fun a => a = m ∨ (m + 3 ≤ a ∧ a ≤ m + 6)) h h' ∧ (∀ x, ¬ x = 10 → h'.1 m x = h.1 m x) ∧ h'.1 m 10 = nI T ∧ blE (fun j => byC (f j)) n i = plT (fun j => byC (f j)) n T ∧ ∀ u, u < T → h'.1 (m + 3) u = nI (mkK (kdT (fun j => byC (f j)) n u)) ∧ h'.1 (m + 4) u = nI (plT (fun j => byC (f j)) n u) ∧ (kdT (fun j => byC (f j)) n u = 3 → h'.1 (m + 5) u = nI (vaT (fun j => byC (f j)) n u)) ∧ (kdT (fun j => byC (f j)) n u = 2 → h'.2 (m + 6) u = lN (bse 27 (nmT (fun j => byC (f j)) n u)))) (fun s => n - s.1.toNatClampNeg) ?_ _ ⟨0, 0, h1, rfl, Nat.zero_le _, by omega, F1, X1, by rw [e1, pI_s]; rfl, rfl, fun u hu => by omega⟩
  rintro K s ⟨i, T, h', rfl, hi, hT, f', x', eT, ebl, g'⟩ hK
  have t' : TpM r h' m n f := t.mv (x' 4 (by omega)) ((f' _ (by omega)).1)
  have mu : ∀ j, i < j → j ≤ n → n - (nI j).toNatClampNeg < n - (nI i).toNatClampNeg := fun j a b => by rw [nI_clamp (by omega), nI_clamp (by omega)]; omega
  have jd := hJ.2.1
  unfold DB_Mo_cut_7
  rw [eT]
  refine ⟨fun z => ?_, fun z => ?_⟩
  · have : 400 < T := (nI_ltI (a := 400) (by omega) (by omega)).mp z
    exact hQ h' f' x' (fun j hj => g' j (by have := hJ.1; omega))
  · have hT4 : T ≤ 400 := by
      rcases Nat.lt_or_ge 400 T with w | w
      · exact absurd (nI_lt (a := 400) w (by omega)) z
      · exact w
    refine P_byteAt t' (by omega) ?_
    rw [x' 4 (by omega), t.2.1]
    refine ⟨fun y => ?_, fun y => ?_⟩
    · have hin := (nI_ltI (by omega) (by omega)).mp y
      have ec : cbF' f n i = byC (f i) := by unfold cbF'; rw [if_pos hin]
      have c256 := cb_lt t' i
      have bl : ∀ x7 : Int32, isBl (byC (f i)) = true → x7 = nI i + 1 → K (x7, h') := by
        intro x7 eb e7
        rw [nI_1] at e7; subst e7
        refine hK _ ⟨i + 1, T, h', rfl, by omega, hT, f', x', eT, ?_, g'⟩ (mu _ (by omega) (by omega))
        rw [← ebl]; exact (runTo_s (p := fun j => isBl (byC (f j))) hin eb).symm
      rw [ec] at c256 ⊢
      have bv : ∀ d : Nat, d < 256 → nI (byC (f i)) = nI d → byC (f i) = d := fun d hd e => (nI_eq (by omega) (by omega)).mp e
      refine ⟨fun w x9 e9 => bl x9 (isBl_i.mpr (Or.inl (bv 9 (by omega) w))) e9, fun w1 => ⟨fun w x9 e9 => bl x9 (isBl_i.mpr (Or.inr (Or.inl (bv 10 (by omega) w)))) e9, fun w2 => ⟨fun w x9 e9 => bl x9 (isBl_i.mpr (Or.inr (Or.inr (Or.inl (bv 13 (by omega) w))))) e9, fun w3 => ⟨fun w4 => ?_, fun w x9 e9 => bl x9 (isBl_i.mpr (Or.inr (Or.inr (Or.inr (bv 32 (by omega) w))))) e9⟩⟩⟩⟩
      have nb : ¬ (i < n ∧ isBl (byC (f i)) = true) := by
        intro w
        rcases isBl_i.mp w.2 with u | u | u | u
        · exact w1 (by rw [u]; rfl)
        · exact w2 (by rw [u]; rfl)
        · exact w3 (by rw [u]; rfl)
        · exact w4 (by rw [u]; rfl)
      have ei : plT (fun j => byC (f j)) n T = i := by rw [← ebl]; exact runTo_x nb
      have eK : kdT (fun j => byC (f j)) n T = tkK (fun j => byC (f j)) n i := by unfold kdT; rw [ei]
      have eV : vaT (fun j => byC (f j)) n T = tkV (fun j => byC (f j)) n i := by unfold vaT; rw [ei]
      have eN : nmT (fun j => byC (f j)) n T = nmL (fun j => byC (f j)) i (ltE (fun j => byC (f j)) n i) := by unfold nmT; rw [ei]
      obtain ⟨k1, k2, k3⟩ := tkE_le (c := fun j => byC (f j)) hi
      obtain ⟨l1, l2, l3⟩ := lt_run (c := fun j => byC (f j)) (n := n) (i := i) hi
      obtain ⟨d1, d2, d3⟩ := dg_run (c := fun j => byC (f j)) (n := n) (i := i) hi
      have nxt : ∀ (h2 : TH) (k v : Int32) (nm : Int64) (y : Int32), TokH m T k (nI i) v nm h' h2 → k = nI (mkK (tkK (fun j => byC (f j)) n i)) → (tkK (fun j => byC (f j)) n i = 3 → v = nI (tkV (fun j => byC (f j)) n i)) → (tkK (fun j => byC (f j)) n i = 2 → nm = lN (bse 27 (nmL (fun j => byC (f j)) i (ltE (fun j => byC (f j)) n i)))) → y = nI (tkE (fun j => byC (f j)) n i) → K (y, h2) := by
        rintro h2 k v nm y ⟨a1, a2, a3, a4, a5, a6, a7, a8⟩ ek ev en ey
        subst ey
        refine hK _ ⟨tkE (fun j => byC (f j)) n i, T + 1, h2, rfl, k2, by omega, f'.tr a1, fun x hx => (a2 x hx).trans (x' x hx), a3, ?_, fun u hu => ?_⟩ (mu _ (k3 hin) k2)
        · show blE _ n _ = blE _ n (posT _ n (T + 1))
          show blE _ n _ = blE _ n (tkE _ n (plT _ n T))
          rw [ei]
        · by_cases e : u = T
          · subst e
            rw [a5, a6, a7, a8, eK, eV, eN, ei]
            exact ⟨ek, rfl, ev, en⟩
          · rw [(a4 u e).1, (a4 u e).2.1, (a4 u e).2.2.1, (a4 u e).2.2.2]; exact g' u (by omega)
      refine P_isLetter c256 (fun lt => ⟨fun u => absurd u z01, fun _ => ?_⟩) (fun lt => ⟨fun _ => ?_, fun u => absurd rfl u⟩)
      · have L1 : 0 < ltE (fun j => byC (f j)) n i := (l3 hin).mpr lt
        have eE : tkE (fun j => byC (f j)) n i = i + ltE (fun j => byC (f j)) n i := by unfold tkE; rw [if_neg (by omega), if_pos L1]
        have en : ¬ (i + ltE (fun j => byC (f j)) n i < n ∧ isLt (byC (f (i + ltE (fun j => byC (f j)) n i))) = true) := by
          have a := (runTo_p (p := fun j => isLt (byC (f j))) (n := n) (i := i)).2.2.2
          have b := (runTo_p (p := fun j => isLt (byC (f j))) (n := n) (i := i)).1
          have e : i + ltE (fun j => byC (f j)) n i = runTo (fun j => isLt (byC (f j))) n i := by show i + (runTo (fun j => isLt (byC (f j))) n i - i) = _; omega
          rw [e]; exact a
        refine lp_for (ltE (fun j => byC (f j)) n i) (fun k s => s = (nI k, lN (bse 27 (nmL (fun j => byC (f j)) i (min k 8))), h')) ?_ ?_ _ rfl
        · rintro k s K2 hk2 rfl hK2
          have cl := l2 k hk2
          have cl' := isLt_i.mp cl
          have eck : cbF' f n (i + k) = byC (f (i + k)) := by unfold cbF'; rw [if_pos (by omega)]
          unfold DB_Mo_cut_85
          rw [nI_add]
          refine P_byteAt t' (by omega) ?_
          rw [eck]
          refine P_isLetter (by omega) (fun _ => ⟨fun u => absurd u z01, fun _ => ⟨fun w x57 e57 => ?_, fun w => ?_⟩⟩) (fun u => by rw [cl] at u; exact absurd u (by decide))
          · rw [nI_1] at e57; subst e57
            have w' := (nI_leI (a := 8) (by omega) (by omega)).mp w
            refine hK2 _ ?_
            rw [show min (k + 1) 8 = min k 8 by omega]
          · have w' : k < 8 := by
              rcases Nat.lt_or_ge k 8 with u | u
              · exact u
              · exact absurd (nI_le (a := 8) u (by omega)) w
            refine P_byteAt t' (by omega) ?_
            rw [eck]
            unfold D_Mo_appends
            refine ⟨fun _ x63 e63 => ?_, fun u => absurd u (nI_ne0 (by omega) (by omega))⟩
            rw [nI_1] at e63; subst e63
            refine hK2 _ ?_
            have ea : ((27 : Int64) * lN (bse 27 (nmL (fun j => byC (f j)) i (min k 8)))) + ((nI (byC (f (i + k))) - 97 + 1).toInt64) = lN (bse 27 (nmL (fun j => byC (f j)) i (min (k + 1) 8))) := by
              have e1 : nI (byC (f (i + k))) - 97 + 1 = nI (byC (f (i + k)) - 96) := by
                show nI (byC (f (i + k))) - nI 97 + 1 = _
                rw [pk_sub (by omega), nI_1]; congr 1; omega
              rw [e1, nI_l (by omega), show min k 8 = k by omega, show min (k + 1) 8 = k + 1 by omega, nmL_s, bse_snoc]
              show lN 27 * lN _ + lN _ = _
              rw [la_mul, la_add]
            rw [← ea]
        · rintro s K2 rfl
          unfold DB_Mo_cut_85
          rw [nI_add]
          refine P_byteAt t' (by omega) ?_
          have nl : isLt (cbF' f n (i + ltE (fun j => byC (f j)) n i)) = false := by
            unfold cbF'
            split
            · next w => exact bf_of (fun u => en ⟨w, u⟩)
            · rfl
          have fin : ∀ kk : Nat, kk = mkK (tkK (fun j => byC (f j)) n i) → DJ_Mo_cut_179 r m (nI i) (nI (ltE (fun j => byC (f j)) n i)) (lN (bse 27 (nmL (fun j => byC (f j)) i (min (ltE (fun j => byC (f j)) n i) 8)))) (nI kk) h' (fun y91 h92 => K (y91, h92)) (fun h93 => Q h93) Q := by
            intro kk ekk
            unfold DJ_Mo_cut_179
            refine P_token hr (by omega) eT (fun h2 tk x75 e75 => nxt h2 _ _ _ x75 tk (by rw [ekk]) (fun w => ?_) (fun w => ?_) (by rw [e75, nI_add, eE]))
            · exfalso
              unfold tkK at w
              rw [if_neg (by omega), if_pos L1] at w
              split at w
              · omega
              · have := (wkd_le (nmL (fun j => byC (f j)) i (ltE (fun j => byC (f j)) n i))).2.2
                omega
            · have : ltE (fun j => byC (f j)) n i ≤ 8 := by
                rcases Nat.lt_or_ge 8 (ltE (fun j => byC (f j)) n i) with u | u
                · unfold tkK at w
                  rw [if_neg (by omega), if_pos L1, if_pos u] at w
                  omega
                · exact u
              rw [show min (ltE (fun j => byC (f j)) n i) 8 = ltE (fun j => byC (f j)) n i by omega]
          refine P_isLetter (cb_lt t' _) (fun u => by rw [nl] at u; exact absurd u (by decide)) (fun _ => ⟨fun _ => ⟨fun w => ?_, fun w => ?_⟩, fun u => absurd rfl u⟩)
          · have w' := (nI_leI (b := 8) (by omega) (by omega)).mp w
            have eT2 : tkK (fun j => byC (f j)) n i = wkd (nmL (fun j => byC (f j)) i (ltE (fun j => byC (f j)) n i)) := by unfold tkK; rw [if_neg (by omega), if_pos L1, if_neg (by omega)]
            unfold DJ_Mo_cut_135
            refine ⟨fun y7 => fin 1 ?_, fun y7 => ?_⟩
            · have := (nI_ltI (a := 7) (by omega) (by omega)).mp y7
              rw [eT2, wkd_8 (by rw [nmL_len]; omega)]; rfl
            · have y7' : ltE (fun j => byC (f j)) n i ≤ 7 := by
                rcases Nat.lt_or_ge 7 (ltE (fun j => byC (f j)) n i) with u | u
                · exact absurd (nI_lt (a := 7) u (by omega)) y7
                · exact u
              have em : min (ltE (fun j => byC (f j)) n i) 8 = ltE (fun j => byC (f j)) n i := by omega
              have lls := nmL_lt (c := fun j => byC (f j)) l2
              have bl8 := bse_lt8 (b := 27) (by omega) (by omega) (l := nmL (fun j => byC (f j)) i (ltE (fun j => byC (f j)) n i)) (by rw [nmL_len]; omega) lls
              refine lp_for 19 (fun k s => s = (nI (kkF (nmL (fun j => byC (f j)) i (ltE (fun j => byC (f j)) n i)) k), nI k, h')) ?_ ?_ _ rfl
              · rintro k s K2 hk2 rfl hK2
                have wo := wdL_ok ⟨k, hk2⟩
                simp only [] at wo
                have wl8 := bse_lt8 (b := 27) (by omega) (by omega) (l := wdL.getD k []) (by omega) wo.2.2
                unfold DB_Mo_cut_146
                rw [r9, nI_clamp (n := k) (by omega), (f' (m + 7) (by omega)).2, hk k hk2, em]
                have eqv : lg_cmp (lN (b27 (wdL.getD k []))) (lN (bse 27 (nmL (fun j => byC (f j)) i (ltE (fun j => byC (f j)) n i)))) = 0 ↔ wdL.getD k [] = nmL (fun j => byC (f j)) i (ltE (fun j => byC (f j)) n i) := by
                  rw [cmp0, b27_bse, pk_lEQ (by omega) (by omega)]
                  exact ⟨fun u => bse_inj (by omega) _ _ _ (Nat.le_refl _) wo.2.2 lls u, fun u => by rw [u]⟩
                refine ⟨fun u => absurd ((nI_leI (a := 19) (by omega) (by omega)).mp u) (by omega), fun _ => ⟨vp_in_nI hk2 (by omega), fun u x80 e80 => ?_, fun u x81 e81 x82 e82 => ?_⟩⟩
                · rw [nI_1] at e80; subst e80
                  refine hK2 _ ?_
                  conv => rhs; unfold kkF
                  rw [if_neg (fun v => u (eqv.mpr v))]
                · rw [nI_1] at e82; subst e82
                  have : x81 = nI (20 + k) := by rw [e81]; exact nI_add 20 k
                  subst this
                  refine hK2 _ ?_
                  conv => rhs; unfold kkF
                  rw [if_pos (eqv.mp u)]
              · rintro s K2 rfl
                unfold DB_Mo_cut_146
                exact ⟨fun _ => fin _ (by rw [kk_wkd, eT2]), fun u => absurd (show (19 : Int32) ≤ nI 19 from Int32.le_refl _) u⟩
          · have w' : ¬ ltE (fun j => byC (f j)) n i ≤ 8 := fun u => w (nI_le (b := 8) u (by omega))
            unfold DJ_Mo_cut_135
            refine ⟨fun _ => fin 3 ?_, fun u => absurd (nI_lt (a := 7) (by omega) (by omega)) u⟩
            unfold tkK
            rw [if_neg (by omega), if_pos L1, if_pos (by omega)]; rfl
      · have L0 : ¬ 0 < ltE (fun j => byC (f j)) n i := fun w => by rw [(l3 hin).mp w] at lt; exact absurd lt (by decide)
        refine P_isDigit c256 (fun dg => ⟨fun u => absurd u z01, fun _ => ?_⟩) (fun dg => ⟨fun _ => ?_, fun u => absurd rfl u⟩)
        · have D1 : 0 < dgE (fun j => byC (f j)) n i := (d3 hin).mpr dg
          have eE : tkE (fun j => byC (f j)) n i = i + dgE (fun j => byC (f j)) n i := by unfold tkE; rw [if_neg (by omega), if_neg L0, if_pos D1]
          have en : ¬ (i + dgE (fun j => byC (f j)) n i < n ∧ isDg (byC (f (i + dgE (fun j => byC (f j)) n i))) = true) := by
            have a := (runTo_p (p := fun j => isDg (byC (f j))) (n := n) (i := i)).2.2.2
            have b := (runTo_p (p := fun j => isDg (byC (f j))) (n := n) (i := i)).1
            have e : i + dgE (fun j => byC (f j)) n i = runTo (fun j => isDg (byC (f j))) n i := by show i + (runTo (fun j => isDg (byC (f j))) n i - i) = _; omega
            rw [e]; exact a
          refine lp_for (dgE (fun j => byC (f j)) n i) (fun k s => s = (nI k, nI (nuF (fun j => byC (f j)) i (min k 4)), h')) ?_ ?_ _ rfl
          · rintro k s K2 hk2 rfl hK2
            have cl := d2 k hk2
            have cl' := isDg_i.mp cl
            have eck : cbF' f n (i + k) = byC (f (i + k)) := by unfold cbF'; rw [if_pos (by omega)]
            unfold DB_Mo_cut_208
            rw [nI_add]
            refine P_byteAt t' (by omega) ?_
            rw [eck]
            refine P_isDigit (by omega) (fun _ => ⟨fun u => absurd u z01, fun _ => ⟨fun w x57 e57 => ?_, fun w => ?_⟩⟩) (fun u => by rw [cl] at u; exact absurd u (by decide))
            · rw [nI_1] at e57; subst e57
              have w' := (nI_leI (a := 4) (by omega) (by omega)).mp w
              refine hK2 _ ?_
              rw [show min (k + 1) 4 = min k 4 by omega]
            · have w' : k < 4 := by
                rcases Nat.lt_or_ge k 4 with u | u
                · exact u
                · exact absurd (nI_le (a := 4) u (by omega)) w
              refine P_byteAt t' (by omega) ?_
              rw [eck]
              intro x37 e37 x38 e38
              rw [nI_1] at e38; subst e38
              have : x37 = nI (nuF (fun j => byC (f j)) i (min (k + 1) 4)) := by
                rw [e37, show min k 4 = k by omega, show min (k + 1) 4 = k + 1 by omega]
                show (nI 10 * nI (nuF (fun j => byC (f j)) i k) + nI (byC (f (i + k)))) - nI 48 = _
                rw [pk_mul, nI_add, pk_sub (by omega)]
                show nI _ = nI (10 * nuF (fun j => byC (f j)) i k + (byC (f (i + k)) - 48))
                congr 1
                omega
              subst this
              exact hK2 _ rfl
          · rintro s K2 rfl
            unfold DB_Mo_cut_208
            rw [nI_add]
            refine P_byteAt t' (by omega) ?_
            have nl : isDg (cbF' f n (i + dgE (fun j => byC (f j)) n i)) = false := by
              unfold cbF'
              split
              · next w => exact bf_of (fun u => en ⟨w, u⟩)
              · rfl
            have eVd : tkV (fun j => byC (f j)) n i = nuF (fun j => byC (f j)) i (min (dgE (fun j => byC (f j)) n i) 4) := by unfold tkV; rw [if_neg L0]
            have fin : ∀ kk : Nat, kk = mkK (tkK (fun j => byC (f j)) n i) → DJ_Mo_cut_261 r m (nI i) (nI (dgE (fun j => byC (f j)) n i)) (nI (nuF (fun j => byC (f j)) i (min (dgE (fun j => byC (f j)) n i) 4))) (nI kk) m h' (fun y91 h92 => K (y91, h92)) (fun h93 => Q h93) Q := by
              intro kk ekk
              unfold DJ_Mo_cut_261
              refine P_token hr (by omega) eT (fun h2 tk x75 e75 => nxt h2 _ _ _ x75 tk (by rw [ekk]) (fun _ => by rw [eVd]) (fun w => ?_) (by rw [e75, nI_add, eE]))
              exfalso
              unfold tkK at w
              rw [if_neg (by omega), if_neg L0, if_pos D1] at w
              split at w <;> omega
            refine P_isDigit (cb_lt t' _) (fun u => by rw [nl] at u; exact absurd u (by decide)) (fun _ => ⟨fun _ => ⟨fun w => fin 2 ?_, fun w => fin 3 ?_⟩, fun u => absurd rfl u⟩)
            · have w' := (nI_leI (b := 4) (by omega) (by omega)).mp w
              unfold tkK
              rw [if_neg (by omega), if_neg L0, if_pos D1, if_neg (by omega)]; rfl
            · have w' : ¬ dgE (fun j => byC (f j)) n i ≤ 4 := fun u => w (nI_le (b := 4) u (by omega))
              unfold tkK
              rw [if_neg (by omega), if_neg L0, if_pos D1, if_pos (by omega)]; rfl
        · have D0 : ¬ 0 < dgE (fun j => byC (f j)) n i := fun w => by rw [(d3 hin).mp w] at dg; exact absurd dg (by decide)
          have eE : tkE (fun j => byC (f j)) n i = i + 1 := by unfold tkE; rw [if_neg (by omega), if_neg L0, if_neg D0]
          have eKs : tkK (fun j => byC (f j)) n i = sgK (byC (f i)) := by unfold tkK; rw [if_neg (by omega), if_neg L0, if_neg D0]
          rw [nI_1]
          refine P_byteAt t' (by omega) ?_
          refine P_sign hr (by omega) eT c256 (fun h2 tk x25 e25 => nxt h2 _ _ _ x25 tk (by rw [eKs]) (fun w => ?_) (fun w => ?_) (by rw [e25, eE, ← nI_1]))
          · exfalso
            rw [eKs] at w
            have := ix_sg ⟨byC (f i), c256⟩
            simp only [] at this
            omega
          · exfalso
            rw [eKs] at w
            have := ix_sg ⟨byC (f i), c256⟩
            simp only [] at this
            omega
    · have hin : n ≤ i := by
        rcases Nat.lt_or_ge i n with w | w
        · exact absurd (nI_lt w (by omega)) y
        · exact w
      have ei : plT (fun j => byC (f j)) n T = i := by rw [← ebl]; exact runTo_x (by omega)
      have eK : kdT (fun j => byC (f j)) n T = 0 := by unfold kdT tkK; rw [ei, if_pos hin]
      have hJT : J ≤ T := by
        rcases Nat.lt_or_ge T J with w | w
        · have := jd T w; omega
        · exact w
      refine P_token hr (by omega) eT (fun h2 tk => ?_)
      obtain ⟨a1, a2, a3, a4, a5, a6, a7, a8⟩ := tk
      refine hQ h2 (f'.tr a1) (fun x hx => (a2 x hx).trans (x' x hx)) (fun u hu => ?_)
      by_cases e : u = T
      · subst e
        rw [a5, a6, eK, ei, show i = n by omega]
        exact ⟨rfl, rfl, fun w => by omega, fun w => by omega⟩
      · rw [(a4 u e).1, (a4 u e).2.1, (a4 u e).2.2.1, (a4 u e).2.2.2]; exact g' u (by omega)
