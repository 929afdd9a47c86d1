/-- law number a (3 * side + kind) of the reference, told as pieces; plain: what it is if not told -/
def LawM (h : TH) (m a plain : Nat) (Ps : List (List Nat)) : Prop := ∃ f nb, h.1 (m + 19) a = nI f ∧ h.1 (m + 20) a = nI (f + nb) ∧ f + nb ≤ 260 ∧
  ((nb = 0 ∧ Ps = [[plain]]) ∨ (1 ≤ nb ∧ Ps.length = 3 * (nb - 1) + 1 ∧
    (∀ i, i < nb - 1 → h.1 (m + 21) (f + i) = 1 ∧ Seg h m (h.1 (m + 22) (f + i)) (h.1 (m + 23) (f + i)) (Ps.getD (3 * i) []) ∧ Seg h m (h.1 (m + 23) (f + i)) (h.1 (m + 24) (f + i)) (Ps.getD (3 * i + 1) []) ∧ Seg h m (h.1 (m + 24) (f + i)) (h.1 (m + 25) (f + i)) (Ps.getD (3 * i + 2) [])) ∧
    h.1 (m + 21) (f + (nb - 1)) = 0 ∧ Seg h m (h.1 (m + 24) (f + (nb - 1))) (h.1 (m + 25) (f + (nb - 1))) (Ps.getD (3 * (nb - 1)) [])))
theorem P_asks119 {r : TR} {m p : Nat} {h : TH} {cs : List Nat} {Q : Int32 → TH → Prop} (hr : RMo r m) (hp : p < 260) (hb : h.1 m 47 = 0) (hg : Seg h m (h.1 (m + 24) p) (h.1 (m + 25) p) cs)
    (hQ : ∀ h', SM m h h' → Q ((evP (h.1 (m + 29)) cs).getD 0) h') : DJ_Mo_asks_119 r m (nI p) h Q := by
  have r38 : r m 38 = m + 24 := hr 38 (by decide) (by decide)
  have r39 : r m 39 = m + 25 := hr 39 (by decide) (by decide)
  unfold DJ_Mo_asks_119
  rw [r38, r39, nI_clamp (by omega)]
  refine ⟨vp_in_nI hp (by omega), vp_in_nI hp (by omega), P_termOf hr hg (fun h1 x f1 e1 => ⟨fun _ => ?_, fun q => absurd ?_ q⟩) (fun h1 f1 e1 => ⟨fun q => ?_, fun _ => ?_⟩)⟩
  · have := hQ h1 (SM.fr f1)
    rw [e1] at this
    exact this
  · rw [(f1 m (by omega)).1]; exact hb
  · rw [pI_s] at q; exact absurd q (by decide)
  · have := hQ (pI h1 m 47 1) ((SM.fr f1).tr SM.mark)
    rw [e1] at this
    exact this
theorem P_asks {r : TR} {m L k plain : Nat} {h : TH} {Ps : List (List Nat)} {Q : Int32 → TH → Prop} (hr : RMo r m) (hl : h.1 m 18 = nI L) (hL : L < 2) (hk : k < 3) (hpl : plain < 10000) (hM : LawM h m (3 * L + k) plain Ps)
    (hQ : ∀ h', SM m h h' → Q (tellsF (h.1 (m + 29)) Ps) h') : D_Mo_asks r m (nI k) (nI plain) h Q := by
  have r32 : r m 32 = m + 19 := hr 32 (by decide) (by decide)
  have r33 : r m 33 = m + 20 := hr 33 (by decide) (by decide)
  have r35 : r m 35 = m + 21 := hr 35 (by decide) (by decide)
  have r36 : r m 36 = m + 22 := hr 36 (by decide) (by decide)
  have r37 : r m 37 = m + 23 := hr 37 (by decide) (by decide)
  have r38 : r m 38 = m + 24 := hr 38 (by decide) (by decide)
  obtain ⟨f, nb, hf, hlast, hfn, hcase⟩ := hM
  unfold D_Mo_asks
  intro x1 e1
  have e1' : x1 = nI (3 * L + k) := by
    rw [e1, hl]
    have : (3 : Int32) * nI L = nI (3 * L) := pk_mul 3 L
    rw [this, nI_add]
  subst e1'
  rw [r32, r33, nI_clamp (n := 3 * L + k) (by omega), hf, hlast]
  refine ⟨vp_in_nI (by omega) (by omega), vp_in_nI (by omega) (by omega), fun q => ?_, fun q => ?_⟩
  · have hnb : 1 ≤ nb := by
      rcases Nat.eq_zero_or_pos nb with z | z
      · exact absurd (by rw [z, Nat.add_zero]) q
      · exact z
    rcases hcase with ⟨z, _⟩ | ⟨_, hlen, hpc, hlt, hlseg⟩
    · omega
    intro h5 e5
    refine ⟨vp_in_nI (by omega) (by omega), ?_⟩
    have s5 : SM m h h5 := by rw [e5]; exact SM.mark
    intro x7 e7
    rw [s5.at (by omega) (by omega), hf] at e7
    subst e7
    have key : ∀ (w j : Nat) (h2 : TH), j + w + 1 = nb → SM m h h2 → h2.1 m 47 = 0 → tellsF (h.1 (m + 29)) Ps = tellsF (h.1 (m + 29)) (Ps.drop (3 * j)) →
        lp (fun (K : Int32 × TH → Prop) (s : Int32 × TH) => DB_Mo_asks_39 r m (nI (3 * L + k)) s.1 s.2 (fun y31 h32 => K (y31, h32)) (fun h33 => Q 0 h33) Q) (w + 1) (nI (f + j), h2) := by
      intro w
      induction w with
      | zero =>
        intro j h2 hj hS hb ht
        refine lp_s ?_
        have ej : j = nb - 1 := by omega
        show DB_Mo_asks_39 r m (nI (3 * L + k)) (nI (f + j)) h2 _ _ Q
        unfold DB_Mo_asks_39
        rw [r33, r35, nI_clamp (n := 3 * L + k) (by omega), nI_clamp (n := f + j) (by omega), hS.at (x := m + 20) (by omega) (by omega), hS.at (x := m + 21) (by omega) (by omega), hlast]
        refine ⟨vp_in_nI (by omega) (by omega), fun q => absurd ((nI_leI (by omega) (by omega)).mp q) (by omega), fun _ => ⟨vp_in_nI (by omega) (by omega), fun _ => ?_, fun q => absurd ?_ q⟩⟩
        · have g : Seg h2 m (h2.1 (m + 24) (f + j)) (h2.1 (m + 25) (f + j)) (Ps.getD (3 * j) []) := by
            rw [hS.at (x := m + 24) (by omega) (by omega), hS.at (x := m + 25) (by omega) (by omega), ej]
            exact hlseg.sm hS
          refine P_asks119 hr (by omega) hb g (fun h' s' => ?_)
          have h1 := hQ h' (hS.tr s')
          rw [ht] at h1
          have ed : Ps.drop (3 * j) = [Ps.getD (3 * j) []] := by
            apply List.ext_getElem?
            intro i
            rw [List.getElem?_drop]
            rcases Nat.eq_zero_or_pos i with z | z
            · subst z
              rw [Nat.add_zero, List.getD_eq_getElem?_getD, List.getElem?_eq_getElem (by omega)]
              rfl
            · rw [List.getElem?_eq_none (by omega), List.getElem?_eq_none (by simp; omega)]
          rw [ed] at h1
          rw [hS.at (x := m + 29) (by omega) (by omega)]
          exact h1
        · rw [ej]; exact hlt
      | succ w ih =>
        intro j h2 hj hS hb ht
        have hjn : j < nb - 1 := by omega
        obtain ⟨p1, p2, p3, p4⟩ := hpc j hjn
        have ed : Ps.drop (3 * j) = Ps.getD (3 * j) [] :: Ps.getD (3 * j + 1) [] :: Ps.getD (3 * j + 2) [] :: Ps.drop (3 * (j + 1)) := by
          have g : ∀ k, k < Ps.length → Ps.drop k = Ps.getD k [] :: Ps.drop (k + 1) := by
            intro k hk
            rw [List.drop_eq_getElem_cons hk, List.getD_eq_getElem?_getD, List.getElem?_eq_getElem hk]; rfl
          rw [g (3 * j) (by omega), g (3 * j + 1) (by omega), g (3 * j + 1 + 1) (by omega)]
          have e : 3 * (j + 1) = 3 * j + 1 + 1 + 1 := by omega
          rw [e]
        obtain ⟨d, rest, er⟩ : ∃ d rest, Ps.drop (3 * (j + 1)) = d :: rest := by
          cases hc : Ps.drop (3 * (j + 1)) with
          | nil =>
            have := congrArg List.length hc
            rw [List.length_drop, List.length_nil] at this
            omega
          | cons d rest => exact ⟨d, rest, rfl⟩
        rw [ed, er] at ht
        have hv : ∀ {h3 : TH}, SM m h h3 → h3.1 (m + 29) = h.1 (m + 29) := fun s => s.at (by omega) (by omega)
        have main : ∀ K : Int32 → TH → Prop, (∀ h', SM m h h' → h'.1 m 47 = 0 → tellsF (h.1 (m + 29)) Ps = tellsF (h.1 (m + 29)) (Ps.drop (3 * (j + 1))) → K (nI (f + (j + 1))) h') → DB_Mo_asks_39 r m (nI (3 * L + k)) (nI (f + j)) h2 K (fun h33 => Q 0 h33) Q := by
          intro K hK
          unfold DB_Mo_asks_39
          rw [r33, r35, r36, r37, r38, nI_clamp (n := 3 * L + k) (by omega), nI_clamp (n := f + j) (by omega), hS.at (x := m + 20) (by omega) (by omega), hS.at (x := m + 21) (by omega) (by omega), hlast, p1]
          refine ⟨vp_in_nI (by omega) (by omega), fun q => absurd ((nI_leI (by omega) (by omega)).mp q) (by omega), fun _ => ⟨vp_in_nI (by omega) (by omega), fun q => absurd q (by decide), fun _ => ⟨vp_in_nI (by omega) (by omega), vp_in_nI (by omega) (by omega), ?_⟩⟩⟩
          have g2 : Seg h2 m (h2.1 (m + 22) (f + j)) (h2.1 (m + 23) (f + j)) (Ps.getD (3 * j) []) := by
            rw [hS.at (x := m + 22) (by omega) (by omega), hS.at (x := m + 23) (by omega) (by omega)]
            exact p2.sm hS
          have g3 : ∀ {h3 : TH}, SM m h h3 → Seg h3 m (h3.1 (m + 23) (f + j)) (h3.1 (m + 24) (f + j)) (Ps.getD (3 * j + 1) []) := fun s => by
            rw [s.at (x := m + 23) (by omega) (by omega), s.at (x := m + 24) (by omega) (by omega)]
            exact p3.sm s
          have g4 : ∀ {h3 : TH}, SM m h h3 → Seg h3 m (h3.1 (m + 24) (f + j)) (h3.1 (m + 25) (f + j)) (Ps.getD (3 * j + 2) []) := fun s => by
            rw [s.at (x := m + 24) (by omega) (by omega), s.at (x := m + 25) (by omega) (by omega)]
            exact p4.sm s
          refine P_termOf hr g2 (fun h3 x f3 e3 => ⟨vp_in_nI (by omega) (by omega), vp_in_nI (by omega) (by omega), ?_⟩) (fun h3 f3 e3 => ⟨vp_in_nI (by omega) (by omega), vp_in_nI (by omega) (by omega), ?_⟩)
          · have s3 : SM m h h3 := hS.tr (SM.fr f3)
            have b3 : h3.1 m 47 = 0 := by rw [(f3 m (by omega)).1]; exact hb
            rw [hv hS] at e3
            refine P_termOf hr (g3 s3) (fun h4 y f4 e4 => ⟨fun _ => ⟨fun q => ?_, fun q x30 e30 => ?_⟩, fun q => absurd ?_ q⟩) (fun h4 f4 e4 => ⟨fun q => ?_, fun _ => ?_⟩)
            · have s4 : SM m h h4 := s3.tr (SM.fr f4)
              have b4 : h4.1 m 47 = 0 := by rw [(f4 m (by omega)).1]; exact b3
              rw [hv s3] at e4
              refine P_asks119 hr (by omega) b4 (g4 s4) (fun h5 s5' => ?_)
              have h9 := hQ h5 (s4.tr s5')
              rw [ht, tellsF, e3, e4] at h9
              dsimp only at h9
              rw [if_pos q] at h9
              rw [hv s4]
              exact h9
            · have s4 : SM m h h4 := s3.tr (SM.fr f4)
              have b4 : h4.1 m 47 = 0 := by rw [(f4 m (by omega)).1]; exact b3
              rw [hv s3] at e4
              have e30' : x30 = nI (f + (j + 1)) := by rw [e30, nI_1]; rfl
              rw [e30']
              refine hK h4 s4 b4 ?_
              rw [ht, tellsF, e3, e4, er]
              exact if_neg q
            · rw [(f4 m (by omega)).1]; exact b3
            · rw [pI_s] at q; exact absurd q (by decide)
            · rw [hv s3] at e4
              have h9 := hQ (pI h4 m 47 1) (s3.tr ((SM.fr f4).tr SM.mark))
              rw [ht, tellsF, e3, e4] at h9
              exact h9
          · have s3 : SM m h (pI h3 m 47 1) := hS.tr ((SM.fr f3).tr SM.mark)
            rw [hv hS] at e3
            refine P_termOf hr (g3 s3) (fun h4 y f4 e4 => ⟨fun q => ?_, fun _ => ?_⟩) (fun h4 f4 e4 => ⟨fun q => ?_, fun _ => ?_⟩)
            · rw [(f4 m (by omega)).1, pI_s] at q; exact absurd q (by decide)
            · have h9 := hQ h4 (s3.tr (SM.fr f4))
              rw [ht, tellsF, e3] at h9
              exact h9
            · rw [pI_s] at q; exact absurd q (by decide)
            · have h9 := hQ (pI h4 m 47 1) (s3.tr ((SM.fr f4).tr SM.mark))
              rw [ht, tellsF, e3] at h9
              exact h9
        exact lp_s (main _ (fun h' a1 a2 a3 => ih (j + 1) h' (by omega) a1 a2 a3))
    refine ⟨nb, ?_⟩
    obtain ⟨w, rfl⟩ : ∃ w, nb = w + 1 := ⟨nb - 1, by omega⟩
    exact key w 0 h5 (by omega) s5 (by rw [e5, pI_s]) rfl
  · have hnb : nb = 0 := by
      have := (nI_eq (by omega) (by omega)).mp q
      omega
    rcases hcase with ⟨_, hp⟩ | ⟨z, _⟩
    · have h1 := hQ h SM.rf
      have e : tellsF (h.1 (m + 29)) Ps = nI plain := by
        rw [hp]
        simp only [tellsF, evP]
        rw [evT_lit hpl]
        simp [evT]
      rw [e] at h1
      exact h1
    · omega
