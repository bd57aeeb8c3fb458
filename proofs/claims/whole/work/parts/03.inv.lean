/-! the invariant of the shared state, and how it lasts -/
def ms_Msg (n h a b c d : Int32) : Prop :=
  1 ≤ a.toInt ∧ a.toInt < n.toInt ∧ 1 ≤ b.toInt ∧ b.toInt ≤ 1000 ∧ 0 ≤ c.toInt ∧ c.toInt < 32 ∧ 2 ≤ d.toInt ∧ d.toInt ≤ h.toInt
def ms_Box (k : Nat) (gv : Int32) (th va nx hi ms nu sz fl ch : Nat → Int32) (m : Nat) : Prop :=
  ∃ c : Nat, c ≤ 14 ∧ ms m = nI c ∧ (th m = 0 ∨ th m = 1) ∧
    0 ≤ (nx m).toInt ∧ (nx m).toInt ≤ (k : Int) + 1 ∧ 0 ≤ (hi m).toInt ∧ (hi m).toInt ≤ 14 * (k : Int) + 1 ∧
    (th m = 1 → 1 ≤ (va m).toInt ∧ (va m).toInt ≤ gv.toInt ∧ 1 ≤ (nx m).toInt ∧ 1 ≤ (hi m).toInt) ∧
    (∀ i, i < c → ms_Msg (nx m) (hi m) (nu (14 * m + i)) (sz (14 * m + i)) (fl (14 * m + i)) (ch (14 * m + i))) ∧
    (∀ i j, i < j → j < c → (nu (14 * m + i)).toInt < (nu (14 * m + j)).toInt)
def ms_Sees (th nx ms nu vw : Nat → Int32) (s m c l : Nat) : Prop :=
  m < 4 ∧ c ≤ 14 ∧ l ≤ 14 ∧ th m = 1 ∧ ms m = nI c ∧
    (∀ i, i < l → 1 ≤ (vw (14 * s + i)).toInt ∧ (vw (14 * s + i)).toInt < (nx m).toInt) ∧
    (∀ i j, i < j → j < l → (vw (14 * s + i)).toInt < (vw (14 * s + j)).toInt) ∧
    (∀ i j, i < l → j < c → (nu (14 * m + j)).toInt ≤ (vw (14 * s + i)).toInt → ∃ q, q < l ∧ vw (14 * s + q) = nu (14 * m + j))
def ms_View (th nx ms nu se vl vw ly : Nat → Int32) (s : Nat) : Prop :=
  (se s = -1 ∧ vl s = nI 0) ∨ ∃ m c l : Nat, se s = nI m ∧ vl s = nI l ∧ ly s = nI l ∧ ms_Sees th nx ms nu vw s m c l
def ms_Inv (k : Nat) (gv : Int32) (th va nx hi ms nu sz fl ch se vl vw ly : Nat → Int32) : Prop :=
  0 ≤ gv.toInt ∧ gv.toInt ≤ (k : Int) ∧ (∀ m, m < 4 → ms_Box k gv th va nx hi ms nu sz fl ch m) ∧ (∀ s, s < 3 → ms_View th nx ms nu se vl vw ly s)
theorem ms_nIeq {a b : Nat} (h : nI a = nI b) (ha : a ≤ 14) (hb : b ≤ 14) : a = b := (nI_eq (by omega) (by omega)).mp h
section
variable {k k' : Nat} {gv gv' : Int32} {th va nx hi ms nu sz fl ch se vl vw ly th' va' nx' hi' ms' nu' sz' fl' ch' se' vl' vw' ly' : Nat → Int32} {m s c l p i : Nat} {g : Nat → Nat} {P : Nat → Prop}
theorem ms_boxC (h : ms_Box k gv th va nx hi ms nu sz fl ch m) (hk : k ≤ k') (hg : gv.toInt ≤ gv'.toInt) (e1 : th' m = th m) (e2 : va' m = va m) (e3 : nx' m = nx m) (e4 : hi' m = hi m) (e5 : ms' m = ms m) (e6 : ∀ i, i < 14 → nu' (14 * m + i) = nu (14 * m + i) ∧ sz' (14 * m + i) = sz (14 * m + i) ∧ fl' (14 * m + i) = fl (14 * m + i) ∧ ch' (14 * m + i) = ch (14 * m + i)) : ms_Box k' gv' th' va' nx' hi' ms' nu' sz' fl' ch' m := by
  obtain ⟨c, h1, h2, h3, h4, h5, h6, h7, h8, h9, h10⟩ := h
  unfold ms_Box
  rw [e1, e2, e3, e4, e5]
  refine ⟨c, h1, h2, h3, h4, by omega, h6, by omega, fun t => ?_, fun i hi => ?_, fun i j hij hj => ?_⟩
  · have z := h8 t
    exact ⟨z.1, by omega, z.2.2⟩
  · obtain ⟨f1, f2, f3, f4⟩ := e6 i (by omega)
    rw [f1, f2, f3, f4]
    exact h9 i hi
  · rw [(e6 i (by omega)).1, (e6 j (by omega)).1]
    exact h10 i j hij hj
theorem ms_seesC (h : ms_Sees th nx ms nu vw s m c l) (e1 : th' m = th m) (e2 : nx' m = nx m) (e3 : ms' m = ms m) (e4 : ∀ i, i < 14 → nu' (14 * m + i) = nu (14 * m + i)) (e5 : ∀ i, i < 14 → vw' (14 * s + i) = vw (14 * s + i)) : ms_Sees th' nx' ms' nu' vw' s m c l := by
  obtain ⟨h1, h2, h3, h4, h5, h6, h7, h8⟩ := h
  unfold ms_Sees
  rw [e1, e2, e3]
  refine ⟨h1, h2, h3, h4, h5, fun i hi => ?_, fun i j hij hj => ?_, fun i j hi hj hl => ?_⟩
  · rw [e5 i (by omega)]; exact h6 i hi
  · rw [e5 i (by omega), e5 j (by omega)]; exact h7 i j hij hj
  · rw [e4 j (by omega)] at hl ⊢
    rw [e5 i (by omega)] at hl
    obtain ⟨q, hq, e⟩ := h8 i j hi hj hl
    exact ⟨q, hq, by rw [e5 q (by omega)]; exact e⟩
theorem ms_viewG (h : ms_View th nx ms nu se vl vw ly s) (e1 : se' s = se s) (e2 : vl' s = vl s) (e3 : ly' s = ly s) (e4 : ∀ m c l, se s = nI m → ms_Sees th nx ms nu vw s m c l → ∃ c', ms_Sees th' nx' ms' nu' vw' s m c' l) : ms_View th' nx' ms' nu' se' vl' vw' ly' s := by
  unfold ms_View
  rw [e1, e2, e3]
  rcases h with h | ⟨m, c, l, h1, h2, h3, h4⟩
  · exact Or.inl h
  · obtain ⟨c', h5⟩ := e4 m c l h1 h4
    exact Or.inr ⟨m, c', l, h1, h2, h3, h5⟩
theorem ms_up (h : ms_Inv k gv th va nx hi ms nu sz fl ch se vl vw ly) : ms_Inv (k + 5) gv th va nx hi ms nu sz fl ch se vl vw ly := by
  obtain ⟨a, b, B, V⟩ := h
  exact ⟨a, by omega, fun m hm => ms_boxC (B m hm) (by omega) (by omega) rfl rfl rfl rfl rfl (fun i hi => ⟨rfl, rfl, rfl, rfl⟩), V⟩
theorem ms_create (h : ms_Inv k gv th va nx hi ms nu sz fl ch se vl vw ly) (hk : k + 5 ≤ 2560) (hm : m < 4) (ht : ¬ th m = 1) : ms_Inv (k + 5) (gv + 1) (upd th m 1) (upd va m (gv + 1)) (upd nx m 1) (upd hi m 1) (upd ms m 0) nu sz fl ch se vl vw ly := by
  obtain ⟨a, b, B, V⟩ := h
  have hg : (gv + 1).toInt = gv.toInt + 1 := ms_inc a (by omega)
  refine ⟨by omega, by omega, fun m' hm' => ?_, fun s hs => ?_⟩
  · by_cases e : m' = m
    · subst e
      simp only [ms_Box, pk_us, ms_t1]
      exact ⟨0, by omega, by trivial, Or.inr (by trivial), by omega, by omega, by omega, by omega, fun _ => ⟨by omega, by omega, by omega, by omega⟩, fun i h => absurd h (Nat.not_lt_zero i), fun i j _ h => absurd h (Nat.not_lt_zero j)⟩
    · exact ms_boxC (B m' hm') (by omega) (by omega) (pk_un e) (pk_un e) (pk_un e) (pk_un e) (pk_un e) (fun i hi => ⟨rfl, rfl, rfl, rfl⟩)
  · refine ms_viewG (V s hs) rfl rfl rfl (fun m' c l _ e2 => ⟨c, ?_⟩)
    have e : m' ≠ m := by
      intro e; subst e
      exact ht e2.2.2.2.1
    exact ms_seesC e2 (pk_un e) (pk_un e) (pk_un e) (fun i hi => rfl) (fun i hi => rfl)
theorem ms_append (h : ms_Inv k gv th va nx hi ms nu sz fl ch se vl vw ly) (hk : k + 5 ≤ 2560) (hm : m < 4) (ht : th m = 1) (hc : ms m = nI c) (hc14 : c < 14) {z f : Int32} (hz1 : 1 ≤ z.toInt) (hz2 : z.toInt ≤ 1000) (hf1 : 0 ≤ f.toInt) (hf2 : f.toInt < 32) : ms_Inv (k + 5) gv th va (upd nx m (nx m + 1)) (upd hi m (hi m + 1)) (upd ms m (nI (c + 1))) (upd nu (14 * m + c) (nx m)) (upd sz (14 * m + c) z) (upd fl (14 * m + c) f) (upd ch (14 * m + c) (hi m + 1)) se vl vw ly := by
  obtain ⟨a, b, B, V⟩ := h
  obtain ⟨c', h1, h2, h3, h4, h5, h6, h7, h8, h9, h10⟩ := B m hm
  obtain rfl : c' = c := ms_nIeq (h2.symm.trans hc) h1 (by omega)
  have hn : (nx m + 1).toInt = (nx m).toInt + 1 := ms_inc h4 (by omega)
  have hh : (hi m + 1).toInt = (hi m).toInt + 1 := ms_inc h6 (by omega)
  have h8' := h8 ht
  refine ⟨a, by omega, fun m' hm' => ?_, fun s hs => ?_⟩
  · by_cases e : m' = m
    · subst e
      simp only [ms_Box, pk_us]
      refine ⟨c' + 1, by omega, rfl, h3, by omega, by omega, by omega, by omega, fun _ => ⟨by omega, by omega, by omega, by omega⟩, fun i hi' => ?_, fun i j hij hj => ?_⟩
      · by_cases e : i = c'
        · subst e
          simp only [ms_Msg, pk_us]
          omega
        · rw [pk_un (by omega), pk_un (by omega), pk_un (by omega), pk_un (by omega)]
          have z := h9 i (by omega)
          simp only [ms_Msg] at z ⊢
          omega
      · rw [pk_un (j := 14 * m' + i) (by omega)]
        by_cases e : j = c'
        · subst e
          rw [pk_us]
          exact (h9 i hij).2.1
        · rw [pk_un (by omega)]
          exact h10 i j hij (by omega)
    · exact ms_boxC (B m' hm') (by omega) (by omega) rfl rfl (pk_un e) (pk_un e) (pk_un e) (fun i hi => ⟨pk_un (by omega), pk_un (by omega), pk_un (by omega), pk_un (by omega)⟩)
  · refine ms_viewG (V s hs) rfl rfl rfl (fun m' c0 l _ S => ?_)
    by_cases e : m' = m
    · subst e
      obtain ⟨s1, s2, s3, s4, s5, s6, s7, s8⟩ := S
      obtain rfl : c0 = c' := ms_nIeq (s5.symm.trans hc) s2 (by omega)
      refine ⟨c0 + 1, s1, by omega, s3, s4, pk_us, fun i hi' => ?_, s7, fun i j hi' hj hle => ?_⟩
      · rw [pk_us]
        have z := s6 i hi'
        omega
      · by_cases e : j = c0
        · subst e
          rw [pk_us] at hle
          have z := s6 i hi'
          omega
        · rw [pk_un (by omega)] at hle ⊢
          exact s8 i j hi' (by omega) hle
    · exact ⟨c0, ms_seesC S rfl (pk_un e) (pk_un e) (fun i hi => pk_un (by omega)) (fun i hi => rfl)⟩
theorem ms_store (h : ms_Inv k gv th va nx hi ms nu sz fl ch se vl vw ly) (hk : k + 5 ≤ 2560) (hm : m < 4) (ht : th m = 1) (hc : ms m = nI c) (hc14 : c ≤ 14) (hi' : i < c) {f : Int32} (hf1 : 0 ≤ f.toInt) (hf2 : f.toInt < 32) : ms_Inv (k + 5) gv th va nx (upd hi m (hi m + 1)) ms nu sz (upd fl (14 * m + i) f) (upd ch (14 * m + i) (hi m + 1)) se vl vw ly := by
  obtain ⟨a, b, B, V⟩ := h
  obtain ⟨c', h1, h2, h3, h4, h5, h6, h7, h8, h9, h10⟩ := B m hm
  obtain rfl : c' = c := ms_nIeq (h2.symm.trans hc) h1 (by omega)
  have hh : (hi m + 1).toInt = (hi m).toInt + 1 := ms_inc h6 (by omega)
  have h8' := h8 ht
  refine ⟨a, by omega, fun m' hm' => ?_, V⟩
  by_cases e : m' = m
  · subst e
    simp only [ms_Box, pk_us]
    refine ⟨c', h1, hc, h3, by omega, by omega, by omega, by omega, fun _ => ⟨by omega, by omega, by omega, by omega⟩, fun j hj => ?_, h10⟩
    have z := h9 j hj
    by_cases e : j = i
    · subst e
      simp only [ms_Msg, pk_us] at z ⊢
      omega
    · rw [pk_un (by omega), pk_un (by omega)]
      simp only [ms_Msg] at z ⊢
      omega
  · exact ms_boxC (B m' hm') (by omega) (by omega) rfl rfl rfl (pk_un e) rfl (fun i hi => ⟨rfl, rfl, pk_un (by omega), pk_un (by omega)⟩)
theorem ms_desel (h : ms_Inv k gv th va nx hi ms nu sz fl ch se vl vw ly) (hd : ∀ s, s < 3 → (se' s = -1 ∧ vl' s = nI 0) ∨ (se' s = se s ∧ vl' s = vl s)) : ms_Inv k gv th va nx hi ms nu sz fl ch se' vl' vw ly := by
  obtain ⟨a, b, B, V⟩ := h
  refine ⟨a, b, B, fun s hs => ?_⟩
  rcases hd s hs with e | ⟨e1, e2⟩
  · exact Or.inl e
  · exact ms_viewG (V s hs) e1 e2 rfl (fun m c l _ S => ⟨c, S⟩)
theorem ms_remove (h : ms_Inv k gv th va nx hi ms nu sz fl ch se vl vw ly) (hm : m < 4) (hd : ∀ s, s < 3 → (se' s = -1 ∧ vl' s = nI 0) ∨ (se' s = se s ∧ vl' s = vl s ∧ ¬ se s = nI m)) : ms_Inv k gv (upd th m 0) va nx hi ms nu sz fl ch se' vl' vw ly := by
  obtain ⟨a, b, B, V⟩ := h
  refine ⟨a, b, fun m' hm' => ?_, fun s hs => ?_⟩
  · by_cases e : m' = m
    · subst e
      obtain ⟨c, h1, h2, h3, h4, h5, h6, h7, h8, h9⟩ := B m' hm'
      simp only [ms_Box, pk_us]
      exact ⟨c, h1, h2, Or.inl (by trivial), h4, h5, h6, h7, fun z => by first | exact absurd z (by decide) | exact z.elim, h9⟩
    · exact ms_boxC (B m' hm') (by omega) (by omega) (pk_un e) rfl rfl rfl rfl (fun i hi => ⟨rfl, rfl, rfl, rfl⟩)
  · rcases hd s hs with e | ⟨e1, e2, e3⟩
    · exact Or.inl e
    · refine ms_viewG (V s hs) e1 e2 rfl (fun m' c l z S => ⟨c, ?_⟩)
      have e : m' ≠ m := by
        intro e; subst e
        exact e3 z
      exact ms_seesC S (pk_un e) rfl rfl (fun i hi => rfl) (fun i hi => rfl)
theorem ms_setV (h : ms_Inv k gv th va nx hi ms nu sz fl ch se vl vw ly) (hs : s < 3) (e1 : ∀ x, x ≠ s → se' x = se x ∧ vl' x = vl x ∧ ly' x = ly x) (e2 : ∀ x, x < 14 * s ∨ 14 * s + 14 ≤ x → vw' x = vw x) (hV : ms_View th nx ms nu se' vl' vw' ly' s) : ms_Inv k gv th va nx hi ms nu sz fl ch se' vl' vw' ly' := by
  obtain ⟨a, b, B, V⟩ := h
  refine ⟨a, b, B, fun s' hs' => ?_⟩
  by_cases e : s' = s
  · subst e; exact hV
  · exact ms_viewG (V s' hs') (e1 s' e).1 (e1 s' e).2.1 (e1 s' e).2.2 (fun m c l _ S => ⟨c, ms_seesC S rfl rfl rfl (fun i hi => rfl) (fun i hi => e2 _ (by omega))⟩)
theorem ms_show (h : ms_Box k gv th va nx hi ms nu sz fl ch m) (hm : m < 4) (ht : th m = 1) (hc : ms m = nI c) (hc14 : c ≤ 14) (hv : ∀ q, q < c → vw' (14 * s + q) = nu (14 * m + q)) : ms_Sees th nx ms nu vw' s m c c := by
  obtain ⟨c', h1, h2, h3, h4, h5, h6, h7, h8, h9, h10⟩ := h
  obtain rfl : c' = c := ms_nIeq (h2.symm.trans hc) h1 hc14
  refine ⟨hm, h1, h1, ht, hc, fun i hi => ?_, fun i j hij hj => ?_, fun i j _ hj _ => ⟨j, hj, hv j hj⟩⟩
  · rw [hv i hi]; exact ⟨(h9 i hi).1, (h9 i hi).2.1⟩
  · rw [hv i (by omega), hv j hj]; exact h10 i j hij hj
theorem ms_take (h : ms_Inv k gv th va nx hi ms nu sz fl ch se vl vw ly) (hk : k + 5 ≤ 2560) (hm : m < 4) (hc : ms m = nI c) (hc14 : c ≤ 14) (G : ms_Gi P c p g) (M1 : ms_Mv (14 * m) p g nu nu') (M2 : ms_Mv (14 * m) p g sz sz') (M3 : ms_Mv (14 * m) p g fl fl') (M4 : ms_Mv (14 * m) p g ch ch') : ms_Inv (k + 5) gv th va nx (upd hi m (hi m + nI (c - p))) (upd ms m (nI p)) nu' sz' fl' ch' se vl vw ly := by
  obtain ⟨a, b, B, V⟩ := h
  obtain ⟨c', h1, h2, h3, h4, h5, h6, h7, h8, h9, h10⟩ := B m hm
  obtain rfl : c' = c := ms_nIeq (h2.symm.trans hc) h1 (by omega)
  have hh : (hi m + nI (c' - p)).toInt = (hi m).toInt + ((c' - p : Nat) : Int) := ms_addN h6 (by omega) (by omega)
  obtain ⟨G1, G2, G3, G4⟩ := G
  refine ⟨a, by omega, fun m' hm' => ?_, fun s hs => ?_⟩
  · by_cases e : m' = m
    · subst e
      simp only [ms_Box, pk_us]
      refine ⟨p, by omega, rfl, h3, by omega, by omega, by omega, by omega, fun t => ?_, fun i hi' => ?_, fun i j hij hj => ?_⟩
      · have z := h8 t
        omega
      · rw [M1.1 i hi', M2.1 i hi', M3.1 i hi', M4.1 i hi']
        have z := h9 (g i) (G2 i hi').2.1
        simp only [ms_Msg] at z ⊢
        omega
      · rw [M1.1 i (by omega), M1.1 j hj]
        exact h10 (g i) (g j) (G3 i j hij hj) (G2 j hj).2.1
    · exact ms_boxC (B m' hm') (by omega) (by omega) rfl rfl rfl (pk_un e) (pk_un e) (fun i hi => ⟨M1.2 _ (by omega), M2.2 _ (by omega), M3.2 _ (by omega), M4.2 _ (by omega)⟩)
  · refine ms_viewG (V s hs) rfl rfl rfl (fun m' c0 l _ S => ?_)
    by_cases e : m' = m
    · subst e
      obtain ⟨s1, s2, s3, s4, s5, s6, s7, s8⟩ := S
      obtain rfl : c0 = c' := ms_nIeq (s5.symm.trans hc) s2 (by omega)
      refine ⟨p, s1, by omega, s3, s4, pk_us, s6, s7, fun i j hi' hj hle => ?_⟩
      rw [M1.1 j hj] at hle ⊢
      exact s8 i (g j) hi' (G2 j hj).2.1 hle
    · exact ⟨c0, ms_seesC S rfl rfl (pk_un e) (fun i hi => M1.2 _ (by omega)) (fun i hi => rfl)⟩
theorem ms_drop (S : ms_Sees th nx ms nu vw s m c l) (G : ms_Gi (fun j => ∃ q, q < c ∧ nu (14 * m + q) = vw (14 * s + j)) l p g) (M : ms_Mv (14 * s) p g vw vw') : ms_Sees th nx ms nu vw' s m c p ∧ ∀ i, i < p → ∃ j, j < c ∧ nu (14 * m + j) = vw' (14 * s + i) := by
  obtain ⟨s1, s2, s3, s4, s5, s6, s7, s8⟩ := S
  obtain ⟨G1, G2, G3, G4⟩ := G
  refine ⟨⟨s1, s2, by omega, s4, s5, fun i hi => ?_, fun i j hij hj => ?_, fun i j hi hj hle => ?_⟩, fun i hi => ?_⟩
  · rw [M.1 i hi]; exact s6 _ (G2 i hi).2.1
  · rw [M.1 i (by omega), M.1 j hj]; exact s7 _ _ (G3 i j hij hj) (G2 j hj).2.1
  · rw [M.1 i hi] at hle
    obtain ⟨q, hq, e⟩ := s8 _ j (G2 i hi).2.1 hj hle
    obtain ⟨r, hr, er⟩ := G4 q hq ⟨j, hj, e.symm⟩
    exact ⟨r, hr, by rw [M.1 r hr, er]; exact e⟩
  · rw [M.1 i hi]; exact (G2 i hi).2.2
theorem ms_pre (S : ms_Sees th nx ms nu vw s m c l) (B : ms_Box k gv th va nx hi ms nu sz fl ch m) (A : ∀ i, i < l → ∃ j, j < c ∧ nu (14 * m + j) = vw (14 * s + i)) : l ≤ c ∧ ∀ i, i < l → vw (14 * s + i) = nu (14 * m + i) := by
  obtain ⟨s1, s2, s3, s4, s5, s6, s7, s8⟩ := S
  obtain ⟨c', h1, h2, h3, h4, h5, h6, h7, h8, h9, h10⟩ := B
  obtain rfl : c' = c := ms_nIeq (h2.symm.trans s5) h1 s2
  have z := ms_head (A := fun i => (vw (14 * s + i)).toInt) (B := fun i => (nu (14 * m + i)).toInt) (l := l) (c := c') s7 h10
    (fun i hi => by obtain ⟨j, hj, e⟩ := A i hi; exact ⟨j, hj, congrArg Int32.toInt e⟩)
    (fun i j hi hj hle => by obtain ⟨q, hq, e⟩ := s8 i j hi hj hle; exact ⟨q, hq, congrArg Int32.toInt e⟩)
  exact ⟨z.1, fun i hi => Int32.toInt_inj.mp (z.2 i hi)⟩
theorem ms_init : ms_Inv 0 0 (fun _ => 0) (fun _ => 0) (fun _ => 0) (fun _ => 0) (fun _ => 0) (fun _ => 0) (fun _ => 0) (fun _ => 0) (fun _ => 0) (fun _ => -1) (fun _ => 0) (fun _ => 0) (fun _ => 0) :=
  ⟨by rw [ms_t0]; omega, by rw [ms_t0]; omega, fun m _ => ⟨0, by omega, rfl, Or.inl rfl, by rw [ms_t0]; omega, by rw [ms_t0]; omega, by rw [ms_t0]; omega, by rw [ms_t0]; omega, fun z => absurd (show (0 : Int32) = 1 from z) (by decide), fun i h => absurd h (Nat.not_lt_zero i), fun _ j _ h => absurd h (Nat.not_lt_zero j)⟩, fun s _ => Or.inl ⟨rfl, rfl⟩⟩
end
