/-! expunge's loop; the sessions left; the constructors -/
section
variable {k : Nat} {gv : Int32} {th va nx hi ms nu sz fl ch se vl vw ly : Nat → Int32} {m s c l : Nat}
theorem xm_takeL (s : Nat) (ly : Nat → Int32) (hm : m < 4) (hc : ms m = nI c) (hc14 : c ≤ 14) (hf : ∀ i, i < c → 0 ≤ (fl (14 * m + i)).toInt ∧ (fl (14 * m + i)).toInt < 32) : ∀ (d i p : Nat) (g : Nat → Nat) (nu' sz' fl' ch' : Nat → Int32), i + d = c → ms_Gi (fun j => fl (14 * m + j) &&& 1 = 0) i p g → ms_Mv (14 * m) p g nu nu' → ms_Mv (14 * m) p g sz sz' → ms_Mv (14 * m) p g fl fl' → ms_Mv (14 * m) p g ch ch' → ∃ (p2 : Nat) (g2 : Nat → Nat) (nu2 sz2 fl2 ch2 : Nat → Int32), ms_Gi (fun j => fl (14 * m + j) &&& 1 = 0) c p2 g2 ∧ ms_Mv (14 * m) p2 g2 nu nu2 ∧ ms_Mv (14 * m) p2 g2 sz sz2 ∧ ms_Mv (14 * m) p2 g2 fl fl2 ∧ ms_Mv (14 * m) p2 g2 ch ch2 ∧ (∀ post : Int32 → SX → Prop, post (nI c - nI p2) (gv, th, va, nx, upd hi m (hi m + (nI c - nI p2)), upd ms m (nI p2), nu2, sz2, fl2, ch2, se, vl, vw) → wX_takeOutDeleted_10 post (nI m) (nI (14 * m)) (d + 1) (nI p) (nI i) gv th va nx hi ms nu' sz' fl' ch' se vl vw) ∧ (∀ post : Int32 → SY → Prop, wpY_dropGone (fun r_28 u => match u with | (f0, a1, a2, a3, a4, a5, a6, a7, a8, a9, a10, a11, a12) => post (nI c - nI p2) (f0, a1, a2, a3, a4, a5, a6, a7, a8, a9, a10, a11, a12)) (gv, th, va, nx, upd hi m (hi m + (nI c - nI p2)), upd ms m (nI p2), nu2, sz2, fl2, ch2, se, ly, vw) (nI s) → wY_expunge_29 post (nI s) (nI m) gv (d + 1) (nI p) (nI (14 * m + i)) th va nx hi ms nu' sz' fl' ch' se ly vw) := by
  intro d
  induction d with
  | zero =>
    intro i p g nu' sz' fl' ch' hi' G M1 M2 M3 M4
    obtain rfl : i = c := by omega
    refine ⟨p, g, nu', sz', fl', ch', G, M1, M2, M3, M4, fun post hp => ?_, fun post hp => ?_⟩
    · rw [wX_takeOutDeleted_10]; dsimp only; rw [ms_c hm, hc]
      exact ⟨ms_in4 hm, br_t (nI_le (by omega) (by omega)) ⟨ms_in4 hm, nm_e ⟨ms_in4 hm, nm_e ⟨ms_in4 hm, ms_in4 hm, nm_e hp⟩⟩⟩⟩
    · rw [wY_expunge_29]; dsimp only; rw [ms_c hm, hc, ms_e2]
      exact ⟨ms_in4 hm, br_t (nI_le (by omega) (by omega)) ⟨ms_in4 hm, nm_e ⟨ms_in4 hm, nm_e ⟨ms_in4 hm, ms_in4 hm, nm_e hp⟩⟩⟩⟩
  | succ d ih =>
    intro i p g nu' sz' fl' ch' hi' G M1 M2 M3 M4
    have hpi := G.1
    have ef : fl' (14 * m + i) = fl (14 * m + i) := M3.2 _ (by omega)
    have ki := ms_k (i := 14 * m + i) (by omega)
    have kp := ms_k (i := 14 * m + p) (by omega)
    have ni := ms_i56 (i := 14 * m + i) (by omega)
    have np := ms_i56 (i := 14 * m + p) (by omega)
    have hf' := hf i (by omega)
    rw [← ef] at hf'
    have ev := ms_even hf'.1 hf'.2
    by_cases e : fl (14 * m + i) &&& 1 = 0
    · have e' : fl' (14 * m + i) &&& 1 = 0 := by rw [ef]; exact e
      obtain ⟨p2, g2, nu2, sz2, fl2, ch2, G2, N1, N2, N3, N4, hX, hY⟩ := ih (i + 1) (p + 1) (ms_gx g p i) (upd nu' (14 * m + p) (nu' (14 * m + i))) (upd sz' (14 * m + p) (sz' (14 * m + i))) (upd fl' (14 * m + p) (fl' (14 * m + i))) (upd ch' (14 * m + p) (ch' (14 * m + i))) (by omega) (ms_GiT G e) (ms_MvT M1 hpi rfl) (ms_MvT M2 hpi rfl) (ms_MvT M3 hpi rfl) (ms_MvT M4 hpi rfl)
      refine ⟨p2, g2, nu2, sz2, fl2, ch2, G2, N1, N2, N3, N4, fun post hp => ?_, fun post hp => ?_⟩
      · rw [wX_takeOutDeleted_10]; unfold wpX_moveMessage; dsimp only; rw [ms_c hm, hc, nI_add (14 * m) i, nI_add (14 * m) p, ki, kp]
        exact ⟨ms_in4 hm, br_f (nI_ge (by omega) (by omega)) ⟨ni, br_t e' ⟨ni, np, nm_e ⟨ni, np, nm_e ⟨ni, np, nm_e ⟨ni, np, nm_e (nm_r (nI_1 p) (nm_r (nI_1 i) (hX post hp)))⟩⟩⟩⟩⟩⟩
      · rw [wY_expunge_29]; dsimp only; rw [ms_c hm, hc, ms_e2 m c, ki]
        refine ⟨ms_in4 hm, br_f (nI_ge (by omega) (by omega)) ⟨ni, ms_20, br_t (ev.mp e') (nm_r (ms_e2 m p) ?_)⟩⟩
        rw [kp]
        exact ⟨ni, np, nm_e ⟨ni, np, nm_e ⟨ni, np, nm_e ⟨ni, np, nm_e (nm_r (nI_1 p) (nm_r (nI_1 (14 * m + i)) (hY post hp)))⟩⟩⟩⟩
    · have e' : ¬ fl' (14 * m + i) &&& 1 = 0 := by rw [ef]; exact e
      obtain ⟨p2, g2, nu2, sz2, fl2, ch2, G2, N1, N2, N3, N4, hX, hY⟩ := ih (i + 1) p g nu' sz' fl' ch' (by omega) (ms_GiN G e) M1 M2 M3 M4
      refine ⟨p2, g2, nu2, sz2, fl2, ch2, G2, N1, N2, N3, N4, fun post hp => ?_, fun post hp => ?_⟩
      · rw [wX_takeOutDeleted_10]; dsimp only; rw [ms_c hm, hc, nI_add (14 * m) i, ki]
        exact ⟨ms_in4 hm, br_f (nI_ge (by omega) (by omega)) ⟨ni, br_f e' (nm_r (nI_1 i) (hX post hp))⟩⟩
      · rw [wY_expunge_29]; dsimp only; rw [ms_c hm, hc, ms_e2 m c, ki]
        exact ⟨ms_in4 hm, br_f (nI_ge (by omega) (by omega)) ⟨ni, ms_20, br_f (fun z => e' (ev.mpr z)) (nm_r (nI_1 (14 * m + i)) (hY post hp))⟩⟩
theorem ms_30 : (3 : Int32) ≤ nI 3 := by decide
theorem xm_allL (hS : ∀ s, s < 3 → se s = -1 ∨ ∃ m, m < 4 ∧ se s = nI m) : ∀ (d i : Nat) (r : Int32) (se' vl' : Nat → Int32), i + d = 3 → (∀ s, s < 3 → (se' s = -1 ∧ vl' s = nI 0) ∨ (se' s = se s ∧ vl' s = vl s)) → ∃ (r2 : Int32) (se2 vl2 : Nat → Int32), (∀ s, s < 3 → (se2 s = -1 ∧ vl2 s = nI 0) ∨ (se2 s = se s ∧ vl2 s = vl s)) ∧ (∀ post : Int32 → SX → Prop, post r2 (gv, th, va, nx, hi, ms, nu, sz, fl, ch, se2, vl2, vw) → wX_deselectAll_4 post (d + 1) r (nI i) gv th va nx hi ms nu sz fl ch se' vl' vw) ∧ (∀ post : Int32 → SY → Prop, post r2 (gv, th, va, nx, hi, ms, nu, sz, fl, ch, se2, ly, vw) → wY_crash_4 post gv (d + 1) r (nI i) th va nx hi ms nu sz fl ch se' ly vw) := by
  intro d
  induction d with
  | zero =>
    intro i r se' vl' hi' H
    obtain rfl : i = 3 := by omega
    refine ⟨r, se', vl', H, fun post hp => ?_, fun post hp => ?_⟩
    · rw [wX_deselectAll_4]; dsimp only
      exact br_t ms_30 hp
    · rw [wY_crash_4]; dsimp only
      exact br_t ms_30 hp
  | succ d ih =>
    intro i r se' vl' hi' H
    have hi3 : i < 3 := by omega
    have h3 : ¬ 3 ≤ nI i := nI_ge (b := 3) hi3 (by decide)
    by_cases e : se' i = -1
    · obtain ⟨r2, se2, vl2, H2, hX, hY⟩ := ih (i + 1) r se' vl' (by omega) H
      refine ⟨r2, se2, vl2, H2, fun post hp => ?_, fun post hp => ?_⟩
      · rw [wX_deselectAll_4]; dsimp only; rw [ms_c3 hi3]
        exact br_f h3 ⟨ms_in3 hi3, br_t e (nm_r (nI_1 i) (hX post hp))⟩
      · rw [wY_crash_4]; dsimp only; rw [ms_c3 hi3, ms_updId e]
        exact br_f h3 ⟨ms_in3 hi3, br_t (by rw [e]; exact ms_m1lt) ⟨ms_in3 hi3, nm_e (nm_r (nI_1 i) (hY post hp))⟩⟩
    · have hn : ¬ se' i < 0 := by
        rcases H i hi3 with h | h
        · exact absurd h.1 e
        · rcases hS i hi3 with z | ⟨m, hm, z⟩
          · exact absurd (h.1.trans z) e
          · rw [h.1, z]; exact nI_pos (by omega)
      obtain ⟨r2, se2, vl2, H2, hX, hY⟩ := ih (i + 1) (r + 1) (upd se' i (-1)) (upd vl' i 0) (by omega) (fun s hs => by
        by_cases z : s = i
        · subst z; exact Or.inl ⟨pk_us, pk_us⟩
        · rw [pk_un z, pk_un z]; exact H s hs)
      refine ⟨r2, se2, vl2, H2, fun post hp => ?_, fun post hp => ?_⟩
      · rw [wX_deselectAll_4]; unfold wpX_deselect; dsimp only; rw [ms_c3 hi3]
        exact br_f h3 ⟨ms_in3 hi3, br_f e ⟨ms_in3 hi3, nm_e ⟨ms_in3 hi3, nm_e (nm_e (nm_r (nI_1 i) (hX post hp)))⟩⟩⟩
      · rw [wY_crash_4]; dsimp only; rw [ms_c3 hi3]
        exact br_f h3 ⟨ms_in3 hi3, br_f hn (nm_e ⟨ms_in3 hi3, nm_e (nm_r (nI_1 i) (hY post hp))⟩)⟩
theorem xm_remL (hm : m < 4) : ∀ (d i : Nat) (se' vl' : Nat → Int32), i + d = 3 → (∀ s, s < 3 → (s < i → (se' s = -1 ∧ vl' s = nI 0) ∨ (se' s = se s ∧ vl' s = vl s ∧ ¬ se s = nI m)) ∧ (i ≤ s → se' s = se s ∧ vl' s = vl s)) → ∃ (se2 vl2 : Nat → Int32), (∀ s, s < 3 → (se2 s = -1 ∧ vl2 s = nI 0) ∨ (se2 s = se s ∧ vl2 s = vl s ∧ ¬ se s = nI m)) ∧ (∀ post : Int32 → SX → Prop, post (ms m) (gv, th, va, nx, hi, ms, nu, sz, fl, ch, se2, vl2, vw) → wX_remove_30 post (nI m) (d + 1) (nI i) gv th va nx hi ms nu sz fl ch se' vl' vw) ∧ (∀ post : Int32 → SY → Prop, post (ms m) (gv, th, va, nx, hi, ms, nu, sz, fl, ch, se2, ly, vw) → wY_remove_23 post (nI m) gv (d + 1) (nI i) th va nx hi ms nu sz fl ch se' ly vw) := by
  intro d
  induction d with
  | zero =>
    intro i se' vl' hi' H
    obtain rfl : i = 3 := by omega
    refine ⟨se', vl', fun s hs => (H s hs).1 hs, fun post hp => ?_, fun post hp => ?_⟩
    · rw [wX_remove_30]; dsimp only; rw [ms_c hm]
      exact br_t ms_30 ⟨ms_in4 hm, hp⟩
    · rw [wY_remove_23]; dsimp only; rw [ms_c hm]
      exact br_t ms_30 ⟨ms_in4 hm, hp⟩
  | succ d ih =>
    intro i se' vl' hi' H
    have hi3 : i < 3 := by omega
    have h3 : ¬ 3 ≤ nI i := nI_ge (b := 3) hi3 (by decide)
    have Hi := (H i hi3).2 (Nat.le_refl i)
    by_cases e : se' i = nI m
    · obtain ⟨se2, vl2, H2, hX, hY⟩ := ih (i + 1) (upd se' i (-1)) (upd vl' i 0) (by omega) (fun s hs => by
        by_cases z : s = i
        · subst z; exact ⟨fun _ => Or.inl ⟨pk_us, pk_us⟩, fun h => absurd h (by omega)⟩
        · rw [pk_un z, pk_un z]; exact ⟨fun h => (H s hs).1 (by omega), fun h => (H s hs).2 (by omega)⟩)
      refine ⟨se2, vl2, H2, fun post hp => ?_, fun post hp => ?_⟩
      · rw [wX_remove_30]; unfold wpX_deselect; dsimp only; rw [ms_c3 hi3]
        exact br_f h3 ⟨ms_in3 hi3, br_t e ⟨ms_in3 hi3, nm_e ⟨ms_in3 hi3, nm_e (nm_r (nI_1 i) (hX post hp))⟩⟩⟩
      · rw [wY_remove_23]; dsimp only; rw [ms_c3 hi3]
        exact br_f h3 ⟨ms_in3 hi3, br_t e ⟨ms_in3 hi3, nm_e (nm_r (nI_1 i) (hY post hp))⟩⟩
    · obtain ⟨se2, vl2, H2, hX, hY⟩ := ih (i + 1) se' vl' (by omega) (fun s hs => by
        by_cases z : s = i
        · subst z; exact ⟨fun _ => Or.inr ⟨Hi.1, Hi.2, by rw [← Hi.1]; exact e⟩, fun h => absurd h (by omega)⟩
        · exact ⟨fun h => (H s hs).1 (by omega), fun h => (H s hs).2 (by omega)⟩)
      refine ⟨se2, vl2, H2, fun post hp => ?_, fun post hp => ?_⟩
      · rw [wX_remove_30]; dsimp only; rw [ms_c3 hi3]
        exact br_f h3 ⟨ms_in3 hi3, br_f e (nm_r (nI_1 i) (hX post hp))⟩
      · rw [wY_remove_23]; dsimp only; rw [ms_c3 hi3]
        exact br_f h3 ⟨ms_in3 hi3, br_f e (nm_r (nI_1 i) (hY post hp))⟩
theorem ms_sel (J : ms_Inv k gv th va nx hi ms nu sz fl ch se vl vw ly) : ∀ s, s < 3 → se s = -1 ∨ ∃ m, m < 4 ∧ se s = nI m := by
  intro s hs
  rcases J.2.2.2 s hs with h | ⟨m, c, l, h1, _, _, S⟩
  · exact Or.inl h.1
  · exact Or.inr ⟨m, S.1, h1⟩
theorem xm_all (J : ms_Inv k gv th va nx hi ms nu sz fl ch se vl vw ly) : ∃ (r : Int32) (se2 vl2 : Nat → Int32), ms_Inv k gv th va nx hi ms nu sz fl ch se2 vl2 vw ly ∧ (∀ post : Int32 → SX → Prop, post r (gv, th, va, nx, hi, ms, nu, sz, fl, ch, se2, vl2, vw) → wpX_deselectAll post (gv, th, va, nx, hi, ms, nu, sz, fl, ch, se, vl, vw)) ∧ (∀ post : Int32 → SY → Prop, post r (gv, th, va, nx, hi, ms, nu, sz, fl, ch, se2, ly, vw) → wpY_crash post (gv, th, va, nx, hi, ms, nu, sz, fl, ch, se, ly, vw)) := by
  obtain ⟨r, se2, vl2, H, hX, hY⟩ := xm_allL (gv := gv) (th := th) (va := va) (nx := nx) (hi := hi) (ms := ms) (nu := nu) (sz := sz) (fl := fl) (ch := ch) (vl := vl) (vw := vw) (ly := ly) (ms_sel J) 3 0 0 se vl (by omega) (fun s hs => Or.inr ⟨rfl, rfl⟩)
  exact ⟨r, se2, vl2, ms_desel J H, fun post hp => ⟨4, hX post hp⟩, fun post hp => ⟨4, hY post hp⟩⟩
theorem ms_ini3 : ∀ s, s < 3 → (upd (upd (upd (fun _ => (0 : Int32)) 0 (-1)) 1 (-1)) 2 (-1)) s = -1 := by
  intro s hs
  match s, hs with
  | 0, _ => rfl
  | 1, _ => rfl
  | 2, _ => rfl
end
theorem i_vc0 : wpX_init (fun u => wpY_init (fun v => i_Rel 0 u v)) := by
  have z0 : (0 : Int32).toNatClampNeg = 0 := by decide
  have z1 : (0 + 1 : Int32).toNatClampNeg = 1 := by decide
  have z2 : (0 + 1 + 1 : Int32).toNatClampNeg = 2 := by decide
  have J := ms_desel ms_init (se' := upd (upd (upd (fun _ => (0 : Int32)) 0 (-1)) 1 (-1)) 2 (-1)) (vl' := fun _ => 0) (fun s hs => Or.inl ⟨ms_ini3 s hs, rfl⟩)
  refine ⟨4, br_f (by decide) ⟨vp_in_iff.mpr (by decide), nm_e (nm_e (br_f (by decide) ⟨vp_in_iff.mpr (by decide), nm_e (nm_e (br_f (by decide) ⟨vp_in_iff.mpr (by decide), nm_e (nm_e (br_t (by decide) ?_))⟩))⟩))⟩⟩
  refine ⟨4, br_f (by decide) ⟨vp_in_iff.mpr (by decide), nm_e (nm_e (br_f (by decide) ⟨vp_in_iff.mpr (by decide), nm_e (nm_e (br_f (by decide) ⟨vp_in_iff.mpr (by decide), nm_e (nm_e (br_t (by decide) ?_))⟩))⟩))⟩⟩
  rw [z0, z1, z2]
  exact ms_rel J
