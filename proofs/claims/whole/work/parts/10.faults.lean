/-! faults answers 0 -/
section
variable {k : Nat} {gv : Int32} {th va nx hi ms nu sz fl ch se vl vw ly : Nat → Int32} {m s c l : Nat} {post : Int32 → Prop}
theorem ms_lt1 {x : Int32} (h : 1 ≤ x.toInt) : ¬ x < 1 := by
  rw [Int32.lt_iff_toInt_lt, ms_t1]; omega
theorem xm_gz {z : Int32} (h1 : 1 ≤ z.toInt) (h2 : z.toInt ≤ 1000) (p : post 1) : wpX_goodSize post z :=
  br_f (ms_lt1 h1) (br_f (by rw [Int32.lt_iff_toInt_lt, show (1000 : Int32).toInt = 1000 from by decide]; omega) p)
theorem xm_gf {z : Int32} (h1 : 0 ≤ z.toInt) (h2 : z.toInt < 32) (p : post 1) : wpX_goodFlags post z :=
  br_f (by rw [Int32.lt_iff_toInt_lt, ms_t0]; omega) (br_f (by rw [Int32.le_iff_toInt_le, show (32 : Int32).toInt = 32 from by decide]; omega) p)
theorem xm_fmL (hm : m < 4) (hc : ms m = nI c) (hc14 : c ≤ 14) (h9 : ∀ i, i < c → ms_Msg (nx m) (hi m) (nu (14 * m + i)) (sz (14 * m + i)) (fl (14 * m + i)) (ch (14 * m + i))) (h10 : ∀ i j, i < j → j < c → (nu (14 * m + i)).toInt < (nu (14 * m + j)).toInt) (hp : post 0) : ∀ (d i : Nat) (last : Int32), i + d = c → (∀ j, i ≤ j → j < c → last.toInt < (nu (14 * m + j)).toInt) → wX_faultsOfMailbox_33 post (nI m) gv th va nx hi ms nu sz fl ch se vl vw (d + 1) 0 last (nI i) := by
  intro d
  induction d with
  | zero =>
    intro i last hi' H
    rw [wX_faultsOfMailbox_33]; dsimp only; rw [ms_c hm, hc]
    exact ⟨ms_in4 hm, br_t (nI_le (by omega) (by omega)) hp⟩
  | succ d ih =>
    intro i last hi' H
    have ki := ms_k (i := 14 * m + i) (by omega)
    have ni := ms_i56 (i := 14 * m + i) (by omega)
    obtain ⟨g1, g2, g3, g4, g5, g6, g7, g8⟩ := h9 i (by omega)
    have z := H i (Nat.le_refl i) (by omega)
    rw [wX_faultsOfMailbox_33]; dsimp only; rw [ms_c hm, hc]
    refine ⟨ms_in4 hm, br_f (nI_ge (by omega) (by omega)) (nm_r (ms_e1 m i) ?_)⟩
    rw [ki]
    refine ⟨ni, br_f (by rw [Int32.le_iff_toInt_le]; omega) ⟨ni, ms_in4 hm, br_t (by rw [Int32.lt_iff_toInt_lt]; omega) ?_⟩⟩
    unfold wX_faultsOfMailbox_83
    rw [ki]
    refine ⟨ni, xm_gz g3 g4 (br_f ms_n10 ⟨ni, xm_gf g5 g6 (br_f ms_n10 ?_)⟩)⟩
    unfold wX_faultsOfMailbox_112
    rw [ki, ms_c hm]
    refine ⟨ni, br_f (by rw [Int32.le_iff_toInt_le, ms_t1]; omega) ⟨ni, ms_in4 hm, br_t (by rw [Int32.le_iff_toInt_le]; omega) ⟨ni, nm_e (nm_r (nI_1 i) ?_)⟩⟩⟩
    exact ih (i + 1) _ (by omega) (fun j h1 h2 => h10 i j (by omega) h2)
theorem xm_fm (J : ms_Inv k gv th va nx hi ms nu sz fl ch se vl vw ly) (hm : m < 4) (ht : th m = 1) (hp : post 0) : wpX_faultsOfMailbox post (gv, th, va, nx, hi, ms, nu, sz, fl, ch, se, vl, vw) (nI m) := by
  obtain ⟨c, h1, h2, h3, h4, h5, h6, h7, h8, h9, h10⟩ := J.2.2.1 m hm
  have z := h8 ht
  unfold wpX_faultsOfMailbox
  dsimp only
  rw [ms_c hm]
  refine ⟨ms_in4 hm, br_f (ms_lt1 z.1) ⟨ms_in4 hm, br_t (by rw [Int32.le_iff_toInt_le]; exact z.2.1) ⟨c + 1, ?_⟩⟩⟩
  exact xm_fmL hm h2 h1 h9 h10 hp c 0 0 (by omega) (fun j _ hj => by rw [ms_t0]; have := (h9 j hj).1; omega)
theorem xm_fvL (hs : s < 3) (S : ms_Sees th nx ms nu vw s m c l) (hv : vl s = nI l) (hp : post 0) : ∀ (d i : Nat) (last : Int32), i + d = l → (∀ j, i ≤ j → j < l → last.toInt < (vw (14 * s + j)).toInt) → wX_faultsOfView_48 post (nI s) (nI m) gv th va nx hi ms nu sz fl ch se vl vw (d + 1) 0 last (nI (i + 1)) := by
  obtain ⟨s1, s2, s3, s4, s5, s6, s7, s8⟩ := S
  intro d
  induction d with
  | zero =>
    intro i last hi' H
    rw [wX_faultsOfView_48]; dsimp only; rw [ms_c3 hs, hv]
    exact ⟨ms_in3 hs, br_t (nI_lt (by omega) (by omega)) hp⟩
  | succ d ih =>
    intro i last hi' H
    have ki := ms_k (i := 14 * s + i) (by omega)
    have ni := ms_i42 (i := 14 * s + i) (by omega)
    have z := H i (Nat.le_refl i) (by omega)
    have z2 := s6 i (by omega)
    rw [wX_faultsOfView_48]; unfold wpX_viewCell; dsimp only; rw [ms_c3 hs, hv, ms_e3, ki, ms_c s1]
    refine ⟨ms_in3 hs, br_f (nI_nlt (by omega) (by omega)) ⟨ni, nm_e (br_f (by rw [Int32.le_iff_toInt_le]; omega) ⟨ms_in4 s1, br_t (by rw [Int32.lt_iff_toInt_lt]; omega) (nm_r (nI_1 (i + 1)) ?_)⟩)⟩⟩
    exact ih (i + 1) _ (by omega) (fun j h1 h2 => s7 i j (by omega) h2)
theorem xm_fv (J : ms_Inv k gv th va nx hi ms nu sz fl ch se vl vw ly) (hs : s < 3) (hp : post 0) : wpX_faultsOfView post (gv, th, va, nx, hi, ms, nu, sz, fl, ch, se, vl, vw) (nI s) := by
  unfold wpX_faultsOfView
  dsimp only
  rw [ms_c3 hs]
  rcases J.2.2.2 s hs with ⟨e, e2⟩ | ⟨m, c, l, h1, h2, h3, S⟩
  · exact ⟨ms_in3 hs, nm_e (br_t e ⟨ms_in3 hs, br_t e2 hp⟩)⟩
  · refine ⟨ms_in3 hs, nm_r h1 (br_f (ms_ne1 (by have := S.1; omega)) ⟨ms_in4 S.1, br_f ?_ ⟨l + 1, ?_⟩⟩)⟩
    · rw [ms_c S.1, S.2.2.2.1]; exact ms_n10
    · exact xm_fvL hs S h2 hp l 0 0 (by omega) (fun j _ hj => by rw [ms_t0]; have := (S.2.2.2.2.2.1 j hj).1; omega)
theorem xm_f34 (J : ms_Inv k gv th va nx hi ms nu sz fl ch se vl vw ly) (hp : post 0) : ∀ d i : Nat, i + d = 3 → wX_faults_34 post gv th va nx hi ms nu sz fl ch se vl vw (d + 1) 0 (nI i) := by
  intro d
  induction d with
  | zero =>
    intro i hi'
    obtain rfl : i = 3 := by omega
    rw [wX_faults_34]; dsimp only
    exact br_t ms_30 hp
  | succ d ih =>
    intro i hi'
    rw [wX_faults_34]; dsimp only
    exact br_f (nI_ge (b := 3) (by omega) (by decide)) (xm_fv J (by omega) (nm_r (show (0 : Int32) + 0 = 0 from by decide) (nm_r (nI_1 i) (ih (i + 1) (by omega)))))
theorem ms_40 : (4 : Int32) ≤ nI 4 := by decide
theorem xm_f4 (J : ms_Inv k gv th va nx hi ms nu sz fl ch se vl vw ly) (hp : post 0) : ∀ d i : Nat, i + d = 4 → wX_faults_4 post gv th va nx hi ms nu sz fl ch se vl vw (d + 1) 0 (nI i) := by
  intro d
  induction d with
  | zero =>
    intro i hi'
    obtain rfl : i = 4 := by omega
    rw [wX_faults_4]; dsimp only
    exact br_t ms_40 ⟨4, xm_f34 J hp 3 0 (by omega)⟩
  | succ d ih =>
    intro i hi'
    have hi4 : i < 4 := by omega
    rw [wX_faults_4]; dsimp only; rw [ms_c hi4]
    refine br_f (nI_ge (b := 4) hi4 (by decide)) ⟨ms_in4 hi4, ?_⟩
    rcases ms_01 J hi4 with ht | ⟨ht, ht0⟩
    · exact br_t ht (nm_r (nI_1 i) (ih (i + 1) (by omega)))
    · exact br_f ht0 (xm_fm J hi4 ht (nm_r (show (0 : Int32) + 0 = 0 from by decide) (nm_r (nI_1 i) (ih (i + 1) (by omega)))))
end
theorem i_vc_faults {k : Nat} {u : SX} {v : SY} (I : i_Rel k u v) (hk : k + 5 ≤ 2560) : wpX_faults (fun r => wpY_faults (fun r' => r' = r ∧ i_Rel (k + 5) u v) v) u := by
  obtain ⟨gv, th, va, nx, hi, ms, nu, sz, fl, ch, se, vl, vw, ly, rfl, rfl, J⟩ := I
  unfold wpX_faults wpY_faults
  dsimp only
  exact ⟨5, xm_f4 J ⟨rfl, ms_rel (ms_up J)⟩ 4 0 (by omega)⟩
theorem i_vc_idle {k : Nat} {u : SX} {v : SY} (I : i_Rel k u v) (hk : k + 5 ≤ 2560) (v1 : Int32) (v2 : Int32) : wpX_idle (fun u' => wpY_idle (fun v' => i_Rel (k + 5) u' v') v v1 v2) u v1 v2 := by
  obtain ⟨gv, th, va, nx, hi, ms, nu, sz, fl, ch, se, vl, vw, ly, rfl, rfl, J⟩ := I
  exact ms_rel (ms_up J)
theorem i_vc_crash {k : Nat} {u : SX} {v : SY} (I : i_Rel k u v) (hk : k + 5 ≤ 2560) : wpX_crash (fun r u' => wpY_crash (fun r' v' => r' = r ∧ i_Rel (k + 5) u' v') v) u := by
  obtain ⟨gv, th, va, nx, hi, ms, nu, sz, fl, ch, se, vl, vw, ly, rfl, rfl, J⟩ := I
  obtain ⟨r, se2, vl2, J2, hX, hY⟩ := xm_all J
  unfold wpX_crash
  dsimp only
  exact hX _ (hY _ ⟨rfl, ms_rel (ms_up J2)⟩)
theorem i_vc_create {k : Nat} {u : SX} {v : SY} (I : i_Rel k u v) (hk : k + 5 ≤ 2560) (v1 : Int32) : wpX_create (fun r u' => wpY_create (fun r' v' => r' = r ∧ i_Rel (k + 5) u' v') v v1) u v1 := by
  obtain ⟨gv, th, va, nx, hi, ms, nu, sz, fl, ch, se, vl, vw, ly, rfl, rfl, J⟩ := I
  unfold wpX_create wpY_create
  dsimp only
  rcases ms_arg v1 4 (by omega) with hx | ⟨m, hm, rfl⟩
  · exact xm_gmF hx (br_t rfl (ym_bbF hx (br_f ms_n10 ⟨rfl, ms_rel (ms_up J)⟩)))
  · rw [ms_c hm, ms_vb1]
    have n4 := ms_in4 hm
    rcases ms_01 J hm with ht | ⟨ht, ht0⟩
    · refine xm_gm hm (br_f ms_n10 ⟨n4, br_t ht (nm_e ⟨n4, nm_e ⟨n4, nm_e ⟨n4, nm_e ⟨n4, nm_e ⟨n4, nm_e ⟨n4, ?_⟩⟩⟩⟩⟩⟩)⟩)
      refine ym_bb hm (br_t rfl ⟨n4, br_t ht ⟨n4, nm_e (nm_e ⟨n4, nm_e ⟨n4, nm_e ⟨n4, nm_e ⟨n4, nm_e ⟨pk_us.symm, ?_⟩⟩⟩⟩⟩)⟩⟩)
      exact ms_rel (ms_create J hk hm (fun h => absurd (ht.symm.trans h) (by decide)))
    · exact xm_gm hm (br_f ms_n10 ⟨n4, br_f ht0 (ym_bb hm (br_t rfl ⟨n4, br_f ht0 ⟨rfl, ms_rel (ms_up J)⟩⟩))⟩)
theorem i_vc_remove {k : Nat} {u : SX} {v : SY} (I : i_Rel k u v) (hk : k + 5 ≤ 2560) (v1 : Int32) : wpX_remove (fun r u' => wpY_remove (fun r' v' => r' = r ∧ i_Rel (k + 5) u' v') v v1) u v1 := by
  obtain ⟨gv, th, va, nx, hi, ms, nu, sz, fl, ch, se, vl, vw, ly, rfl, rfl, J⟩ := I
  unfold wpX_remove wpY_remove
  dsimp only
  rcases ms_arg v1 4 (by omega) with hx | ⟨m, hm, rfl⟩
  · exact xm_gmF hx (br_t rfl (ym_nbF hx (br_f ms_1_0 (ym_nbF hx ⟨rfl, ms_rel (ms_up J)⟩))))
  · rw [ms_c hm, ms_vb0]
    have n4 := ms_in4 hm
    rcases ms_01 J hm with ht | ⟨ht, ht0⟩
    · exact xm_gm hm (br_f ms_n10 ⟨n4, br_t ht (ym_nb0 hm ht (br_f ms_2_0 (ym_nb0 hm ht ⟨rfl, ms_rel (ms_up J)⟩)))⟩)
    · obtain ⟨se2, vl2, H, hX, hY⟩ := xm_remL (gv := gv) (th := upd th m 0) (va := va) (nx := nx) (hi := hi) (ms := ms) (nu := nu) (sz := sz) (fl := fl) (ch := ch) (se := se) (vl := vl) (vw := vw) (ly := ly) hm 3 0 se vl (by omega) (fun s hs => ⟨fun h => absurd h (Nat.not_lt_zero s), fun _ => ⟨rfl, rfl⟩⟩)
      exact xm_gm hm (br_f ms_n10 ⟨n4, br_f ht0 ⟨n4, nm_e ⟨4, hX _ (ym_nb hm ht0 (br_t ms_00 ⟨n4, nm_e ⟨4, hY _ ⟨rfl, ms_rel (ms_up (ms_remove J hm H))⟩⟩⟩))⟩⟩⟩)
