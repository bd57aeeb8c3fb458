/-! the methods that write -/
theorem i_vc_append {k : Nat} {u : SX} {v : SY} (I : i_Rel k u v) (hk : k + 5 ≤ 2560) (v1 : Int32) (v2 : Int32) (v3 : Int32) : wpX_append (fun r u' => wpY_append (fun r' v' => r' = r ∧ i_Rel (k + 5) u' v') v v1 v2 v3) u v1 v2 v3 := by
  obtain ⟨gv, th, va, nx, hi, ms, nu, sz, fl, ch, se, vl, vw, ly, rfl, rfl, J⟩ := I
  unfold wpX_append wpY_append
  dsimp only
  obtain ⟨r, hX, hY, h | ⟨rfl, m, c, hm, rfl, ht, hc, hc14, z1, z2, f1, f2⟩⟩ := xm_refuse J v1 v2 v3
  · exact hX _ (br_f h.2 (hY _ (br_f h.1 ⟨rfl, ms_rel (ms_up J)⟩)))
  · exact hX _ (br_t rfl (xm_add hm hc hc14 (hY _ (br_t ms_00 (ym_add hm hc hc14 ⟨rfl, ms_rel (ms_append J hk hm ht hc hc14 z1 z2 f1 f2)⟩)))))
theorem i_vc_appendAndCrash {k : Nat} {u : SX} {v : SY} (I : i_Rel k u v) (hk : k + 5 ≤ 2560) (v1 : Int32) (v2 : Int32) (v3 : Int32) : wpX_appendAndCrash (fun r u' => wpY_appendAndCrash (fun r' v' => r' = r ∧ i_Rel (k + 5) u' v') v v1 v2 v3) u v1 v2 v3 := by
  obtain ⟨gv, th, va, nx, hi, ms, nu, sz, fl, ch, se, vl, vw, ly, rfl, rfl, J⟩ := I
  unfold wpX_appendAndCrash wpY_appendAndCrash
  dsimp only
  by_cases n : 0 ≤ v2
  · refine br_t n ⟨ms_320, ms_320, ?_⟩
    obtain ⟨r, hX, hY, h | ⟨rfl, _⟩⟩ := xm_refuse J v1 (v2 / 32) (v2 - v2 / 32 * 32)
    · exact hX _ (br_f h.2 (br_t n ⟨ms_320, ms_320, hY _ (br_f h.1 ⟨rfl, ms_rel (ms_up J)⟩)⟩))
    · obtain ⟨r, se2, vl2, J2, aX, aY⟩ := xm_all J
      exact hX _ (br_t rfl (aX _ (br_t n ⟨ms_320, ms_320, hY _ (br_t ms_00 (aY _ ⟨rfl, ms_rel (ms_up J2)⟩))⟩)))
  · exact br_f n (br_f n ⟨rfl, ms_rel (ms_up J)⟩)
theorem ms_dist {k : Nat} {gv : Int32} {th va nx hi ms nu sz fl ch : Nat → Int32} {m c : Nat} (B : ms_Box k gv th va nx hi ms nu sz fl ch m) (hc : ms m = nI c) (hc14 : c ≤ 14) : ∀ i j, i < j → j < c → ¬ nu (14 * m + i) = nu (14 * m + j) := by
  obtain ⟨c', h1, h2, h3, h4, h5, h6, h7, h8, h9, h10⟩ := B
  obtain rfl : c' = c := ms_nIeq (h2.symm.trans hc) h1 hc14
  intro i j hij hj e
  have z := h10 i j hij hj
  rw [e] at z
  omega
theorem ms_sub0 (c : Nat) : nI c - nI 0 = nI c := pk_sub (Nat.zero_le c)
theorem i_vc_select {k : Nat} {u : SX} {v : SY} (I : i_Rel k u v) (hk : k + 5 ≤ 2560) (v1 : Int32) (v2 : Int32) : wpX_select (fun r u' => wpY_select (fun r' v' => r' = r ∧ i_Rel (k + 5) u' v') v v1 v2) u v1 v2 := by
  obtain ⟨gv, th, va, nx, hi, ms, nu, sz, fl, ch, se, vl, vw, ly, rfl, rfl, J⟩ := I
  have R := ms_rel (ms_up J)
  unfold wpX_select wpY_select
  dsimp only
  rcases ms_arg v1 3 (by omega) with hx | ⟨s, hs, rfl⟩
  · exact xm_gsF hx (br_t rfl (ym_bsF hx (br_f ms_n10 ⟨rfl, R⟩)))
  · refine xm_gs hs (br_f ms_n10 ?_)
    have n3 := ms_in3 hs
    rcases ms_arg v2 4 (by omega) with hx | ⟨m, hm, rfl⟩
    · exact xm_gmF hx (br_t rfl (ym_bs hs (br_t rfl (ym_bbF hx (br_f ms_n10 ⟨rfl, R⟩)))))
    · rw [ms_c hm, ms_c3 hs]
      have n4 := ms_in4 hm
      refine xm_gm hm (br_f ms_n10 ⟨n4, ?_⟩)
      rcases ms_01 J hm with ht | ⟨ht, ht0⟩
      · exact br_t ht (ym_bs hs (br_t rfl (ym_bb hm (br_t rfl ⟨n4, br_t ht ⟨rfl, R⟩⟩))))
      · obtain ⟨c, hc14, hc⟩ := ms_cnt J hm
        refine br_f ht0 ⟨n3, nm_e (xm_view hs hm hc hc14 pk_us ⟨n3, ?_⟩)⟩
        refine ym_bs hs (br_t rfl (ym_bb hm (br_t rfl ⟨n4, br_f ht0 ⟨n3, nm_e ⟨n3, nm_e ?_⟩⟩⟩)))
        refine ym_fill (l := 0) hs hm hc hc14 pk_us pk_us (Nat.zero_le c) (fun q h => absurd h (Nat.not_lt_zero q)) (ms_dist (J.2.2.1 m hm) hc hc14) ⟨?_, ms_rel (ms_up (ms_setV J hs (fun x hx => ⟨pk_un hx, pk_un hx, ?_⟩) (fun x hx => ms_cp_out (by omega)) (Or.inr ⟨m, c, c, pk_us, pk_us, pk_us, ms_show (J.2.2.1 m hm) hm ht hc hc14 (fun q hq => ms_cp_in hq)⟩)))⟩
        · dsimp only; rw [pk_us]; exact ms_sub0 c
        · dsimp only; rw [pk_un hx, pk_un hx]
theorem i_vc_leave {k : Nat} {u : SX} {v : SY} (I : i_Rel k u v) (hk : k + 5 ≤ 2560) (v1 : Int32) : wpX_leave (fun r u' => wpY_leave (fun r' v' => r' = r ∧ i_Rel (k + 5) u' v') v v1) u v1 := by
  obtain ⟨gv, th, va, nx, hi, ms, nu, sz, fl, ch, se, vl, vw, ly, rfl, rfl, J⟩ := I
  have R := ms_rel (ms_up J)
  unfold wpX_leave wpY_leave wpX_deselect
  dsimp only
  rcases ms_arg v1 3 (by omega) with hx | ⟨s, hs, rfl⟩
  · exact xm_gsF hx (br_t rfl (ym_nvF hx (br_f ms_1_0 (ym_nvF hx ⟨rfl, R⟩))))
  · rw [ms_c3 hs]
    have n3 := ms_in3 hs
    rcases J.2.2.2 s hs with ⟨e, e2⟩ | ⟨m, c, l, h1, h2, h3, S⟩
    · exact xm_gs hs (br_f ms_n10 ⟨n3, br_t e (ym_nv0 hs e (br_f ms_2_0 (ym_nv0 hs e ⟨rfl, R⟩)))⟩)
    · have ne : ¬ se s = -1 := by rw [h1]; exact ms_ne1 (by have := S.1; omega)
      refine xm_gs hs (br_f ms_n10 ⟨n3, br_f ne ⟨n3, nm_e ⟨n3, nm_e ⟨n3, nm_e (ym_nv hs h1 S.1 (br_t ms_00 ⟨n3, nm_e ⟨n3, nm_e ⟨rfl, ms_rel (ms_up (ms_desel J (fun x hx => ?_)))⟩⟩⟩))⟩⟩⟩⟩)
      by_cases z : x = s
      · subst z; exact Or.inl ⟨pk_us, pk_us⟩
      · exact Or.inr ⟨pk_un z, pk_un z⟩
theorem i_vc_expunge {k : Nat} {u : SX} {v : SY} (I : i_Rel k u v) (hk : k + 5 ≤ 2560) (v1 : Int32) : wpX_expunge (fun r u' => wpY_expunge (fun r' v' => r' = r ∧ i_Rel (k + 5) u' v') v v1) u v1 := by
  obtain ⟨gv, th, va, nx, hi, ms, nu, sz, fl, ch, se, vl, vw, ly, rfl, rfl, J⟩ := I
  have R := ms_rel (ms_up J)
  unfold wpX_expunge wpY_expunge wpX_takeOutDeleted
  dsimp only
  rcases ms_arg v1 3 (by omega) with hx | ⟨s, hs, rfl⟩
  · exact xm_gsF hx (br_t rfl (ym_nvF hx (br_f ms_1_0 (ym_nvF hx ⟨rfl, R⟩))))
  · rw [ms_c3 hs]
    have n3 := ms_in3 hs
    rcases J.2.2.2 s hs with ⟨e, e2⟩ | ⟨m, c, l, h1, h2, h3, S⟩
    · exact xm_gs hs (br_f ms_n10 ⟨n3, br_t e (ym_nv0 hs e (br_f ms_2_0 (ym_nv0 hs e ⟨rfl, R⟩)))⟩)
    · have hm := S.1
      have ne : ¬ se s = -1 := by rw [h1]; exact ms_ne1 (by omega)
      obtain ⟨c', b1, b2, b3, b4, b5, b6, b7, b8, b9, b10⟩ := J.2.2.1 m hm
      obtain ⟨p, g, nu2, sz2, fl2, ch2, G, M1, M2, M3, M4, tX, tY⟩ := xm_takeL (gv := gv) (th := th) (va := va) (nx := nx) (hi := hi) (nu := nu) (sz := sz) (fl := fl) (ch := ch) (se := se) (vl := vl) (vw := vw) s ly hm b2 b1 (fun i hi' => ⟨(b9 i hi').2.2.2.2.1, (b9 i hi').2.2.2.2.2.1⟩) c' 0 0 (fun q => q) nu sz fl ch (by omega) ms_Gi0 ms_Mv0 ms_Mv0 ms_Mv0 ms_Mv0
      have J1 := ms_take J hk hm b2 b1 G M1 M2 M3 M4
      rw [← pk_sub G.1] at J1
      rcases J1.2.2.2 s hs with ⟨e, _⟩ | ⟨m', c2, l', k1, k2, k3, S'⟩
      · exact absurd e ne
      · obtain ⟨p2, vw2, _, D1, D2, D3, dX, dY⟩ := xm_drop gv va (upd hi m (hi m + (nI c' - nI p))) sz2 fl2 ch2 hs S' k1 k2 k3
        have J2 := ms_setV (se' := se) (vl' := upd vl s (nI p2)) (vw' := vw2) (ly' := upd ly s (nI p2)) J1 hs (fun x hx => ⟨rfl, pk_un hx, pk_un hx⟩) D3 (Or.inr ⟨m', c2, p2, k1, pk_us, pk_us, D1⟩)
        rw [h1]
        refine xm_gs hs (br_f ms_n10 ⟨n3, br_f (ms_ne1 (by omega)) ⟨n3, nm_r (ms_c4 m) ⟨c' + 1, tX _ (dX _ ?_)⟩⟩⟩)
        exact ym_nv hs h1 hm (br_t ms_00 ⟨n3, nm_e (nm_r (ms_c4' m) ⟨c' + 1, tY _ (dY _ ⟨rfl, ms_rel J2⟩)⟩)⟩)
theorem i_vc_poll {k : Nat} {u : SX} {v : SY} (I : i_Rel k u v) (hk : k + 5 ≤ 2560) (v1 : Int32) : wpX_poll (fun r u' => wpY_poll (fun r' v' => r' = r ∧ i_Rel (k + 5) u' v') v v1) u v1 := by
  obtain ⟨gv, th, va, nx, hi, ms, nu, sz, fl, ch, se, vl, vw, ly, rfl, rfl, J⟩ := I
  have R := ms_rel (ms_up J)
  unfold wpX_poll wpY_poll
  dsimp only
  rcases ms_arg v1 3 (by omega) with hx | ⟨s, hs, rfl⟩
  · exact xm_gsF hx (br_t rfl (ym_nvF hx (br_f ms_1_0 (ym_nvF hx ⟨rfl, R⟩))))
  · rw [ms_c3 hs]
    have n3 := ms_in3 hs
    rcases J.2.2.2 s hs with ⟨e, e2⟩ | ⟨m, c, l, h1, h2, h3, S⟩
    · exact xm_gs hs (br_f ms_n10 ⟨n3, br_t e (ym_nv0 hs e (br_f ms_2_0 (ym_nv0 hs e ⟨rfl, R⟩)))⟩)
    · have hm := S.1
      have ne : ¬ se s = -1 := by rw [h1]; exact ms_ne1 (by omega)
      have hc := S.2.2.2.2.1
      have hc14 := S.2.1
      have ht := S.2.2.2.1
      obtain ⟨p, vw2, _, D1, D2, D3, dX, dY⟩ := xm_drop gv va hi sz fl ch hs S h1 h2 h3
      obtain ⟨P1, P2⟩ := ms_pre D1 (J.2.2.1 m hm) D2
      have J2 := ms_setV (se' := se) (vl' := upd (upd vl s (nI p)) s (nI c)) (vw' := ms_cp vw2 nu s m c) (ly' := upd (upd ly s (nI p)) s (nI c)) J hs (fun x hx => ⟨rfl, by rw [pk_un hx, pk_un hx], by rw [pk_un hx, pk_un hx]⟩) (fun x hx => by rw [ms_cp_out (by omega)]; exact D3 x hx) (Or.inr ⟨m, c, c, h1, pk_us, pk_us, ms_show (J.2.2.1 m hm) hm ht hc hc14 (fun q hq => ms_cp_in hq)⟩)
      refine xm_gs hs (br_f ms_n10 ⟨n3, br_f ne ⟨n3, nm_r h2 (dX _ ⟨n3, nm_r pk_us (xm_view hs hm hc hc14 h1 (nm_e ⟨n3, nm_e ?_⟩))⟩)⟩⟩)
      refine ym_nv hs h1 hm (br_t ms_00 (dY _ (ym_fill (l := p) hs hm hc hc14 h1 pk_us P1 P2 (ms_dist (J.2.2.1 m hm) hc hc14) ⟨?_, ms_rel (ms_up J2)⟩)))
      dsimp only
      rw [pk_us]
theorem i_vc_copy {k : Nat} {u : SX} {v : SY} (I : i_Rel k u v) (hk : k + 5 ≤ 2560) (v1 : Int32) (v2 : Int32) (v3 : Int32) : wpX_copy (fun r u' => wpY_copy (fun r' v' => r' = r ∧ i_Rel (k + 5) u' v') v v1 v2 v3) u v1 v2 v3 := by
  obtain ⟨gv, th, va, nx, hi, ms, nu, sz, fl, ch, se, vl, vw, ly, rfl, rfl, J⟩ := I
  have R := ms_rel (ms_up J)
  unfold wpX_copy wpY_copy
  dsimp only
  rcases ms_arg v1 3 (by omega) with hx | ⟨s, hs, rfl⟩
  · exact xm_gsF hx (br_t rfl (ym_bsF hx (br_f ms_n10 ⟨rfl, R⟩)))
  · refine xm_gs hs (br_f ms_n10 ?_)
    rcases ms_arg v3 4 (by omega) with hx | ⟨t, ht4, rfl⟩
    · exact xm_gmF hx (br_t rfl (ym_bs hs (br_t rfl (ym_bbF hx (br_f ms_n10 ⟨rfl, R⟩)))))
    · rw [ms_c ht4]
      have n4 := ms_in4 ht4
      refine xm_gm ht4 (br_f ms_n10 ?_)
      rcases xm_pl J hs v2 with ⟨pX, _, pY⟩ | ⟨m, c, l, i, hi', rfl, h1, h2, h3, S, pX⟩
      · exact pX _ (br_t rfl (ym_bs hs (br_t rfl (ym_bb ht4 (br_t rfl (pY _ (br_f ms_2_0 ⟨rfl, R⟩)))))))
      · refine pX _ (br_f ms_n10 ?_)
        have hm := S.1
        have hc14 := S.2.1
        rcases xm_at va hi sz fl ch gv hs S h1 vl h3 hi' with ⟨aX, aY⟩ | ⟨j, hj, aX, aY⟩
        · exact aX _ (br_t rfl (ym_bs hs (br_t rfl (ym_bb ht4 (br_t rfl (aY _ (br_f ms_4_0 ⟨rfl, R⟩)))))))
        · have hk' := ms_k (i := 14 * m + j) (by omega)
          have hin := ms_i56 (i := 14 * m + j) (by omega)
          have n1 : ¬ nI (14 * m + j) = -1 := ms_ne1 (by omega)
          have n0 : 0 ≤ nI (14 * m + j) := nI_pos' (by omega)
          refine aX _ (br_f n1 ?_)
          rcases ms_01 J ht4 with ht | ⟨ht, ht0⟩
          · exact xm_rb0 ht4 ht (br_f (by decide) (ym_bs hs (br_t rfl (ym_bb ht4 (br_t rfl (aY _ (br_t n0 ⟨n4, br_t ht ⟨rfl, R⟩⟩)))))))
          · obtain ⟨d, hd14, hd⟩ := ms_cnt J ht4
            by_cases e6 : d = 14
            · subst e6
              exact xm_rb3 ht4 ht0 hd (br_f (by decide) (ym_bs hs (br_t rfl (ym_bb ht4 (br_t rfl (aY _ (br_t n0 ⟨n4, br_f ht0 ⟨n4, br_t hd ⟨rfl, R⟩⟩⟩)))))))
            · obtain ⟨c', b1, b2, b3, b4, b5, b6, b7, b8, b9, b10⟩ := J.2.2.1 m hm
              obtain rfl : c' = c := ms_nIeq (b2.symm.trans S.2.2.2.2.1) b1 hc14
              obtain ⟨g1, g2, g3, g4, g5, g6, g7, g8⟩ := b9 j hj
              rw [hk']
              refine xm_rb ht4 ht0 hd (by omega) (br_t rfl ⟨hin, hin, xm_add ht4 hd (by omega) ?_⟩)
              refine ym_bs hs (br_t rfl (ym_bb ht4 (br_t rfl (aY _ (br_t n0 ⟨n4, br_f ht0 ⟨n4, br_f (by rw [hd]; exact ms_ne14 (by omega)) ⟨hin, hin, ?_⟩⟩⟩)))))
              rw [hk']
              exact ym_add ht4 hd (by omega) ⟨rfl, ms_rel (ms_append J hk ht4 ht hd (by omega) g3 g4 g5 g6)⟩
