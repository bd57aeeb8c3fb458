/-! the methods that only read -/
theorem i_vc_status {k : Nat} {u : SX} {v : SY} (I : i_Rel k u v) (hk : k + 5 ≤ 2560) (v1 : Int32) (v2 : Int32) : wpX_status (fun r => wpY_status (fun r' => r' = r ∧ i_Rel (k + 5) u v) v v1 v2) u v1 v2 := by
  obtain ⟨gv, th, va, nx, hi, ms, nu, sz, fl, ch, se, vl, vw, ly, rfl, rfl, J⟩ := I
  have R := ms_rel (ms_up J)
  unfold wpX_status wpY_status
  dsimp only
  rcases ms_arg v1 4 (by omega) with hx | ⟨m, hm, rfl⟩
  · exact xm_gmF hx (br_t rfl (ym_bbF hx (br_f ms_n10 ⟨rfl, R⟩)))
  · rw [ms_c hm]
    have n4 := ms_in4 hm
    rcases ms_arg v2 4 (by omega) with hx | ⟨w, hw, rfl⟩
    · refine xm_gm hm (br_f ms_n10 ?_)
      by_cases n : v2 < 0
      · exact br_t n (ym_bb hm (br_t rfl (br_t n ⟨rfl, R⟩)))
      · have n3 := ms_not4 (hx.resolve_left n)
        exact br_f n (br_f n3 (ym_bb hm (br_t rfl (br_f n (br_f n3 ⟨rfl, R⟩)))))
    · have w0 : ¬ nI w < 0 := nI_pos (by omega)
      have w3 : nI w ≤ 3 := nI_le (b := 3) (by omega) (by decide)
      refine xm_gm hm (br_f ms_n10 (br_f w0 (br_t w3 ⟨n4, ?_⟩)))
      rcases ms_01 J hm with ht | ⟨ht, ht0⟩
      · exact br_t ht (ym_bb hm (br_t rfl (br_f w0 (br_t w3 ⟨n4, br_t ht ⟨rfl, R⟩⟩))))
      · have q : w = 0 ∨ w = 1 ∨ w = 2 ∨ w = 3 := by omega
        refine br_f ht0 (br_f w0 ?_)
        rcases q with rfl | rfl | rfl | rfl
        · exact br_f (by decide) (br_t (by decide) ⟨n4, ym_bb hm (br_t rfl (br_f w0 (br_t w3 ⟨n4, br_f ht0 (br_t (by decide) ⟨n4, rfl, R⟩)⟩)))⟩)
        · exact br_f (by decide) (br_f (by decide) (br_t (by decide) ⟨n4, ym_bb hm (br_t rfl (br_f w0 (br_t w3 ⟨n4, br_f ht0 (br_f (by decide) (br_t (by decide) ⟨n4, rfl, R⟩))⟩)))⟩))
        · exact br_f (by decide) (br_f (by decide) (br_f (by decide) (br_t (by decide) ⟨n4, ym_bb hm (br_t rfl (br_f w0 (br_t w3 ⟨n4, br_f ht0 (br_f (by decide) (br_f (by decide) (br_t (by decide) ⟨n4, rfl, R⟩)))⟩)))⟩)))
        · exact br_t (by decide) ⟨n4, ym_bb hm (br_t rfl (br_f w0 (br_t w3 ⟨n4, br_f ht0 (br_f (by decide) (br_f (by decide) (br_f (by decide) ⟨n4, rfl, R⟩)))⟩)))⟩
theorem i_vc_counting {k : Nat} {u : SX} {v : SY} (I : i_Rel k u v) (hk : k + 5 ≤ 2560) (v1 : Int32) (v2 : Int32) : wpX_counting (fun r => wpY_counting (fun r' => r' = r ∧ i_Rel (k + 5) u v) v v1 v2) u v1 v2 := by
  obtain ⟨gv, th, va, nx, hi, ms, nu, sz, fl, ch, se, vl, vw, ly, rfl, rfl, J⟩ := I
  have R := ms_rel (ms_up J)
  unfold wpX_counting wpY_counting
  dsimp only
  rcases ms_arg v1 4 (by omega) with hx | ⟨m, hm, rfl⟩
  · exact xm_gmF hx (br_t rfl (ym_bbF hx (br_f ms_n10 ⟨rfl, R⟩)))
  · rw [ms_c hm]
    have n4 := ms_in4 hm
    refine xm_gm hm (br_f ms_n10 ?_)
    rcases ms_arg v2 1024 (by omega) with hx | ⟨w, hw, rfl⟩
    · exact xm_gpF hx (br_t rfl (ym_bb hm (br_t rfl ⟨fun _ => ⟨rfl, R⟩, fun n => br_f (ms_not1024 (hx.resolve_left n)) ⟨rfl, R⟩⟩)))
    · have w0 : ¬ nI w < 0 := nI_pos (by omega)
      have w3 : nI w ≤ 1023 := nI_le (b := 1023) (by omega) (by decide)
      refine xm_gp hw (br_f ms_n10 ⟨n4, ?_⟩)
      rcases ms_01 J hm with ht | ⟨ht, ht0⟩
      · exact br_t ht (ym_bb hm (br_t rfl (br_f w0 (br_t w3 ⟨n4, br_t ht ⟨rfl, R⟩⟩))))
      · obtain ⟨c, hc14, hc⟩ := ms_cnt J hm
        obtain ⟨q, hX, hY⟩ := xm_count (gv := gv) (th := th) (va := va) (nx := nx) (hi := hi) (nu := nu) (sz := sz) (fl := fl) (ch := ch) (se := se) (vl := vl) (vw := vw) (ly := ly) hm hc hc14 (nI w) c 0 0 (by omega)
        exact br_f ht0 ⟨c + 1, hX _ (ym_bb hm (br_t rfl (br_f w0 (br_t w3 ⟨n4, br_f ht0 (nm_r (ms_c4' m) ⟨c + 1, hY _ ⟨rfl, R⟩⟩)⟩))))⟩
theorem i_vc_changedSince {k : Nat} {u : SX} {v : SY} (I : i_Rel k u v) (hk : k + 5 ≤ 2560) (v1 : Int32) (v2 : Int32) (v3 : Int32) : wpX_changedSince (fun r => wpY_changedSince (fun r' => r' = r ∧ i_Rel (k + 5) u v) v v1 v2 v3) u v1 v2 v3 := by
  obtain ⟨gv, th, va, nx, hi, ms, nu, sz, fl, ch, se, vl, vw, ly, rfl, rfl, J⟩ := I
  have R := ms_rel (ms_up J)
  unfold wpX_changedSince wpY_changedSince
  dsimp only
  rcases ms_arg v1 4 (by omega) with hx | ⟨m, hm, rfl⟩
  · exact xm_gmF hx (br_t rfl (ym_nbF hx (br_f ms_1_0 (ym_nbF hx ⟨rfl, R⟩))))
  · rw [ms_c hm]
    have n4 := ms_in4 hm
    refine xm_gm hm (br_f ms_n10 ⟨n4, ?_⟩)
    rcases ms_01 J hm with ht | ⟨ht, ht0⟩
    · exact br_t ht (ym_nb0 hm ht (br_f ms_2_0 (ym_nb0 hm ht ⟨rfl, R⟩)))
    · obtain ⟨c, hc14, hc⟩ := ms_cnt J hm
      obtain ⟨q, hX, hY⟩ := xm_since (gv := gv) (th := th) (va := va) (nx := nx) (hi := hi) (nu := nu) (sz := sz) (fl := fl) (ch := ch) (se := se) (vl := vl) (vw := vw) (ly := ly) hm hc hc14 v2 v3 c 0 (by omega)
      exact br_f ht0 ⟨c + 1, hX _ (ym_nb hm ht0 (br_t ms_00 (nm_r (ms_c4' m) ⟨c + 1, hY _ ⟨rfl, R⟩⟩)))⟩
theorem ms_lt1le0 {x : Int32} (h : x < 1) : x ≤ 0 := by
  rw [Int32.lt_iff_toInt_lt, ms_t1] at h
  rw [Int32.le_iff_toInt_le, ms_t0]
  omega
theorem ms_nlt1le0 {x : Int32} (h : ¬ x < 1) : ¬ x ≤ 0 := by
  rw [Int32.lt_iff_toInt_lt, ms_t1] at h
  rw [Int32.le_iff_toInt_le, ms_t0]
  omega
theorem i_vc_vanished {k : Nat} {u : SX} {v : SY} (I : i_Rel k u v) (hk : k + 5 ≤ 2560) (v1 : Int32) (v2 : Int32) : wpX_vanished (fun r => wpY_vanished (fun r' => r' = r ∧ i_Rel (k + 5) u v) v v1 v2) u v1 v2 := by
  obtain ⟨gv, th, va, nx, hi, ms, nu, sz, fl, ch, se, vl, vw, ly, rfl, rfl, J⟩ := I
  have R := ms_rel (ms_up J)
  unfold wpX_vanished wpY_vanished
  dsimp only
  rcases ms_arg v1 4 (by omega) with hx | ⟨m, hm, rfl⟩
  · exact xm_gmF hx (br_t rfl (ym_nbF hx (br_f ms_1_0 (ym_nbF hx ⟨rfl, R⟩))))
  · rw [ms_c hm]
    have n4 := ms_in4 hm
    refine xm_gm hm (br_f ms_n10 ⟨n4, ?_⟩)
    rcases ms_01 J hm with ht | ⟨ht, ht0⟩
    · exact br_t ht (ym_nb0 hm ht (br_f ms_2_0 (ym_nb0 hm ht ⟨rfl, R⟩)))
    · refine br_f ht0 ?_
      unfold wX_vanished_40 wX_vanished_41
      by_cases e1 : v2 < 1
      · exact br_t e1 (br_t rfl (ym_nb hm ht0 (br_t ms_00 (br_t (ms_lt1le0 e1) ⟨rfl, R⟩))))
      · have e2 := ms_nlt1le0 e1
        by_cases e3 : nx m ≤ v2
        · exact br_f e1 ⟨n4, br_t e3 (br_t rfl (ym_nb hm ht0 (br_t ms_00 (br_f e2 ⟨n4, br_t e3 ⟨rfl, R⟩⟩))))⟩
        · obtain ⟨c, hc14, hc⟩ := ms_cnt J hm
          obtain ⟨r, hr, cX, cY⟩ := xm_cell (nu := nu) gv th va nx hi sz fl ch se vl vw ly hm hc hc14 v2
          rcases hr with ⟨rfl, hn⟩ | ⟨j, hj, ej, rfl⟩
          · exact br_f e1 ⟨n4, br_f e3 (br_f ms_n10 (cX _ (br_t rfl (ym_nb hm ht0 (br_t ms_00 (br_f e2 ⟨n4, br_f e3 (cY _ (br_f ms_1_0 ⟨rfl, R⟩))⟩))))))⟩
          · exact br_f e1 ⟨n4, br_f e3 (br_f ms_n10 (cX _ (br_f (ms_ne1 (by omega)) (ym_nb hm ht0 (br_t ms_00 (br_f e2 ⟨n4, br_f e3 (cY _ (br_t (nI_pos' (by omega)) ⟨rfl, R⟩))⟩))))))⟩
theorem i_vc_length {k : Nat} {u : SX} {v : SY} (I : i_Rel k u v) (hk : k + 5 ≤ 2560) (v1 : Int32) : wpX_length (fun r => wpY_length (fun r' => r' = r ∧ i_Rel (k + 5) u v) v v1) u v1 := by
  obtain ⟨gv, th, va, nx, hi, ms, nu, sz, fl, ch, se, vl, vw, ly, rfl, rfl, J⟩ := I
  have R := ms_rel (ms_up J)
  unfold wpX_length wpY_length
  dsimp only
  rcases ms_arg v1 3 (by omega) with hx | ⟨s, hs, rfl⟩
  · exact xm_gsF hx (br_t rfl (ym_nvF hx (br_f ms_1_0 (ym_nvF hx ⟨rfl, R⟩))))
  · rw [ms_c3 hs]
    have n3 := ms_in3 hs
    rcases J.2.2.2 s hs with ⟨e, e2⟩ | ⟨m, c, l, h1, h2, h3, S⟩
    · exact xm_gs hs (br_f ms_n10 ⟨n3, br_t e (ym_nv0 hs e (br_f ms_2_0 (ym_nv0 hs e ⟨rfl, R⟩)))⟩)
    · have ne : ¬ se s = -1 := by rw [h1]; exact ms_ne1 (by have := S.1; omega)
      exact xm_gs hs (br_f ms_n10 ⟨n3, br_f ne ⟨n3, ym_nv hs h1 S.1 (br_t ms_00 ⟨n3, h3.trans h2.symm, R⟩)⟩⟩)
theorem i_vc_numberAt {k : Nat} {u : SX} {v : SY} (I : i_Rel k u v) (hk : k + 5 ≤ 2560) (v1 : Int32) (v2 : Int32) : wpX_numberAt (fun r => wpY_numberAt (fun r' => r' = r ∧ i_Rel (k + 5) u v) v v1 v2) u v1 v2 := by
  obtain ⟨gv, th, va, nx, hi, ms, nu, sz, fl, ch, se, vl, vw, ly, rfl, rfl, J⟩ := I
  have R := ms_rel (ms_up J)
  unfold wpX_numberAt wpX_viewCell
  dsimp only
  rcases ms_arg v1 3 (by omega) with hx | ⟨s, hs, rfl⟩
  · unfold wpY_numberAt
    dsimp only
    exact xm_gsF hx (br_t rfl (ym_nvF hx (br_f ms_1_0 (ym_nvF hx ⟨rfl, R⟩))))
  · have n3 := ms_in3 hs
    rcases xm_pl J hs v2 with ⟨pX, pY, _⟩ | ⟨m, c, l, i, hi', rfl, h1, h2, h3, S, pX⟩
    · exact xm_gs hs (br_f ms_n10 (pX _ (br_t rfl (pY _ ⟨rfl, R⟩))))
    · have hl := S.2.2.1
      have hk' := ms_k (i := 14 * s + i) (by omega)
      have hin := ms_i42 (i := 14 * s + i) (by omega)
      unfold wpY_numberAt
      dsimp only
      rw [ms_e3, ms_e4, hk', ms_c3 hs, h3]
      exact xm_gs hs (br_f ms_n10 (pX _ (br_f ms_n10 ⟨hin, ym_nv hs h1 S.1 (br_t ms_00 (br_f (nI_nlt (b := 1) (by omega) (by omega)) ⟨n3, br_t (nI_le (by omega) (by omega)) ⟨hin, rfl, R⟩⟩))⟩)))
theorem i_vc_placeOf {k : Nat} {u : SX} {v : SY} (I : i_Rel k u v) (hk : k + 5 ≤ 2560) (v1 : Int32) (v2 : Int32) : wpX_placeOf (fun r => wpY_placeOf (fun r' => r' = r ∧ i_Rel (k + 5) u v) v v1 v2) u v1 v2 := by
  obtain ⟨gv, th, va, nx, hi, ms, nu, sz, fl, ch, se, vl, vw, ly, rfl, rfl, J⟩ := I
  have R := ms_rel (ms_up J)
  unfold wpX_placeOf wpY_placeOf
  dsimp only
  rcases ms_arg v1 3 (by omega) with hx | ⟨s, hs, rfl⟩
  · exact xm_gsF hx (br_t rfl (ym_nvF hx (br_f ms_1_0 (ym_nvF hx ⟨rfl, R⟩))))
  · rcases J.2.2.2 s hs with ⟨e, e2⟩ | ⟨m, c, l, h1, h2, h3, S⟩
    · refine xm_gs hs (br_f ms_n10 ⟨1, ?_⟩)
      rw [wX_placeOf_11]; dsimp only; rw [ms_c3 hs, e2]
      exact ⟨ms_in3 hs, br_t (by decide) (ym_nv0 hs e (br_f ms_2_0 (ym_nv0 hs e ⟨rfl, R⟩)))⟩
    · obtain ⟨q, hX, hY⟩ := xm_place (gv := gv) (th := th) (va := va) (nx := nx) (hi := hi) (ms := ms) (nu := nu) (sz := sz) (fl := fl) (ch := ch) (se := se) (vw := vw) hs h2 h3 S.2.2.1 v2 l 0 (by omega)
      exact xm_gs hs (br_f ms_n10 ⟨l + 1, hX _ (ym_nv hs h1 S.1 (br_t ms_00 ⟨l + 1, hY _ ⟨rfl, R⟩⟩))⟩)
theorem i_vc_fetch {k : Nat} {u : SX} {v : SY} (I : i_Rel k u v) (hk : k + 5 ≤ 2560) (v1 : Int32) (v2 : Int32) (v3 : Int32) : wpX_fetch (fun r => wpY_fetch (fun r' => r' = r ∧ i_Rel (k + 5) u v) v v1 v2 v3) u v1 v2 v3 := by
  obtain ⟨gv, th, va, nx, hi, ms, nu, sz, fl, ch, se, vl, vw, ly, rfl, rfl, J⟩ := I
  have R := ms_rel (ms_up J)
  unfold wpX_fetch wpY_fetch
  dsimp only
  rcases ms_arg v1 3 (by omega) with hx | ⟨s, hs, rfl⟩
  · exact xm_gsF hx (br_t rfl (ym_bsF hx (br_f ms_n10 ⟨rfl, R⟩)))
  · refine xm_gs hs (br_f ms_n10 ?_)
    by_cases n : v3 < 0
    · exact br_t n (ym_bs hs (br_t rfl (br_t n ⟨rfl, R⟩)))
    · by_cases n2 : v3 ≤ 2
      · refine br_f n (br_t n2 ?_)
        rcases xm_pl J hs v2 with ⟨pX, _, pY⟩ | ⟨m, c, l, i, hi', rfl, h1, h2, h3, S, pX⟩
        · exact pX _ (br_t rfl (ym_bs hs (br_t rfl (br_f n (br_t n2 (pY _ (br_f ms_2_0 ⟨rfl, R⟩)))))))
        · refine pX _ (br_f ms_n10 ?_)
          have hm := S.1
          have hc14 := S.2.1
          rcases xm_at va hi sz fl ch gv hs S h1 vl h3 hi' with ⟨aX, aY⟩ | ⟨j, hj, aX, aY⟩
          · exact aX _ (br_t rfl (ym_bs hs (br_t rfl (br_f n (br_t n2 (aY _ (br_f ms_4_0 ⟨rfl, R⟩)))))))
          · have hk' := ms_k (i := 14 * m + j) (by omega)
            have hin := ms_i56 (i := 14 * m + j) (by omega)
            have n1 : ¬ nI (14 * m + j) = -1 := ms_ne1 (by omega)
            have n0 : 0 ≤ nI (14 * m + j) := nI_pos' (by omega)
            refine aX _ (br_f n1 ?_)
            by_cases q0 : v3 = 0
            · exact br_t q0 ⟨hin, ym_bs hs (br_t rfl (br_f n (br_t n2 (aY _ (br_t n0 (br_t q0 ⟨hin, rfl, R⟩))))))⟩
            · by_cases q1 : v3 = 1
              · exact br_f q0 (br_t q1 ⟨hin, ym_bs hs (br_t rfl (br_f n (br_t n2 (aY _ (br_t n0 (br_f q0 (br_t q1 ⟨hin, rfl, R⟩)))))))⟩)
              · exact br_f q0 (br_f q1 ⟨hin, ym_bs hs (br_t rfl (br_f n (br_t n2 (aY _ (br_t n0 (br_f q0 (br_f q1 ⟨hin, rfl, R⟩)))))))⟩)
      · exact br_f n (br_f n2 (ym_bs hs (br_t rfl (br_f n (br_f n2 ⟨rfl, R⟩)))))
theorem i_vc_search {k : Nat} {u : SX} {v : SY} (I : i_Rel k u v) (hk : k + 5 ≤ 2560) (v1 : Int32) (v2 : Int32) (v3 : Int32) (v4 : Int32) : wpX_search (fun r => wpY_search (fun r' => r' = r ∧ i_Rel (k + 5) u v) v v1 v2 v3 v4) u v1 v2 v3 v4 := by
  obtain ⟨gv, th, va, nx, hi, ms, nu, sz, fl, ch, se, vl, vw, ly, rfl, rfl, J⟩ := I
  have R := ms_rel (ms_up J)
  unfold wpX_search wpY_search
  dsimp only
  rcases ms_arg v1 3 (by omega) with hx | ⟨s, hs, rfl⟩
  · exact xm_gsF hx (br_t rfl (ym_bsF hx (br_f ms_n10 ⟨rfl, R⟩)))
  · rw [ms_c3 hs]
    have n3 := ms_in3 hs
    refine xm_gs hs (br_f ms_n10 ?_)
    rcases ms_arg v2 1024 (by omega) with hx | ⟨w, hw, rfl⟩
    · exact xm_gpF hx (br_t rfl (ym_bs hs (br_t rfl ⟨fun _ => ⟨rfl, R⟩, fun n => br_f (ms_not1024 (hx.resolve_left n)) ⟨rfl, R⟩⟩)))
    · have w0 : ¬ nI w < 0 := nI_pos (by omega)
      have w3 : nI w ≤ 1023 := nI_le (b := 1023) (by omega) (by decide)
      refine xm_gp hw (br_f ms_n10 ?_)
      rcases J.2.2.2 s hs with ⟨e, e2⟩ | ⟨m, c, l, h1, h2, h3, S⟩
      · refine ⟨1, ?_⟩
        rw [wX_search_19]; dsimp only; rw [ms_c3 hs, e2]
        exact ⟨n3, br_t (by decide) (ym_bs hs (br_t rfl (br_f w0 (br_t w3 ⟨n3, br_f (by rw [e]; exact ms_1_0) ⟨rfl, R⟩⟩))))⟩
      · obtain ⟨q, hX, hY⟩ := xm_search (gv := gv) (va := va) (hi := hi) (sz := sz) (fl := fl) (ch := ch) hs S h1 h2 h3 (nI w) v3 v4 l 0 (by omega)
        exact ⟨l + 1, hX _ (ym_bs hs (br_t rfl (br_f w0 (br_t w3 ⟨n3, br_t (by rw [h1]; exact nI_pos' (by have := S.1; omega)) ⟨l + 1, hY _ ⟨rfl, R⟩⟩⟩))))⟩
