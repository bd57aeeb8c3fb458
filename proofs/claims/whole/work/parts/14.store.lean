/-! store -/
theorem xm_fas {w r : Nat} {old : Int32} (hw : w < 96) (hr : r < 56) (o1 : 0 ≤ old.toInt) (o2 : old.toInt < 32) : ∃ n : Int32, 0 ≤ n.toInt ∧ n.toInt < 32 ∧ (∀ post : Int32 → Prop, post n → wpX_flagsAfterStore post old (nI w)) ∧ (∀ A : Int32 → Prop, A n → ((32 ≤ nI w → ((64 ≤ nI w → (vp_in (nI r) 56 ∧ A (old &&& (nI (w % 32) ^^^ (-1))))) ∧ (¬ 64 ≤ nI w → (vp_in (nI r) 56 ∧ A (old ||| nI (w % 32)))))) ∧ (¬ 32 ≤ nI w → A (nI (w % 32))))) := by
  have e5 : nI w - nI w / 32 * 32 = nI (w % 32) := pk_rem (d := 32) (by omega) (by decide) (by decide)
  have e6 : nI w / 32 = nI (w / 32) := pk_div (d := 32) (by omega) (by decide) (by decide)
  have hin := ms_i56 hr
  have s1 : 0 ≤ (nI (w % 32)).toInt := by rw [nI_toInt (by omega)]; omega
  have s2 : (nI (w % 32)).toInt < 32 := by rw [nI_toInt (by omega)]; omega
  have n32 : 32 ≤ w → 32 ≤ nI w := fun h => nI_le (a := 32) h (by omega)
  have l32 : w < 32 → ¬ 32 ≤ nI w := fun h => nI_ge (b := 32) h (by decide)
  have n64 : 64 ≤ w → 64 ≤ nI w := fun h => nI_le (a := 64) h (by omega)
  have l64 : w < 64 → ¬ 64 ≤ nI w := fun h => nI_ge (b := 64) h (by decide)
  by_cases h1 : w < 32
  · refine ⟨nI (w % 32), s1, s2, fun post hp => ⟨ms_320, nm_r e5 ⟨ms_320, nm_r e6 (br_t ?_ hp)⟩⟩, fun A hA => br_f (l32 h1) hA⟩
    rw [show w / 32 = 0 by omega]; exact nI_0
  · have z0 : ¬ nI (w / 32) = 0 := nI_ne0 (by omega) (by omega)
    by_cases h2 : w < 64
    · have o := ms_or o1 o2 s1 s2
      refine ⟨old ||| nI (w % 32), o.1, o.2, fun post hp => ⟨ms_320, nm_r e5 ⟨ms_320, nm_r e6 (br_f z0 (br_t ?_ hp))⟩⟩, fun A hA => br_t (n32 (by omega)) (br_f (l64 h2) ⟨hin, hA⟩)⟩
      rw [show w / 32 = 1 by omega]; decide
    · have o := ms_an o1 o2 s1 s2
      refine ⟨old &&& (nI (w % 32) ^^^ (-1)), o.1, o.2, fun post hp => ⟨ms_320, nm_r e5 ⟨ms_320, nm_r e6 (br_f z0 (br_f ?_ hp))⟩⟩, fun A hA => br_t (n32 (by omega)) (br_t (n64 (by omega)) ⟨hin, hA⟩)⟩
      rw [show w / 32 = 2 by omega]; decide
theorem ms_n96 {x : Int32} (h : nI 96 ≤ x) : ¬ x < 96 ∧ ¬ x ≤ 95 := by
  rw [Int32.le_iff_toInt_le, nI_toInt (by omega)] at h
  rw [Int32.lt_iff_toInt_lt, Int32.le_iff_toInt_le, show (96 : Int32).toInt = 96 from by decide, show (95 : Int32).toInt = 95 from by decide]
  omega
theorem i_vc_store {k : Nat} {u : SX} {v : SY} (I : i_Rel k u v) (hk : k + 5 ≤ 2560) (v1 : Int32) (v2 : Int32) (v3 : Int32) : wpX_store (fun r u' => wpY_store (fun r' v' => r' = r ∧ i_Rel (k + 5) u' v') v v1 v2 v3) u v1 v2 v3 := by
  obtain ⟨gv, th, va, nx, hi, ms, nu, sz, fl, ch, se, vl, vw, ly, rfl, rfl, J⟩ := I
  have R := ms_rel (ms_up J)
  unfold wpX_store wpY_store
  dsimp only
  rcases ms_arg v1 3 (by omega) with hx | ⟨s, hs, rfl⟩
  · exact xm_gsF hx (br_t rfl (ym_bsF hx (br_f ms_n10 ⟨rfl, R⟩)))
  · refine xm_gs hs (br_f ms_n10 ?_)
    have n3 := ms_in3 hs
    rcases ms_arg v3 96 (by omega) with hx | ⟨w, hw, rfl⟩
    · by_cases n : v3 < 0
      · exact br_t n (ym_bs hs (br_t rfl (br_t n ⟨rfl, R⟩)))
      · have n96 := ms_n96 (hx.resolve_left n)
        exact br_f n (br_f n96.1 (ym_bs hs (br_t rfl (br_f n (br_f n96.2 ⟨rfl, R⟩)))))
    · have w0 : ¬ nI w < 0 := nI_pos (by omega)
      have w96 : nI w < 96 := nI_lt (b := 96) hw (by decide)
      have w95 : nI w ≤ 95 := nI_le (b := 95) (by omega) (by decide)
      have e5 : nI w - nI w / 32 * 32 = nI (w % 32) := pk_rem (d := 32) (by omega) (by decide) (by decide)
      refine br_f w0 (br_t w96 ?_)
      rcases xm_pl J hs v2 with ⟨pX, _, pY⟩ | ⟨m, c, l, i, hi', rfl, h1, h2, h3, S, pX⟩
      · exact pX _ (br_t rfl (ym_bs hs (br_t rfl (br_f w0 (br_t w95 (pY _ (br_f ms_2_0 ⟨rfl, R⟩)))))))
      · refine pX _ (br_f ms_n10 ?_)
        have hm := S.1
        have hc14 := S.2.1
        have n4 := ms_in4 hm
        rcases xm_at va hi sz fl ch gv hs S h1 vl h3 hi' with ⟨aX, aY⟩ | ⟨j, hj, aX, aY⟩
        · exact aX _ (br_t rfl (ym_bs hs (br_t rfl (br_f w0 (br_t w95 (aY _ (br_f ms_4_0 ⟨rfl, R⟩)))))))
        · have hk' := ms_k (i := 14 * m + j) (by omega)
          have hin := ms_i56 (i := 14 * m + j) (by omega)
          have n1 : ¬ nI (14 * m + j) = -1 := ms_ne1 (by omega)
          have n0 : 0 ≤ nI (14 * m + j) := nI_pos' (by omega)
          obtain ⟨c', b1, b2, b3, b4, b5, b6, b7, b8, b9, b10⟩ := J.2.2.1 m hm
          obtain rfl : c' = c := ms_nIeq (b2.symm.trans S.2.2.2.2.1) b1 hc14
          obtain ⟨g1, g2, g3, g4, g5, g6, g7, g8⟩ := b9 j hj
          obtain ⟨n, r1, r2, fX, fY⟩ := xm_fas (r := 14 * m + j) hw (by omega) g5 g6
          refine aX _ (br_f n1 ⟨hin, ?_⟩)
          rw [hk']
          refine fX _ ⟨hin, ?_⟩
          by_cases e : n = fl (14 * m + j)
          · refine br_t e (ym_bs hs (br_t rfl (br_f w0 (br_t w95 (aY _ (br_t n0 ⟨ms_320, nm_r e5 ?_⟩))))))
            rw [hk']
            refine fY (fun z0 => wY_store_84 _ (nI s) (nI (14 * m + j)) z0 gv th va nx hi ms nu sz fl ch se ly vw) ?_
            unfold wY_store_84
            dsimp only
            rw [hk']
            exact ⟨hin, br_t e ⟨hin, nm_r (ms_updId e.symm) ⟨rfl, R⟩⟩⟩
          · refine br_f e ⟨hin, nm_e ⟨n3, ?_⟩⟩
            unfold wpX_markChanged
            dsimp only
            rw [ms_c3 hs, h1, ms_c hm, hk']
            refine ⟨n4, n4, nm_e ⟨n4, hin, nm_e ?_⟩⟩
            refine ym_bs hs (br_t rfl (br_f w0 (br_t w95 (aY _ (br_t n0 ⟨ms_320, nm_r e5 ?_⟩)))))
            rw [hk']
            refine fY (fun z0 => wY_store_84 _ (nI s) (nI (14 * m + j)) z0 gv th va nx hi ms nu sz fl ch se ly vw) ?_
            unfold wY_store_84
            dsimp only
            rw [hk', ms_c3 hs, h1, ms_c hm]
            refine ⟨hin, br_f e ⟨n3, n4, n4, nm_e ⟨n3, n4, hin, nm_e ⟨hin, nm_e ⟨rfl, ?_⟩⟩⟩⟩⟩
            rw [pk_us]
            exact ms_rel (ms_store J hk hm S.2.2.2.1 b2 b1 hj r1 r2)
