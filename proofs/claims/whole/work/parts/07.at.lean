/-! the message at a place, and the search -/
section
variable {k : Nat} {gv : Int32} {th va nx hi ms nu sz fl ch se vl vw ly : Nat → Int32} {m s c l i : Nat} {x : Int32}
theorem xm_at (va hi sz fl ch : Nat → Int32) (gv : Int32) (hs : s < 3) (S : ms_Sees th nx ms nu vw s m c l) (hse : se s = nI m) (vl : Nat → Int32) (hy : ly s = nI l) (hi' : i < l) : ((∀ post : Int32 → Prop, post (-1) → wpX_cellAt post (gv, th, va, nx, hi, ms, nu, sz, fl, ch, se, vl, vw) (nI s) (nI (i + 1))) ∧ (∀ post : Int32 → Prop, post (-4) → wpY_messageAt post (gv, th, va, nx, hi, ms, nu, sz, fl, ch, se, ly, vw) (nI s) (nI (i + 1)))) ∨ ∃ j, j < c ∧ (∀ post : Int32 → Prop, post (nI (14 * m + j)) → wpX_cellAt post (gv, th, va, nx, hi, ms, nu, sz, fl, ch, se, vl, vw) (nI s) (nI (i + 1))) ∧ (∀ post : Int32 → Prop, post (nI (14 * m + j)) → wpY_messageAt post (gv, th, va, nx, hi, ms, nu, sz, fl, ch, se, ly, vw) (nI s) (nI (i + 1))) := by
  have hm := S.1
  have hc := S.2.2.2.2.1
  have hc14 := S.2.1
  have hl := S.2.2.1
  have hk := ms_k (i := 14 * s + i) (by omega)
  have hin := ms_i42 (i := 14 * s + i) (by omega)
  have h0 : 0 ≤ vw (14 * s + i) := by
    have z := (S.2.2.2.2.2.1 i hi').1
    rw [Int32.le_iff_toInt_le, ms_t0]
    omega
  obtain ⟨r, hr, hX, hY⟩ := xm_cell (nu := nu) gv th va nx hi sz fl ch se vl vw ly hm hc hc14 (vw (14 * s + i))
  have X : ∀ post : Int32 → Prop, post r → wpX_cellAt post (gv, th, va, nx, hi, ms, nu, sz, fl, ch, se, vl, vw) (nI s) (nI (i + 1)) := by
    intro post hp
    unfold wpX_cellAt wpX_viewCell
    dsimp only
    rw [ms_e3, hk, ms_c3 hs, hse]
    exact ⟨hin, nm_e ⟨ms_in3 hs, hX _ hp⟩⟩
  have Y : ∀ post : Int32 → Prop, ((0 ≤ r → post r) ∧ (¬ 0 ≤ r → post (-4))) → wpY_messageAt post (gv, th, va, nx, hi, ms, nu, sz, fl, ch, se, ly, vw) (nI s) (nI (i + 1)) := by
    intro post hp
    unfold wpY_messageAt wpY_numberAt
    dsimp only
    rw [ms_e4, hk, ms_c3 hs, hse, hy]
    exact ym_nv hs hse hm (br_t ms_00 (br_f (nI_nlt (b := 1) (by omega) (by omega)) ⟨ms_in3 hs, br_t (nI_le (by omega) (by omega)) ⟨hin, br_t h0 ⟨ms_in3 hs, hY _ hp⟩⟩⟩))
  rcases hr with ⟨e, _⟩ | ⟨j, hj, _, e⟩
  · subst e
    exact Or.inl ⟨X, fun post hp => Y post (br_f ms_1_0 hp)⟩
  · subst e
    exact Or.inr ⟨j, hj, X, fun post hp => Y post (br_t (nI_pos' (by omega)) hp)⟩
theorem ms_4lt : (-4 : Int32) < 0 := by decide
theorem xm_search (hs : s < 3) (S : ms_Sees th nx ms nu vw s m c l) (hse : se s = nI m) (hv : vl s = nI l) (hy : ly s = nI l) (code size after : Int32) : ∀ (d i : Nat), i + d = l → ∃ q : Int32, (∀ post : Int32 → Prop, post q → wX_search_19 post (nI s) code size after gv th va nx hi ms nu sz fl ch se vl vw (d + 1) (nI (i + 1))) ∧ (∀ post : Int32 → Prop, post q → wY_search_36 post (nI s) code size after gv th va nx hi ms nu sz fl ch se ly vw (d + 1) (nI (i + 1))) := by
  have hm := S.1
  have hc14 := S.2.1
  have hl := S.2.2.1
  intro d
  induction d with
  | zero =>
    intro i hi'
    refine ⟨-2, fun post hp => ?_, fun post hp => ?_⟩
    · rw [wX_search_19]; dsimp only; rw [ms_c3 hs, hv]
      exact ⟨ms_in3 hs, br_t (nI_lt (by omega) (by omega)) hp⟩
    · rw [wY_search_36]; dsimp only; rw [ms_c3 hs, hy]
      exact ⟨ms_in3 hs, br_t (nI_lt (by omega) (by omega)) hp⟩
  | succ d ih =>
    intro i hi'
    obtain ⟨q, hX, hY⟩ := ih (i + 1) (by omega)
    have hlt : ¬ nI l < nI (i + 1) := nI_nlt (by omega) (by omega)
    have at' := xm_at va hi sz fl ch gv hs S hse vl hy (i := i) (by omega)
    by_cases e0 : nI (i + 1) ≤ after
    · refine ⟨q, fun post hp => ?_, fun post hp => ?_⟩
      · rw [wX_search_19]; dsimp only; rw [ms_c3 hs, hv]
        exact ⟨ms_in3 hs, br_f hlt (br_t e0 (nm_r (nI_1 (i + 1)) (hX post hp)))⟩
      · rw [wY_search_36]; dsimp only; rw [ms_c3 hs, hy]
        refine ⟨ms_in3 hs, br_f hlt ?_⟩
        rcases at' with ⟨_, aY⟩ | ⟨j, hj, _, aY⟩
        · exact aY _ (br_t e0 (nm_r (nI_1 (i + 1)) (hY post hp)))
        · exact aY _ (br_t e0 (nm_r (nI_1 (i + 1)) (hY post hp)))
    · rcases at' with ⟨aX, aY⟩ | ⟨j, hj, aX, aY⟩
      · refine ⟨q, fun post hp => ?_, fun post hp => ?_⟩
        · rw [wX_search_19]; unfold wpX_isSought; dsimp only; rw [ms_c3 hs, hv]
          exact ⟨ms_in3 hs, br_f hlt (br_f e0 (aX _ (br_t rfl (br_t rfl (nm_r (nI_1 (i + 1)) (hX post hp))))))⟩
        · rw [wY_search_36]; dsimp only; rw [ms_c3 hs, hy]
          exact ⟨ms_in3 hs, br_f hlt (aY _ (br_f e0 (br_t ms_4lt (nm_r (nI_1 (i + 1)) (hY post hp)))))⟩
      · have hk := ms_k (i := 14 * m + j) (by omega)
        have hin := ms_i56 (i := 14 * m + j) (by omega)
        have n1 : ¬ nI (14 * m + j) = -1 := ms_ne1 (by omega)
        have n0 : ¬ nI (14 * m + j) < 0 := nI_pos (by omega)
        by_cases e1 : sz (14 * m + j) < size
        · refine ⟨q, fun post hp => ?_, fun post hp => ?_⟩
          · rw [wX_search_19]; unfold wpX_isSought; dsimp only; rw [ms_c3 hs, hv]
            refine ⟨ms_in3 hs, br_f hlt (br_f e0 (aX _ ?_))⟩
            rw [hk]
            exact br_f n1 ⟨hin, br_t e1 (br_t rfl (nm_r (nI_1 (i + 1)) (hX post hp)))⟩
          · rw [wY_search_36]; dsimp only; rw [ms_c3 hs, hy]
            refine ⟨ms_in3 hs, br_f hlt (aY _ ?_)⟩
            rw [hk]
            refine br_f e0 (br_f n0 ⟨hin, ms_320, ms_320, ?_⟩)
            by_cases e2 : (fl (14 * m + j) &&& (code / 32)) = ((code - code / 32 * 32) &&& (code / 32))
            · exact ym_hasT e2 (br_f ms_n10 ⟨hin, br_t e1 (nm_r (nI_1 (i + 1)) (hY post hp))⟩)
            · exact ym_hasF e2 (br_t rfl (nm_r (nI_1 (i + 1)) (hY post hp)))
        · by_cases e2 : (fl (14 * m + j) &&& (code / 32)) = ((code - code / 32 * 32) &&& (code / 32))
          · refine ⟨nI (i + 1), fun post hp => ?_, fun post hp => ?_⟩
            · rw [wX_search_19]; unfold wpX_isSought; dsimp only; rw [ms_c3 hs, hv]
              refine ⟨ms_in3 hs, br_f hlt (br_f e0 (aX _ ?_))⟩
              rw [hk]
              exact br_f n1 ⟨hin, br_f e1 ⟨hin, xm_matT e2 (br_f ms_n10 (br_f ms_n10 hp))⟩⟩
            · rw [wY_search_36]; dsimp only; rw [ms_c3 hs, hy]
              refine ⟨ms_in3 hs, br_f hlt (aY _ ?_)⟩
              rw [hk]
              exact br_f e0 (br_f n0 ⟨hin, ms_320, ms_320, ym_hasT e2 (br_f ms_n10 ⟨hin, br_f e1 hp⟩)⟩)
          · refine ⟨q, fun post hp => ?_, fun post hp => ?_⟩
            · rw [wX_search_19]; unfold wpX_isSought; dsimp only; rw [ms_c3 hs, hv]
              refine ⟨ms_in3 hs, br_f hlt (br_f e0 (aX _ ?_))⟩
              rw [hk]
              exact br_f n1 ⟨hin, br_f e1 ⟨hin, xm_matF e2 (br_t rfl (br_t rfl (nm_r (nI_1 (i + 1)) (hX post hp))))⟩⟩
            · rw [wY_search_36]; dsimp only; rw [ms_c3 hs, hy]
              refine ⟨ms_in3 hs, br_f hlt (aY _ ?_)⟩
              rw [hk]
              exact br_f e0 (br_f n0 ⟨hin, ms_320, ms_320, ym_hasF e2 (br_t rfl (nm_r (nI_1 (i + 1)) (hY post hp)))⟩)
end
