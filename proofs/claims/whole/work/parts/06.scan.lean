/-! the loops that only read, in lockstep -/
section
variable {k : Nat} {gv : Int32} {th va nx hi ms nu sz fl ch se vl vw ly : Nat → Int32} {m s c l i : Nat} {x : Int32}
theorem ms_e1 (m i : Nat) : nI m * 14 + nI i = nI (14 * m + i) := by rw [ms_c4, nI_add]
theorem ms_e2 (m i : Nat) : 14 * nI m + nI i = nI (14 * m + i) := by rw [ms_c4', nI_add]
theorem ms_e3 (s i : Nat) : nI s * 14 + nI (i + 1) - 1 = nI (14 * s + i) := by
  rw [ms_c4, nI_add]
  exact nI_pred (14 * s + i)
theorem ms_e4 (s i : Nat) : 14 * nI s + nI (i + 1) - 1 = nI (14 * s + i) := by
  rw [ms_c4', nI_add]
  exact nI_pred (14 * s + i)
theorem ms_k (h : i < 56) : (nI i).toNatClampNeg = i := nI_clamp (by omega)
theorem ms_i56 (h : i < 56) : vp_in (nI i) 56 := vp_in_nI h (by omega)
theorem ms_i42 (h : i < 42) : vp_in (nI i) 42 := vp_in_nI h (by omega)
/-- what a look for the number x in a mailbox of c messages at b gives -/
def ms_Fd (nu : Nat → Int32) (b c : Nat) (x r : Int32) : Prop :=
  (r = -1 ∧ ∀ i, i < c → ¬ nu (b + i) = x) ∨ ∃ i, i < c ∧ nu (b + i) = x ∧ r = nI (b + i)
theorem xm_cellL (hm : m < 4) (hc : ms m = nI c) (hc14 : c ≤ 14) (x : Int32) : ∀ d i : Nat, i + d = c → (∀ j, j < i → ¬ nu (14 * m + j) = x) → ∃ r : Int32, ms_Fd nu (14 * m) c x r ∧ (∀ post : Int32 → Prop, post r → wX_cellOf_2 post (nI m) x gv th va nx hi ms nu sz fl ch se vl vw (d + 1) (nI i)) ∧ (∀ post : Int32 → Prop, post r → wY_find_5 post (nI m) x gv th va nx hi ms nu sz fl ch se ly vw (d + 1) (nI (14 * m + i))) := by
  intro d
  induction d with
  | zero =>
    intro i hi hn
    refine ⟨-1, Or.inl ⟨rfl, fun j hj => hn j (by omega)⟩, fun post hp => ?_, fun post hp => ?_⟩
    · rw [wX_cellOf_2]; dsimp only; rw [ms_c hm, hc]
      exact ⟨ms_in4 hm, br_t (nI_le (by omega) (by omega)) hp⟩
    · rw [wY_find_5]; dsimp only; rw [ms_c hm, hc, ms_e2]
      exact ⟨ms_in4 hm, br_t (nI_le (by omega) (by omega)) hp⟩
  | succ d ih =>
    intro i hi hn
    by_cases e : nu (14 * m + i) = x
    · refine ⟨nI (14 * m + i), Or.inr ⟨i, by omega, e, rfl⟩, fun post hp => ?_, fun post hp => ?_⟩
      · rw [wX_cellOf_2]; dsimp only; rw [ms_c hm, hc, ms_e1, ms_k (by omega)]
        exact ⟨ms_in4 hm, br_f (nI_ge (by omega) (by omega)) ⟨ms_i56 (by omega), br_t e hp⟩⟩
      · rw [wY_find_5]; dsimp only; rw [ms_c hm, hc, ms_e2, ms_k (i := 14 * m + i) (by omega)]
        exact ⟨ms_in4 hm, br_f (nI_ge (by omega) (by omega)) ⟨ms_i56 (by omega), br_t e hp⟩⟩
    · obtain ⟨r, hr, hX, hY⟩ := ih (i + 1) (by omega) (lt_s hn e)
      refine ⟨r, hr, fun post hp => ?_, fun post hp => ?_⟩
      · rw [wX_cellOf_2]; dsimp only; rw [ms_c hm, hc, ms_e1, ms_k (by omega)]
        exact ⟨ms_in4 hm, br_f (nI_ge (by omega) (by omega)) ⟨ms_i56 (by omega), br_f e (nm_r (nI_1 i) (hX post hp))⟩⟩
      · rw [wY_find_5]; dsimp only; rw [ms_c hm, hc, ms_e2, ms_k (i := 14 * m + i) (by omega)]
        exact ⟨ms_in4 hm, br_f (nI_ge (by omega) (by omega)) ⟨ms_i56 (by omega), br_f e (nm_r (nI_1 (14 * m + i)) (hY post hp))⟩⟩
theorem xm_cell (gv : Int32) (th va nx hi sz fl ch se vl vw ly : Nat → Int32) (hm : m < 4) (hc : ms m = nI c) (hc14 : c ≤ 14) (x : Int32) : ∃ r : Int32, ms_Fd nu (14 * m) c x r ∧ (∀ post : Int32 → Prop, post r → wpX_cellOf post (gv, th, va, nx, hi, ms, nu, sz, fl, ch, se, vl, vw) (nI m) x) ∧ (∀ post : Int32 → Prop, post r → wpY_find post (gv, th, va, nx, hi, ms, nu, sz, fl, ch, se, ly, vw) (nI m) x) := by
  obtain ⟨r, hr, hX, hY⟩ := xm_cellL (gv := gv) (th := th) (va := va) (nx := nx) (hi := hi) (nu := nu) (sz := sz) (fl := fl) (ch := ch) (se := se) (vl := vl) (vw := vw) (ly := ly) hm hc hc14 x c 0 (by omega) lt_0
  refine ⟨r, hr, fun post hp => ⟨c + 1, hX post hp⟩, fun post hp => ?_⟩
  unfold wpY_find
  dsimp only
  exact nm_r (ms_c4' m) ⟨c + 1, hY post hp⟩
theorem xm_matT {post : Int32 → Prop} {f code : Int32} (e : (f &&& (code / 32)) = ((code - code / 32 * 32) &&& (code / 32))) (p : post 1) : wpX_matches post f code := ⟨ms_320, nm_e ⟨ms_320, nm_e (br_t e p)⟩⟩
theorem xm_matF {post : Int32 → Prop} {f code : Int32} (e : ¬ (f &&& (code / 32)) = ((code - code / 32 * 32) &&& (code / 32))) (p : post 0) : wpX_matches post f code := ⟨ms_320, nm_e ⟨ms_320, nm_e (br_f e p)⟩⟩
theorem ym_hasT {post : Int32 → Prop} {f a b : Int32} (e : (f &&& a) = (b &&& a)) (p : post 1) : wpY_has post (gv, th, va, nx, hi, ms, nu, sz, fl, ch, se, ly, vw) f a b := br_t e p
theorem ym_hasF {post : Int32 → Prop} {f a b : Int32} (e : ¬ (f &&& a) = (b &&& a)) (p : post 0) : wpY_has post (gv, th, va, nx, hi, ms, nu, sz, fl, ch, se, ly, vw) f a b := br_f e p
theorem xm_count (hm : m < 4) (hc : ms m = nI c) (hc14 : c ≤ 14) (code : Int32) : ∀ (d i : Nat) (r : Int32), i + d = c → ∃ q : Int32, (∀ post : Int32 → Prop, post q → wX_counting_33 post (nI m) code gv th va nx hi ms nu sz fl ch se vl vw (d + 1) r (nI i)) ∧ (∀ post : Int32 → Prop, post q → wY_counting_41 post (nI m) code gv th va nx hi ms nu sz fl ch se ly vw (d + 1) r (nI (14 * m + i))) := by
  intro d
  induction d with
  | zero =>
    intro i r hi
    refine ⟨r, fun post hp => ?_, fun post hp => ?_⟩
    · rw [wX_counting_33]; dsimp only; rw [ms_c hm, hc]
      exact ⟨ms_in4 hm, br_t (nI_le (by omega) (by omega)) hp⟩
    · rw [wY_counting_41]; dsimp only; rw [ms_c hm, hc, ms_e2]
      exact ⟨ms_in4 hm, br_t (nI_le (by omega) (by omega)) hp⟩
  | succ d ih =>
    intro i r hi
    by_cases e : (fl (14 * m + i) &&& (code / 32)) = ((code - code / 32 * 32) &&& (code / 32))
    · obtain ⟨q, hX, hY⟩ := ih (i + 1) (r + 1) (by omega)
      refine ⟨q, fun post hp => ?_, fun post hp => ?_⟩
      · rw [wX_counting_33]; dsimp only; rw [ms_c hm, hc, ms_e1, ms_k (by omega)]
        exact ⟨ms_in4 hm, br_f (nI_ge (by omega) (by omega)) ⟨ms_i56 (by omega), xm_matT e (br_f ms_n10 (nm_e (nm_r (nI_1 i) (hX post hp))))⟩⟩
      · rw [wY_counting_41]; dsimp only; rw [ms_c hm, hc, ms_e2, ms_k (i := 14 * m + i) (by omega)]
        exact ⟨ms_in4 hm, br_f (nI_ge (by omega) (by omega)) ⟨ms_i56 (by omega), ms_320, ms_320, ym_hasT e (br_f ms_n10 (nm_e (nm_r (nI_1 (14 * m + i)) (hY post hp))))⟩⟩
    · obtain ⟨q, hX, hY⟩ := ih (i + 1) r (by omega)
      refine ⟨q, fun post hp => ?_, fun post hp => ?_⟩
      · rw [wX_counting_33]; dsimp only; rw [ms_c hm, hc, ms_e1, ms_k (by omega)]
        exact ⟨ms_in4 hm, br_f (nI_ge (by omega) (by omega)) ⟨ms_i56 (by omega), xm_matF e (br_t rfl (nm_r (nI_1 i) (hX post hp)))⟩⟩
      · rw [wY_counting_41]; dsimp only; rw [ms_c hm, hc, ms_e2, ms_k (i := 14 * m + i) (by omega)]
        exact ⟨ms_in4 hm, br_f (nI_ge (by omega) (by omega)) ⟨ms_i56 (by omega), ms_320, ms_320, ym_hasF e (br_t rfl (nm_r (nI_1 (14 * m + i)) (hY post hp)))⟩⟩
theorem xm_since (hm : m < 4) (hc : ms m = nI c) (hc14 : c ≤ 14) (a b : Int32) : ∀ (d i : Nat), i + d = c → ∃ q : Int32, (∀ post : Int32 → Prop, post q → wX_changedSince_24 post (nI m) a b gv th va nx hi ms nu sz fl ch se vl vw (d + 1) (nI i)) ∧ (∀ post : Int32 → Prop, post q → wY_changedSince_20 post (nI m) a b gv th va nx hi ms nu sz fl ch se ly vw (d + 1) (nI (14 * m + i))) := by
  intro d
  induction d with
  | zero =>
    intro i hi
    refine ⟨-2, fun post hp => ?_, fun post hp => ?_⟩
    · rw [wX_changedSince_24]; dsimp only; rw [ms_c hm, hc]
      exact ⟨ms_in4 hm, br_t (nI_le (by omega) (by omega)) hp⟩
    · rw [wY_changedSince_20]; dsimp only; rw [ms_c hm, hc, ms_e2]
      exact ⟨ms_in4 hm, br_t (nI_le (by omega) (by omega)) hp⟩
  | succ d ih =>
    intro i hi
    have hk := ms_k (i := 14 * m + i) (by omega)
    have hin := ms_i56 (i := 14 * m + i) (by omega)
    obtain ⟨q, hX, hY⟩ := ih (i + 1) (by omega)
    by_cases e1 : nu (14 * m + i) ≤ b
    · refine ⟨q, fun post hp => ?_, fun post hp => ?_⟩
      · rw [wX_changedSince_24]; dsimp only; rw [ms_c hm, hc]
        refine ⟨ms_in4 hm, br_f (nI_ge (by omega) (by omega)) (nm_r (ms_e1 m i) ?_)⟩
        rw [hk]
        exact ⟨hin, br_t e1 (nm_r (nI_1 i) (hX post hp))⟩
      · rw [wY_changedSince_20]; dsimp only; rw [ms_c hm, hc, ms_e2, hk]
        exact ⟨ms_in4 hm, br_f (nI_ge (by omega) (by omega)) ⟨hin, br_c (fun _ => nm_r (nI_1 (14 * m + i)) (hY post hp)) (fun _ => ⟨hin, br_t e1 (nm_r (nI_1 (14 * m + i)) (hY post hp))⟩)⟩⟩
    · by_cases e2 : ch (14 * m + i) ≤ a
      · refine ⟨q, fun post hp => ?_, fun post hp => ?_⟩
        · rw [wX_changedSince_24]; dsimp only; rw [ms_c hm, hc]
          refine ⟨ms_in4 hm, br_f (nI_ge (by omega) (by omega)) (nm_r (ms_e1 m i) ?_)⟩
          rw [hk]
          exact ⟨hin, br_f e1 ⟨hin, br_t e2 (nm_r (nI_1 i) (hX post hp))⟩⟩
        · rw [wY_changedSince_20]; dsimp only; rw [ms_c hm, hc, ms_e2, hk]
          exact ⟨ms_in4 hm, br_f (nI_ge (by omega) (by omega)) ⟨hin, br_t e2 (nm_r (nI_1 (14 * m + i)) (hY post hp))⟩⟩
      · refine ⟨nu (14 * m + i), fun post hp => ?_, fun post hp => ?_⟩
        · rw [wX_changedSince_24]; dsimp only; rw [ms_c hm, hc]
          refine ⟨ms_in4 hm, br_f (nI_ge (by omega) (by omega)) (nm_r (ms_e1 m i) ?_)⟩
          rw [hk]
          exact ⟨hin, br_f e1 ⟨hin, br_f e2 ⟨hin, hp⟩⟩⟩
        · rw [wY_changedSince_20]; dsimp only; rw [ms_c hm, hc, ms_e2, hk]
          exact ⟨ms_in4 hm, br_f (nI_ge (by omega) (by omega)) ⟨hin, br_f e2 ⟨hin, br_f e1 ⟨hin, hp⟩⟩⟩⟩
theorem xm_place (hs : s < 3) (hv : vl s = nI l) (hy : ly s = nI l) (hl : l ≤ 14) (x : Int32) : ∀ (d i : Nat), i + d = l → ∃ q : Int32, (∀ post : Int32 → Prop, post q → wX_placeOf_11 post (nI s) x gv th va nx hi ms nu sz fl ch se vl vw (d + 1) (nI (i + 1))) ∧ (∀ post : Int32 → Prop, post q → wY_placeOf_16 post (nI s) x gv th va nx hi ms nu sz fl ch se ly vw (d + 1) (nI i)) := by
  intro d
  induction d with
  | zero =>
    intro i hi
    refine ⟨-2, fun post hp => ?_, fun post hp => ?_⟩
    · rw [wX_placeOf_11]; dsimp only; rw [ms_c3 hs, hv]
      exact ⟨ms_in3 hs, br_t (nI_lt (by omega) (by omega)) hp⟩
    · rw [wY_placeOf_16]; dsimp only; rw [ms_c3 hs, hy]
      exact ⟨ms_in3 hs, br_t (nI_le (by omega) (by omega)) hp⟩
  | succ d ih =>
    intro i hi
    have hk := ms_k (i := 14 * s + i) (by omega)
    have hin := ms_i42 (i := 14 * s + i) (by omega)
    by_cases e : vw (14 * s + i) = x
    · refine ⟨nI (i + 1), fun post hp => ?_, fun post hp => ?_⟩
      · rw [wX_placeOf_11]; unfold wpX_viewCell; dsimp only; rw [ms_c3 hs, hv, ms_e3, hk]
        exact ⟨ms_in3 hs, br_f (nI_nlt (by omega) (by omega)) ⟨hin, br_t e hp⟩⟩
      · rw [wY_placeOf_16]; dsimp only; rw [ms_c3 hs, hy, ms_e2, hk]
        refine ⟨ms_in3 hs, br_f (nI_ge (by omega) (by omega)) ⟨hin, br_t e ?_⟩⟩
        rw [nI_1]; exact hp
    · obtain ⟨q, hX, hY⟩ := ih (i + 1) (by omega)
      refine ⟨q, fun post hp => ?_, fun post hp => ?_⟩
      · rw [wX_placeOf_11]; unfold wpX_viewCell; dsimp only; rw [ms_c3 hs, hv, ms_e3, hk]
        exact ⟨ms_in3 hs, br_f (nI_nlt (by omega) (by omega)) ⟨hin, br_f e (nm_r (nI_1 (i + 1)) (hX post hp))⟩⟩
      · rw [wY_placeOf_16]; dsimp only; rw [ms_c3 hs, hy, ms_e2, hk]
        exact ⟨ms_in3 hs, br_f (nI_ge (by omega) (by omega)) ⟨hin, br_f e (nm_r (nI_1 i) (hY post hp))⟩⟩
end
