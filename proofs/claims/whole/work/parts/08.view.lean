/-! the view is filled; what has gone is dropped from it -/
section
variable {k : Nat} {gv : Int32} {th va nx hi ms nu sz fl ch se vl vw ly : Nat → Int32} {m s c l i b x q : Nat} {x3 : Int32}
def ms_cp (vw nu : Nat → Int32) (s m c : Nat) : Nat → Int32 := fun x => if 14 * s ≤ x ∧ x < 14 * s + c then nu (14 * m + (x - 14 * s)) else vw x
theorem ms_cp_in (h : q < c) : ms_cp vw nu s m c (14 * s + q) = nu (14 * m + q) := by
  unfold ms_cp
  rw [if_pos (by omega), show 14 * s + q - 14 * s = q by omega]
theorem ms_cp_out (h : x < 14 * s ∨ 14 * s + c ≤ x) : ms_cp vw nu s m c x = vw x := if_neg (by omega)
theorem ms_cp_pre (h : ∀ q, q < l → vw (14 * s + q) = nu (14 * m + q)) : ms_cp vw nu s m l = vw := by
  funext x
  by_cases e : 14 * s ≤ x ∧ x < 14 * s + l
  · obtain ⟨q, rfl⟩ : ∃ q, x = 14 * s + q := ⟨x - 14 * s, by omega⟩
    rw [ms_cp_in (by omega), h q (by omega)]
  · exact if_neg e
theorem ms_cp_s : upd (ms_cp vw nu s m i) (14 * s + i) (nu (14 * m + i)) = ms_cp vw nu s m (i + 1) := by
  funext x
  by_cases e : x = 14 * s + i
  · subst e; rw [pk_us, ms_cp_in (by omega)]
  · rw [pk_un e]
    unfold ms_cp
    by_cases e2 : 14 * s ≤ x ∧ x < 14 * s + i
    · rw [if_pos e2, if_pos (by omega)]
    · rw [if_neg e2, if_neg (by omega)]
theorem xm_viewL {post : SX → Prop} (hs : s < 3) (hm : m < 4) (hc : ms m = nI c) (hc14 : c ≤ 14) (hp : post (gv, th, va, nx, hi, ms, nu, sz, fl, ch, se, upd vl s (nI c), ms_cp vw nu s m c)) : ∀ d i : Nat, i + d = c → wX_viewAllMessages_9 post (nI s) (nI m) gv (d + 1) (nI i) th va nx hi ms nu sz fl ch se vl (ms_cp vw nu s m i) := by
  intro d
  induction d with
  | zero =>
    intro i hi'
    obtain rfl : i = c := by omega
    rw [wX_viewAllMessages_9]; dsimp only; rw [ms_c hm, hc, ms_c3 hs]
    exact ⟨ms_in4 hm, br_t (nI_le (by omega) (by omega)) ⟨ms_in4 hm, ms_in3 hs, nm_e hp⟩⟩
  | succ d ih =>
    intro i hi'
    rw [wX_viewAllMessages_9]; dsimp only; rw [ms_c hm, hc, ms_e1 m i, ms_e1 s i, ms_k (i := 14 * m + i) (by omega), ms_k (i := 14 * s + i) (by omega)]
    exact ⟨ms_in4 hm, br_f (nI_ge (by omega) (by omega)) ⟨ms_i56 (by omega), ms_i42 (by omega), nm_r ms_cp_s (nm_r (nI_1 i) (ih (i + 1) (by omega)))⟩⟩
theorem xm_view {post : SX → Prop} (hs : s < 3) (hm : m < 4) (hc : ms m = nI c) (hc14 : c ≤ 14) (hse : se s = nI m) (hp : post (gv, th, va, nx, hi, ms, nu, sz, fl, ch, se, upd vl s (nI c), ms_cp vw nu s m c)) : wpX_viewAllMessages post (gv, th, va, nx, hi, ms, nu, sz, fl, ch, se, vl, vw) (nI s) := by
  unfold wpX_viewAllMessages
  dsimp only
  rw [ms_c3 hs, hse]
  refine ⟨ms_in3 hs, nm_e ⟨c + 1, ?_⟩⟩
  have e : ms_cp vw nu s m 0 = vw := ms_cp_pre (fun q h => absurd h (Nat.not_lt_zero q))
  have z := xm_viewL hs hm hc hc14 hp c 0 (by omega)
  rw [e] at z
  exact z
theorem ym_fin1 {post : Int32 → SY → Prop} {J : Int32 → (Nat → Int32) → (Nat → Int32) → (Nat → Int32) → (Nat → Int32) → (Nat → Int32) → (Nat → Int32) → (Nat → Int32) → (Nat → Int32) → (Nat → Int32) → (Nat → Int32) → (Nat → Int32) → (Nat → Int32) → Prop} (hs : s < 3) (hy : ly s = nI l) (hl : l ≤ 14) (hp : J (nI (b + 1)) th va nx hi ms nu sz fl ch se ly vw) : ∀ d i : Nat, i + d = l → wY_fill_42 post J (nI s) (nI m) x3 (nI b) gv th va nx hi ms nu sz fl ch se ly vw (d + 1) 1 (nI i) := by
  intro d
  induction d with
  | zero =>
    intro i hi'
    rw [wY_fill_42]; dsimp only; rw [ms_c3 hs, hy]
    exact ⟨ms_in3 hs, br_t (nI_le (by omega) (by omega)) (br_f ms_n10 (nm_r (nI_1 b) hp))⟩
  | succ d ih =>
    intro i hi'
    rw [wY_fill_42]; dsimp only; rw [ms_c3 hs, hy]
    exact ⟨ms_in3 hs, br_f (nI_ge (by omega) (by omega)) (br_f ms_n10 (nm_r (nI_1 i) (ih (i + 1) (by omega))))⟩
theorem ym_fin0 {post : Int32 → SY → Prop} {J : Int32 → (Nat → Int32) → (Nat → Int32) → (Nat → Int32) → (Nat → Int32) → (Nat → Int32) → (Nat → Int32) → (Nat → Int32) → (Nat → Int32) → (Nat → Int32) → (Nat → Int32) → (Nat → Int32) → (Nat → Int32) → Prop} (hs : s < 3) (hy : ly s = nI l) (hl : l ≤ 14) (hb : b < 56) (hT : (∃ q, q < l ∧ vw (14 * s + q) = nu b) → J (nI (b + 1)) th va nx hi ms nu sz fl ch se ly vw) (hF : (∀ q, q < l → ¬ vw (14 * s + q) = nu b) → l < 14 ∧ J (nI (b + 1)) th va nx hi ms nu sz fl ch se (upd ly s (nI (l + 1))) (upd vw (14 * s + l) (nu b))) : ∀ d i : Nat, i + d = l → (∀ q, q < i → ¬ vw (14 * s + q) = nu b) → wY_fill_42 post J (nI s) (nI m) x3 (nI b) gv th va nx hi ms nu sz fl ch se ly vw (d + 1) 0 (nI i) := by
  intro d
  induction d with
  | zero =>
    intro i hi' hn
    obtain rfl : i = l := by omega
    obtain ⟨h14, hJ⟩ := hF hn
    rw [wY_fill_42]; dsimp only; rw [ms_c3 hs, hy, ms_e2 s i, ms_k (i := 14 * s + i) (by omega), ms_k (i := b) hb, nI_1 i]
    exact ⟨ms_in3 hs, br_t (nI_le (by omega) (by omega)) (br_t rfl ⟨ms_in3 hs, ms_i56 hb, ms_i42 (by omega), nm_e ⟨ms_in3 hs, ms_in3 hs, nm_e (nm_r (nI_1 b) hJ)⟩⟩)⟩
  | succ d ih =>
    intro i hi' hn
    rw [wY_fill_42]; dsimp only; rw [ms_c3 hs, hy, ms_e2 s i, ms_k (i := 14 * s + i) (by omega), ms_k (i := b) hb]
    refine ⟨ms_in3 hs, br_f (nI_ge (by omega) (by omega)) (br_t rfl ⟨ms_i42 (by omega), ms_i56 hb, ?_⟩)⟩
    by_cases e : vw (14 * s + i) = nu b
    · exact br_t e (nm_r (nI_1 i) (ym_fin1 hs hy hl (hT ⟨i, by omega, e⟩) d (i + 1) (by omega)))
    · exact br_f e (nm_r (nI_1 i) (ih (i + 1) (by omega) (lt_s hn e)))
theorem ym_fill2 {post : Int32 → SY → Prop} (hs : s < 3) (hm : m < 4) (hc : ms m = nI c) (hc14 : c ≤ 14) (hd : ∀ i j, i < j → j < c → ¬ nu (14 * m + i) = nu (14 * m + j)) (hp : post (nI c - x3) (gv, th, va, nx, hi, ms, nu, sz, fl, ch, se, upd ly s (nI c), ms_cp vw nu s m c)) : ∀ d j : Nat, j + d = c → wY_fill_20 post (nI s) (nI m) x3 gv (d + 1) (nI (14 * m + j)) th va nx hi ms nu sz fl ch se (upd ly s (nI j)) (ms_cp vw nu s m j) := by
  intro d
  induction d with
  | zero =>
    intro j hj
    obtain rfl : j = c := by omega
    rw [wY_fill_20]; dsimp only; rw [ms_c hm, hc, ms_e2, ms_c3 hs, pk_us]
    exact ⟨ms_in4 hm, br_t (nI_le (by omega) (by omega)) ⟨ms_in3 hs, hp⟩⟩
  | succ d ih =>
    intro j hj
    rw [wY_fill_20]; dsimp only; rw [ms_c hm, hc, ms_e2]
    refine ⟨ms_in4 hm, br_f (nI_ge (by omega) (by omega)) ⟨j + 1, ?_⟩⟩
    refine ym_fin0 (l := j) (b := 14 * m + j) hs pk_us (by omega) (by omega) (fun h => ?_) (fun _ => ⟨by omega, ?_⟩) j 0 (by omega) lt_0
    · obtain ⟨q, hq, e⟩ := h
      rw [ms_cp_in hq] at e
      exact absurd e (hd q j hq (by omega))
    · rw [ms_uu, ms_cp_s]
      exact ih (j + 1) (by omega)
theorem ym_fill1 {post : Int32 → SY → Prop} {n : Nat} (hs : s < 3) (hm : m < 4) (hc : ms m = nI c) (hc14 : c ≤ 14) (hy : ly s = nI l) (hlc : l ≤ c) (hpre : ∀ q, q < l → vw (14 * s + q) = nu (14 * m + q)) (H : wY_fill_20 post (nI s) (nI m) x3 gv n (nI (14 * m + l)) th va nx hi ms nu sz fl ch se ly vw) : ∀ d j : Nat, j + d = l → wY_fill_20 post (nI s) (nI m) x3 gv (n + d) (nI (14 * m + j)) th va nx hi ms nu sz fl ch se ly vw := by
  intro d
  induction d with
  | zero =>
    intro j hj
    obtain rfl : j = l := by omega
    exact H
  | succ d ih =>
    intro j hj
    show wY_fill_20 post (nI s) (nI m) x3 gv ((n + d) + 1) (nI (14 * m + j)) th va nx hi ms nu sz fl ch se ly vw
    rw [wY_fill_20]; dsimp only; rw [ms_c hm, hc, ms_e2]
    refine ⟨ms_in4 hm, br_f (nI_ge (by omega) (by omega)) ⟨l + 1, ?_⟩⟩
    exact ym_fin0 (l := l) (b := 14 * m + j) hs hy (by omega) (by omega) (fun _ => ih (j + 1) (by omega)) (fun h => absurd (hpre j (by omega)) (h j (by omega))) l 0 (by omega) lt_0
theorem ym_fill {post : Int32 → SY → Prop} (hs : s < 3) (hm : m < 4) (hc : ms m = nI c) (hc14 : c ≤ 14) (hse : se s = nI m) (hy : ly s = nI l) (hlc : l ≤ c) (hpre : ∀ q, q < l → vw (14 * s + q) = nu (14 * m + q)) (hd : ∀ i j, i < j → j < c → ¬ nu (14 * m + i) = nu (14 * m + j)) (hp : post (nI c - nI l) (gv, th, va, nx, hi, ms, nu, sz, fl, ch, se, upd ly s (nI c), ms_cp vw nu s m c)) : wpY_fill post (gv, th, va, nx, hi, ms, nu, sz, fl, ch, se, ly, vw) (nI s) := by
  unfold wpY_fill
  dsimp only
  rw [ms_c3 hs, hse, hy]
  refine ⟨ms_in3 hs, nm_e ⟨ms_in3 hs, nm_e (nm_r (ms_c4' m) ⟨(c - l + 1) + l, ?_⟩)⟩⟩
  have z := ym_fill2 hs hm hc hc14 hd hp (c - l) l (by omega)
  rw [ms_updId hy, ms_cp_pre hpre] at z
  exact ym_fill1 hs hm hc hc14 hy hlc hpre z l 0 (by omega)
theorem xm_dropL (hs : s < 3) (hm : m < 4) (hc : ms m = nI c) (hc14 : c ≤ 14) (hse : se s = nI m) (hv : vl s = nI l) (hy : ly s = nI l) (hl : l ≤ 14) : ∀ (d i p : Nat) (g : Nat → Nat) (vw' : Nat → Int32), i + d = l → ms_Gi (fun j => ∃ q, q < c ∧ nu (14 * m + q) = vw (14 * s + j)) i p g → ms_Mv (14 * s) p g vw vw' → ∃ (p2 : Nat) (g2 : Nat → Nat) (vw2 : Nat → Int32), ms_Gi (fun j => ∃ q, q < c ∧ nu (14 * m + q) = vw (14 * s + j)) l p2 g2 ∧ ms_Mv (14 * s) p2 g2 vw vw2 ∧ (∀ post : SX → Prop, post (gv, th, va, nx, hi, ms, nu, sz, fl, ch, se, upd vl s (nI p2), vw2) → wX_dropGone_10 post (nI s) (nI (14 * s)) gv (d + 1) (nI p) (nI i) th va nx hi ms nu sz fl ch se vl vw') ∧ (∀ post : Int32 → SY → Prop, post (nI l - nI p2) (gv, th, va, nx, hi, ms, nu, sz, fl, ch, se, upd ly s (nI p2), vw2) → wY_dropGone_4 post (nI s) gv (d + 1) (nI p) (nI i) th va nx hi ms nu sz fl ch se ly vw') := by
  intro d
  induction d with
  | zero =>
    intro i p g vw' hi' G M
    obtain rfl : i = l := by omega
    refine ⟨p, g, vw', G, M, fun post hp => ?_, fun post hp => ?_⟩
    · rw [wX_dropGone_10]; dsimp only; rw [ms_c3 hs, hv]
      exact ⟨ms_in3 hs, br_t (nI_le (by omega) (by omega)) ⟨ms_in3 hs, nm_e hp⟩⟩
    · rw [wY_dropGone_4]; dsimp only; rw [ms_c3 hs, hy]
      exact ⟨ms_in3 hs, br_t (nI_le (by omega) (by omega)) ⟨ms_in3 hs, nm_e ⟨ms_in3 hs, nm_e hp⟩⟩⟩
  | succ d ih =>
    intro i p g vw' hi' G M
    have hpi := G.1
    have ev : vw' (14 * s + i) = vw (14 * s + i) := M.2 _ (by omega)
    have ki := ms_k (i := 14 * s + i) (by omega)
    have kp := ms_k (i := 14 * s + p) (by omega)
    have ni := ms_i42 (i := 14 * s + i) (by omega)
    have np := ms_i42 (i := 14 * s + p) (by omega)
    obtain ⟨r, hr, cX, cY⟩ := xm_cell (nu := nu) gv th va nx hi sz fl ch se vl vw' ly hm hc hc14 (vw (14 * s + i))
    rcases hr with ⟨rfl, hn⟩ | ⟨j, hj, ej, rfl⟩
    · obtain ⟨p2, g2, vw2, G2, M2, hX, hY⟩ := ih (i + 1) p g vw' (by omega) (ms_GiN G (fun ⟨q, hq, e⟩ => hn q hq e)) M
      refine ⟨p2, g2, vw2, G2, M2, fun post hp => ?_, fun post hp => ?_⟩
      · rw [wX_dropGone_10]; dsimp only; rw [ms_c3 hs, hv, hse, nI_add (14 * s) i, ki]
        exact ⟨ms_in3 hs, br_f (nI_ge (by omega) (by omega)) ⟨ni, nm_r ev ⟨ms_in3 hs, cX _ (br_t rfl (nm_r (nI_1 i) (hX post hp)))⟩⟩⟩
      · rw [wY_dropGone_4]; dsimp only; rw [ms_c3 hs, hy, hse, ms_e2 s i, ki]
        exact ⟨ms_in3 hs, br_f (nI_ge (by omega) (by omega)) ⟨ni, nm_r ev ⟨ms_in3 hs, cY _ (br_t ms_m1lt (nm_r (nI_1 i) (hY post hp)))⟩⟩⟩
    · obtain ⟨p2, g2, vw2, G2, M2, hX, hY⟩ := ih (i + 1) (p + 1) (ms_gx g p i) (upd vw' (14 * s + p) (vw (14 * s + i))) (by omega) (ms_GiT G ⟨j, hj, ej⟩) (ms_MvT M hpi ev.symm)
      refine ⟨p2, g2, vw2, G2, M2, fun post hp => ?_, fun post hp => ?_⟩
      · rw [wX_dropGone_10]; dsimp only; rw [ms_c3 hs, hv, hse, nI_add (14 * s) i, nI_add (14 * s) p, ki, kp]
        exact ⟨ms_in3 hs, br_f (nI_ge (by omega) (by omega)) ⟨ni, nm_r ev ⟨ms_in3 hs, cX _ (br_f (ms_ne1 (by omega)) ⟨np, nm_e (nm_r (nI_1 p) (nm_r (nI_1 i) (hX post hp)))⟩)⟩⟩⟩
      · rw [wY_dropGone_4]; dsimp only; rw [ms_c3 hs, hy, hse, ms_e2 s i, ms_e2 s p, ki, kp]
        exact ⟨ms_in3 hs, br_f (nI_ge (by omega) (by omega)) ⟨ni, nm_r ev ⟨ms_in3 hs, cY _ (br_f (nI_pos (by omega)) ⟨np, nm_e (nm_r (nI_1 p) (nm_r (nI_1 i) (hY post hp)))⟩)⟩⟩⟩
theorem xm_drop (gv : Int32) (va hi sz fl ch : Nat → Int32) (hs : s < 3) (S : ms_Sees th nx ms nu vw s m c l) (hse : se s = nI m) (hv : vl s = nI l) (hy : ly s = nI l) : ∃ (p : Nat) (vw2 : Nat → Int32), p ≤ l ∧ ms_Sees th nx ms nu vw2 s m c p ∧ (∀ i, i < p → ∃ j, j < c ∧ nu (14 * m + j) = vw2 (14 * s + i)) ∧ (∀ x, x < 14 * s ∨ 14 * s + 14 ≤ x → vw2 x = vw x) ∧ (∀ post : SX → Prop, post (gv, th, va, nx, hi, ms, nu, sz, fl, ch, se, upd vl s (nI p), vw2) → wpX_dropGone post (gv, th, va, nx, hi, ms, nu, sz, fl, ch, se, vl, vw) (nI s)) ∧ (∀ post : Int32 → SY → Prop, post (nI l - nI p) (gv, th, va, nx, hi, ms, nu, sz, fl, ch, se, upd ly s (nI p), vw2) → wpY_dropGone post (gv, th, va, nx, hi, ms, nu, sz, fl, ch, se, ly, vw) (nI s)) := by
  have hm := S.1
  have hc := S.2.2.2.2.1
  have hc14 := S.2.1
  have hl := S.2.2.1
  obtain ⟨p, g, vw2, G, M, hX, hY⟩ := xm_dropL (gv := gv) (th := th) (va := va) (nx := nx) (hi := hi) (nu := nu) (sz := sz) (fl := fl) (ch := ch) (vw := vw) hs hm hc hc14 hse hv hy hl l 0 0 (fun q => q) vw (by omega) ms_Gi0 ms_Mv0
  have D := ms_drop S G M
  refine ⟨p, vw2, G.1, D.1, D.2, fun x hx => M.2 x (by have := G.1; omega), fun post hp => ?_, fun post hp => ?_⟩
  · unfold wpX_dropGone
    dsimp only
    exact nm_r (ms_c4 s) ⟨l + 1, hX post hp⟩
  · exact ⟨l + 1, hY post hp⟩
end
