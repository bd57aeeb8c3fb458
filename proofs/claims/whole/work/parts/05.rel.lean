/-! the relation; the small own methods of both sides -/
def i_Rel (k : Nat) (u : SX) (v : SY) : Prop :=
  ∃ (gv : Int32) (th va nx hi ms nu sz fl ch se vl vw ly : Nat → Int32), u = (gv, th, va, nx, hi, ms, nu, sz, fl, ch, se, vl, vw) ∧ v = (gv, th, va, nx, hi, ms, nu, sz, fl, ch, se, ly, vw) ∧ ms_Inv k gv th va nx hi ms nu sz fl ch se vl vw ly
theorem i_up {k : Nat} {u : SX} {v : SY} (h : i_Rel k u v) : i_Rel (k + 5) u v := by
  obtain ⟨gv, th, va, nx, hi, ms, nu, sz, fl, ch, se, vl, vw, ly, e1, e2, J⟩ := h
  exact ⟨gv, th, va, nx, hi, ms, nu, sz, fl, ch, se, vl, vw, ly, e1, e2, ms_up J⟩
theorem ms_vb0 : vp_nar .boolean 0 = 0 := by decide
theorem ms_vb1 : vp_nar .boolean 1 = 1 := by decide
theorem ms_n10 : ¬ (1 : Int32) = 0 := by decide
theorem ms_320 : ¬ (32 : Int32) = 0 := by decide
theorem ms_20 : ¬ (2 : Int32) = 0 := by decide
theorem ms_1_0 : ¬ (0 : Int32) ≤ -1 := by decide
theorem ms_2_0 : ¬ (0 : Int32) ≤ -2 := by decide
theorem ms_3_0 : ¬ (0 : Int32) ≤ -3 := by decide
theorem ms_4_0 : ¬ (0 : Int32) ≤ -4 := by decide
theorem ms_00 : (0 : Int32) ≤ 0 := by decide
theorem ms_updId {f : Nat → Int32} {j : Nat} {x : Int32} (h : f j = x) : upd f j x = f := by
  funext i
  by_cases e : i = j
  · subst e; rw [pk_us, h]
  · rw [pk_un e]
theorem ms_uu {f : Nat → Int32} {j : Nat} {x y : Int32} : upd (upd f j x) j y = upd f j y := by
  funext i
  by_cases e : i = j
  · subst e; rw [pk_us, pk_us]
  · rw [pk_un e, pk_un e, pk_un e]
theorem ms_arg (x : Int32) (n : Nat) (hn : n < 2 ^ 31) : (x < 0 ∨ nI n ≤ x) ∨ ∃ j : Nat, j < n ∧ x = nI j := by
  rcases pk_ix x hn with h | h | h
  · exact Or.inl (Or.inl h)
  · exact Or.inl (Or.inr h)
  · exact Or.inr h
theorem ms_not4 {x : Int32} (h : nI 4 ≤ x) : ¬ x ≤ 3 := by
  rw [Int32.le_iff_toInt_le] at h ⊢
  rw [nI_toInt (by omega)] at h
  rw [show (3 : Int32).toInt = 3 from by decide]
  omega
theorem ms_not3 {x : Int32} (h : nI 3 ≤ x) : ¬ x ≤ 2 := by
  rw [Int32.le_iff_toInt_le] at h ⊢
  rw [nI_toInt (by omega)] at h
  rw [show (2 : Int32).toInt = 2 from by decide]
  omega
theorem ms_not1024 {x : Int32} (h : nI 1024 ≤ x) : ¬ x ≤ 1023 := by
  rw [Int32.le_iff_toInt_le] at h ⊢
  rw [nI_toInt (by omega)] at h
  rw [show (1023 : Int32).toInt = 1023 from by decide]
  omega
section
variable {k : Nat} {gv : Int32} {th va nx hi ms nu sz fl ch se vl vw ly : Nat → Int32} {m s c l : Nat} {x : Int32} {post : Int32 → Prop}
theorem ms_rel (J : ms_Inv k gv th va nx hi ms nu sz fl ch se vl vw ly) : i_Rel k (gv, th, va, nx, hi, ms, nu, sz, fl, ch, se, vl, vw) (gv, th, va, nx, hi, ms, nu, sz, fl, ch, se, ly, vw) :=
  ⟨gv, th, va, nx, hi, ms, nu, sz, fl, ch, se, vl, vw, ly, rfl, rfl, J⟩
theorem ms_c (h : m < 4) : (nI m).toNatClampNeg = m := nI_clamp (by omega)
theorem ms_in4 (h : m < 4) : vp_in (nI m) 4 := vp_in_nI h (by omega)
theorem ms_in3 (h : s < 3) : vp_in (nI s) 3 := vp_in_nI h (by omega)
theorem ms_c3 (h : s < 3) : (nI s).toNatClampNeg = s := nI_clamp (by omega)
theorem xm_gm (h : m < 4) (p : post 1) : wpX_goodMailbox post (nI m) := br_f (nI_pos (by omega)) (br_f (nI_ge (b := 4) h (by decide)) p)
theorem xm_gmF (h : x < 0 ∨ nI 4 ≤ x) (p : post 0) : wpX_goodMailbox post x := ⟨fun _ => p, fun n => br_t (h.resolve_left n) p⟩
theorem xm_gs (h : s < 3) (p : post 1) : wpX_goodSession post (nI s) := br_f (nI_pos (by omega)) (br_f (nI_ge (b := 3) h (by decide)) p)
theorem xm_gsF (h : x < 0 ∨ nI 3 ≤ x) (p : post 0) : wpX_goodSession post x := ⟨fun _ => p, fun n => br_t (h.resolve_left n) p⟩
theorem xm_gp (h : c < 1024) (p : post 1) : wpX_goodPattern post (nI c) := br_f (nI_pos (by omega)) (br_f (nI_ge (b := 1024) h (by decide)) p)
theorem xm_gpF (h : x < 0 ∨ nI 1024 ≤ x) (p : post 0) : wpX_goodPattern post x := ⟨fun _ => p, fun n => br_t (h.resolve_left n) p⟩
theorem ym_bb (h : m < 4) (p : post 0) : wpY_badBox post (gv, th, va, nx, hi, ms, nu, sz, fl, ch, se, ly, vw) (nI m) := br_f (nI_pos (by omega)) (br_t (nI_le (b := 3) (by omega) (by decide)) p)
theorem ym_bbF (h : x < 0 ∨ nI 4 ≤ x) (p : post 1) : wpY_badBox post (gv, th, va, nx, hi, ms, nu, sz, fl, ch, se, ly, vw) x := ⟨fun _ => p, fun n => br_f (ms_not4 (h.resolve_left n)) p⟩
theorem ym_bs (h : s < 3) (p : post 0) : wpY_badSession post (gv, th, va, nx, hi, ms, nu, sz, fl, ch, se, ly, vw) (nI s) := br_f (nI_pos (by omega)) (br_t (nI_le (b := 2) (by omega) (by decide)) p)
theorem ym_bsF (h : x < 0 ∨ nI 3 ≤ x) (p : post 1) : wpY_badSession post (gv, th, va, nx, hi, ms, nu, sz, fl, ch, se, ly, vw) x := ⟨fun _ => p, fun n => br_f (ms_not3 (h.resolve_left n)) p⟩
theorem ym_nb (h : m < 4) (ht : ¬ th m = 0) (p : post 0) : wpY_noBox post (gv, th, va, nx, hi, ms, nu, sz, fl, ch, se, ly, vw) (nI m) := by
  unfold wpY_noBox
  dsimp only
  refine ym_bb h (br_t rfl ⟨ms_in4 h, br_f ?_ p⟩)
  rw [ms_c h]; exact ht
theorem ym_nb0 (h : m < 4) (ht : th m = 0) (p : post (-2)) : wpY_noBox post (gv, th, va, nx, hi, ms, nu, sz, fl, ch, se, ly, vw) (nI m) := by
  unfold wpY_noBox
  dsimp only
  refine ym_bb h (br_t rfl ⟨ms_in4 h, br_t ?_ p⟩)
  rw [ms_c h]; exact ht
theorem ym_nbF (h : x < 0 ∨ nI 4 ≤ x) (p : post (-1)) : wpY_noBox post (gv, th, va, nx, hi, ms, nu, sz, fl, ch, se, ly, vw) x := by
  unfold wpY_noBox
  dsimp only
  exact ym_bbF h (br_f ms_n10 p)
theorem ym_nv (h : s < 3) (hs : se s = nI m) (hm : m < 4) (p : post 0) : wpY_noView post (gv, th, va, nx, hi, ms, nu, sz, fl, ch, se, ly, vw) (nI s) := by
  unfold wpY_noView
  dsimp only
  refine ym_bs h (br_t rfl ⟨ms_in3 h, br_t ?_ p⟩)
  rw [ms_c3 h, hs]; exact nI_pos' (by omega)
theorem ym_nv0 (h : s < 3) (hs : se s = -1) (p : post (-2)) : wpY_noView post (gv, th, va, nx, hi, ms, nu, sz, fl, ch, se, ly, vw) (nI s) := by
  unfold wpY_noView
  dsimp only
  refine ym_bs h (br_t rfl ⟨ms_in3 h, br_f ?_ p⟩)
  rw [ms_c3 h, hs]; exact ms_1_0
theorem ym_nvF (h : x < 0 ∨ nI 3 ≤ x) (p : post (-1)) : wpY_noView post (gv, th, va, nx, hi, ms, nu, sz, fl, ch, se, ly, vw) x := by
  unfold wpY_noView
  dsimp only
  exact ym_bsF h (br_f ms_n10 p)
theorem ms_01 (J : ms_Inv k gv th va nx hi ms nu sz fl ch se vl vw ly) (hm : m < 4) : th m = 0 ∨ (th m = 1 ∧ ¬ th m = 0) := by
  obtain ⟨c, h1, h2, h3, h4⟩ := J.2.2.1 m hm
  rcases h3 with h | h
  · exact Or.inl h
  · exact Or.inr ⟨h, by rw [h]; exact ms_n10⟩
theorem ms_cnt (J : ms_Inv k gv th va nx hi ms nu sz fl ch se vl vw ly) (hm : m < 4) : ∃ c, c ≤ 14 ∧ ms m = nI c := by
  obtain ⟨c, h1, h2, h3⟩ := J.2.2.1 m hm
  exact ⟨c, h1, h2⟩
end
