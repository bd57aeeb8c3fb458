/-! a message is refused or added; a place is there or not -/
section
variable {k : Nat} {gv : Int32} {th va nx hi ms nu sz fl ch se vl vw ly : Nat → Int32} {m s c l : Nat} {z f : Int32}
theorem xm_add {post : Int32 → SX → Prop} (hm : m < 4) (hc : ms m = nI c) (hc14 : c < 14) (hp : post (nx m) (gv, th, va, upd nx m (nx m + 1), upd hi m (hi m + 1), upd ms m (nI (c + 1)), upd nu (14 * m + c) (nx m), upd sz (14 * m + c) z, upd fl (14 * m + c) f, upd ch (14 * m + c) (hi m + 1), se, vl, vw)) : wpX_addMessage post (gv, th, va, nx, hi, ms, nu, sz, fl, ch, se, vl, vw) (nI m) z f := by
  have n4 := ms_in4 hm
  have kc := ms_k (i := 14 * m + c) (by omega)
  have nc := ms_i56 (i := 14 * m + c) (by omega)
  unfold wpX_addMessage wpX_markChanged
  dsimp only
  rw [ms_c hm, hc]
  refine ⟨n4, nm_r (ms_e1 m c) ?_⟩
  rw [kc, nI_1 c]
  refine ⟨n4, n4, nm_e ⟨n4, nc, nm_e ⟨nc, nm_e ⟨nc, nm_e ⟨n4, n4, nm_e ⟨n4, nc, nm_e ⟨n4, n4, nm_e ⟨nc, ?_⟩⟩⟩⟩⟩⟩⟩⟩
  rw [pk_us, pk_us]
  exact hp
theorem ym_add {post : Int32 → SY → Prop} (hm : m < 4) (hc : ms m = nI c) (hc14 : c < 14) (hp : post (nx m) (gv, th, va, upd nx m (nx m + 1), upd hi m (hi m + 1), upd ms m (nI (c + 1)), upd nu (14 * m + c) (nx m), upd sz (14 * m + c) z, upd fl (14 * m + c) f, upd ch (14 * m + c) (hi m + 1), se, ly, vw)) : wpY_add post (gv, th, va, nx, hi, ms, nu, sz, fl, ch, se, ly, vw) (nI m) z f := by
  have n4 := ms_in4 hm
  have kc := ms_k (i := 14 * m + c) (by omega)
  have nc := ms_i56 (i := 14 * m + c) (by omega)
  unfold wpY_add
  dsimp only
  rw [ms_c hm, hc]
  refine ⟨n4, nm_r (ms_e2 m c) ?_⟩
  rw [kc, nI_1 c]
  refine ⟨n4, n4, nm_e ⟨n4, nc, nm_e ⟨nc, nm_e ⟨nc, nm_e ⟨n4, nc, nm_e ⟨n4, n4, nm_e ⟨n4, n4, nm_e ⟨nc, ?_⟩⟩⟩⟩⟩⟩⟩⟩
  rw [pk_us, pk_us]
  exact hp
theorem xm_rb0 {post : Int32 → Prop} (hm : m < 4) (ht : th m = 0) (p : post (-2)) : wpX_refusalOfMailbox post (gv, th, va, nx, hi, ms, nu, sz, fl, ch, se, vl, vw) (nI m) := by
  unfold wpX_refusalOfMailbox
  dsimp only
  rw [ms_c hm]
  exact ⟨ms_in4 hm, br_t ht p⟩
theorem xm_rb3 {post : Int32 → Prop} (hm : m < 4) (ht : ¬ th m = 0) (hc : ms m = nI 14) (p : post (-3)) : wpX_refusalOfMailbox post (gv, th, va, nx, hi, ms, nu, sz, fl, ch, se, vl, vw) (nI m) := by
  unfold wpX_refusalOfMailbox
  dsimp only
  rw [ms_c hm, hc]
  exact ⟨ms_in4 hm, br_f ht ⟨ms_in4 hm, br_t (nI_le (a := 14) (by omega) (by omega)) p⟩⟩
theorem xm_rb {post : Int32 → Prop} (hm : m < 4) (ht : ¬ th m = 0) (hc : ms m = nI c) (hc14 : c < 14) (p : post 0) : wpX_refusalOfMailbox post (gv, th, va, nx, hi, ms, nu, sz, fl, ch, se, vl, vw) (nI m) := by
  unfold wpX_refusalOfMailbox
  dsimp only
  rw [ms_c hm, hc]
  exact ⟨ms_in4 hm, br_f ht ⟨ms_in4 hm, br_f (nI_ge (b := 14) hc14 (by decide)) p⟩⟩
theorem ms_le31 {f : Int32} (h : ¬ 32 ≤ f) : f ≤ 31 := by
  rw [Int32.le_iff_toInt_le, show (32 : Int32).toInt = 32 from by decide] at h
  rw [Int32.le_iff_toInt_le, show (31 : Int32).toInt = 31 from by decide]
  omega
theorem ms_nle31 {f : Int32} (h : 32 ≤ f) : ¬ f ≤ 31 := by
  rw [Int32.le_iff_toInt_le, show (32 : Int32).toInt = 32 from by decide] at h
  rw [Int32.le_iff_toInt_le, show (31 : Int32).toInt = 31 from by decide]
  omega
theorem ms_ne14 (h : c < 14) : ¬ nI c = 14 := by
  intro e
  have z : c = 14 := (nI_eq (a := c) (b := 14) (by omega) (by omega)).mp e
  omega
theorem xm_refuse (J : ms_Inv k gv th va nx hi ms nu sz fl ch se vl vw ly) (x z f : Int32) : ∃ r : Int32, (∀ post : Int32 → Prop, post r → wpX_refusalOfMessage post (gv, th, va, nx, hi, ms, nu, sz, fl, ch, se, vl, vw) x z f) ∧ (∀ post : Int32 → Prop, post r → wpY_refused post (gv, th, va, nx, hi, ms, nu, sz, fl, ch, se, ly, vw) x z f) ∧ ((¬ 0 ≤ r ∧ ¬ r = 0) ∨ (r = 0 ∧ ∃ m c, m < 4 ∧ x = nI m ∧ th m = 1 ∧ ms m = nI c ∧ c < 14 ∧ 1 ≤ z.toInt ∧ z.toInt ≤ 1000 ∧ 0 ≤ f.toInt ∧ f.toInt < 32)) := by
  have b1 : ¬ (0 : Int32) ≤ -1 ∧ ¬ (-1 : Int32) = 0 := by decide
  have b2 : ¬ (0 : Int32) ≤ -2 ∧ ¬ (-2 : Int32) = 0 := by decide
  have b3 : ¬ (0 : Int32) ≤ -3 ∧ ¬ (-3 : Int32) = 0 := by decide
  unfold wpX_refusalOfMessage wpY_refused
  dsimp only
  rcases ms_arg x 4 (by omega) with hx | ⟨m, hm, rfl⟩
  · exact ⟨-1, fun post hp => xm_gmF hx (br_t rfl hp), fun post hp => ym_bbF hx (br_f ms_n10 hp), Or.inl b1⟩
  · rw [ms_c hm]
    have n4 := ms_in4 hm
    by_cases e1 : z < 1
    · exact ⟨-1, fun post hp => xm_gm hm (br_f ms_n10 (br_t e1 (br_t rfl hp))), fun post hp => ym_bb hm (br_t rfl (br_t e1 hp)), Or.inl b1⟩
    · by_cases e2 : 1000 < z
      · exact ⟨-1, fun post hp => xm_gm hm (br_f ms_n10 (br_f e1 (br_t e2 (br_t rfl hp)))), fun post hp => ym_bb hm (br_t rfl (br_f e1 (br_t e2 hp))), Or.inl b1⟩
      · by_cases e3 : f < 0
        · exact ⟨-1, fun post hp => xm_gm hm (br_f ms_n10 (br_f e1 (br_f e2 (br_f ms_n10 (br_t e3 (br_t rfl hp)))))), fun post hp => ym_bb hm (br_t rfl (br_f e1 (br_f e2 (br_t e3 hp)))), Or.inl b1⟩
        · by_cases e4 : 32 ≤ f
          · exact ⟨-1, fun post hp => xm_gm hm (br_f ms_n10 (br_f e1 (br_f e2 (br_f ms_n10 (br_f e3 (br_t e4 (br_t rfl hp))))))), fun post hp => ym_bb hm (br_t rfl (br_f e1 (br_f e2 (br_f e3 (br_f (ms_nle31 e4) hp))))), Or.inl b1⟩
          · have e5 := ms_le31 e4
            rcases ms_01 J hm with ht | ⟨ht, ht0⟩
            · exact ⟨-2, fun post hp => xm_gm hm (br_f ms_n10 (br_f e1 (br_f e2 (br_f ms_n10 (br_f e3 (br_f e4 (br_f ms_n10 (xm_rb0 hm ht hp)))))))), fun post hp => ym_bb hm (br_t rfl (br_f e1 (br_f e2 (br_f e3 (br_t e5 ⟨n4, br_t ht hp⟩))))), Or.inl b2⟩
            · obtain ⟨c, hc14, hc⟩ := ms_cnt J hm
              by_cases e6 : c = 14
              · subst e6
                exact ⟨-3, fun post hp => xm_gm hm (br_f ms_n10 (br_f e1 (br_f e2 (br_f ms_n10 (br_f e3 (br_f e4 (br_f ms_n10 (xm_rb3 hm ht0 hc hp)))))))), fun post hp => ym_bb hm (br_t rfl (br_f e1 (br_f e2 (br_f e3 (br_t e5 ⟨n4, br_f ht0 ⟨n4, br_t hc hp⟩⟩))))), Or.inl b3⟩
              · refine ⟨0, fun post hp => xm_gm hm (br_f ms_n10 (br_f e1 (br_f e2 (br_f ms_n10 (br_f e3 (br_f e4 (br_f ms_n10 (xm_rb hm ht0 hc (by omega) hp)))))))), fun post hp => ym_bb hm (br_t rfl (br_f e1 (br_f e2 (br_f e3 (br_t e5 ⟨n4, br_f ht0 ⟨n4, br_f (by rw [hc]; exact ms_ne14 (by omega)) hp⟩⟩))))), Or.inr ⟨rfl, m, c, hm, rfl, ht, hc, by omega, ?_, ?_, ?_, ?_⟩⟩
                · rw [Int32.lt_iff_toInt_lt, ms_t1] at e1; omega
                · rw [Int32.lt_iff_toInt_lt, show (1000 : Int32).toInt = 1000 from by decide] at e2; omega
                · rw [Int32.lt_iff_toInt_lt, ms_t0] at e3; omega
                · rw [Int32.le_iff_toInt_le, show (32 : Int32).toInt = 32 from by decide] at e4; omega
theorem xm_pl (J : ms_Inv k gv th va nx hi ms nu sz fl ch se vl vw ly) (hs : s < 3) (x : Int32) : ((∀ post : Int32 → Prop, post 0 → wpX_hasPlace post (gv, th, va, nx, hi, ms, nu, sz, fl, ch, se, vl, vw) (nI s) x) ∧ (∀ post : Int32 → Prop, post (-2) → wpY_numberAt post (gv, th, va, nx, hi, ms, nu, sz, fl, ch, se, ly, vw) (nI s) x) ∧ (∀ post : Int32 → Prop, post (-2) → wpY_messageAt post (gv, th, va, nx, hi, ms, nu, sz, fl, ch, se, ly, vw) (nI s) x)) ∨ ∃ m c l i : Nat, i < l ∧ x = nI (i + 1) ∧ se s = nI m ∧ vl s = nI l ∧ ly s = nI l ∧ ms_Sees th nx ms nu vw s m c l ∧ (∀ post : Int32 → Prop, post 1 → wpX_hasPlace post (gv, th, va, nx, hi, ms, nu, sz, fl, ch, se, vl, vw) (nI s) x) := by
  have h1n : ∀ j : Nat, j < 2 ^ 31 → 0 < j → ¬ nI j < 1 := fun j h h2 => nI_nlt (b := 1) (by omega) h
  have M : (∀ post : Int32 → Prop, post (-2) → wpY_numberAt post (gv, th, va, nx, hi, ms, nu, sz, fl, ch, se, ly, vw) (nI s) x) → (∀ post : Int32 → Prop, post (-2) → wpY_messageAt post (gv, th, va, nx, hi, ms, nu, sz, fl, ch, se, ly, vw) (nI s) x) := by
    intro h post hp
    unfold wpY_messageAt
    dsimp only
    exact h _ (br_f ms_2_0 hp)
  rcases J.2.2.2 s hs with ⟨e, e2⟩ | ⟨m, c, l, h1, h2, h3, S⟩
  · have N : ∀ post : Int32 → Prop, post (-2) → wpY_numberAt post (gv, th, va, nx, hi, ms, nu, sz, fl, ch, se, ly, vw) (nI s) x := by
      intro post hp
      unfold wpY_numberAt
      dsimp only
      exact ym_nv0 hs e (br_f ms_2_0 (ym_nv0 hs e hp))
    refine Or.inl ⟨fun post hp => ?_, N, M N⟩
    unfold wpX_hasPlace
    dsimp only
    rw [ms_c3 hs, e2]
    refine ⟨fun _ => hp, fun n => ⟨ms_in3 hs, br_t ?_ hp⟩⟩
    rw [Int32.lt_iff_toInt_lt, ms_t1] at n
    rw [Int32.lt_iff_toInt_lt, nI_toInt (by omega)]
    omega
  · have hl := S.2.2.1
    by_cases q : x < 1
    · have N : ∀ post : Int32 → Prop, post (-2) → wpY_numberAt post (gv, th, va, nx, hi, ms, nu, sz, fl, ch, se, ly, vw) (nI s) x := by
        intro post hp
        unfold wpY_numberAt
        dsimp only
        exact ym_nv hs h1 S.1 (br_t ms_00 (br_t q hp))
      exact Or.inl ⟨fun post hp => br_t q hp, N, M N⟩
    · rcases pk_ix x (n := l + 1) (by omega) with h | h | ⟨j, hj, rfl⟩
      · rw [Int32.lt_iff_toInt_lt] at q h
        rw [ms_t1] at q; rw [ms_t0] at h
        omega
      · have h4 : nI l < x := by
          rw [Int32.le_iff_toInt_le, nI_toInt (by omega)] at h
          rw [Int32.lt_iff_toInt_lt, nI_toInt (by omega)]
          omega
        have h5 : ¬ x ≤ nI l := by
          rw [Int32.lt_iff_toInt_lt] at h4
          rw [Int32.le_iff_toInt_le]
          omega
        have N : ∀ post : Int32 → Prop, post (-2) → wpY_numberAt post (gv, th, va, nx, hi, ms, nu, sz, fl, ch, se, ly, vw) (nI s) x := by
          intro post hp
          unfold wpY_numberAt
          dsimp only
          rw [ms_c3 hs, h3]
          exact ym_nv hs h1 S.1 (br_t ms_00 (br_f q ⟨ms_in3 hs, br_f h5 hp⟩))
        refine Or.inl ⟨fun post hp => ?_, N, M N⟩
        unfold wpX_hasPlace
        dsimp only
        rw [ms_c3 hs, h2]
        exact br_f q ⟨ms_in3 hs, br_t h4 hp⟩
      · have j0 : 0 < j := by
          apply Nat.pos_of_ne_zero
          intro e; subst e
          exact q (by decide)
        obtain ⟨i, rfl⟩ : ∃ i, j = i + 1 := ⟨j - 1, by omega⟩
        refine Or.inr ⟨m, c, l, i, by omega, rfl, h1, h2, h3, S, fun post hp => ?_⟩
        unfold wpX_hasPlace
        dsimp only
        rw [ms_c3 hs, h2]
        exact br_f q ⟨ms_in3 hs, br_f (nI_nlt (by omega) (by omega)) hp⟩
end
