section
/-! rows pasted from the kit (pk_) -/
theorem pk_us {f : Nat → Int32} {k : Nat} {x : Int32} : upd f k x k = x := if_pos rfl
theorem pk_un {f : Nat → Int32} {k j : Nat} {x : Int32} (h : j ≠ k) : upd f k x j = f j := if_neg h
theorem pk_sub {a b : Nat} (h : b ≤ a) : nI a - nI b = nI (a - b) := by
  obtain ⟨c, rfl⟩ : ∃ c, a = c + b := ⟨a - b, by omega⟩
  rw [← nI_add, Int32.add_sub_cancel, Nat.add_sub_cancel]
theorem pk_m1 (n : Nat) : nI (n + 1) + (-1) = nI n := by
  rw [← nI_1, Int32.add_assoc, show (1 : Int32) + (-1) = 0 from rfl, Int32.add_zero]
theorem pk_mul (a b : Nat) : nI a * nI b = nI (a * b) := (Int32.ofNat_mul a b).symm
theorem pk_div {a d : Nat} (ha : a < 2 ^ 31) (h0 : 0 < d) (hd : d < 2 ^ 31) : nI a / nI d = nI (a / d) := by
  apply Int32.toInt_inj.mp
  rw [lg_idiv_nonneg (by rw [nI_toInt ha]; omega) (by rw [nI_toInt hd]; omega), nI_toInt ha, nI_toInt hd, nI_toInt (Nat.lt_of_le_of_lt (Nat.div_le_self a d) ha)]
  first | rfl | exact (Int.natCast_ediv _ _).symm
theorem pk_rem {a d : Nat} (ha : a < 2 ^ 31) (h0 : 0 < d) (hd : d < 2 ^ 31) : nI a - nI a / nI d * nI d = nI (a % d) := by
  rw [pk_div ha h0 hd, pk_mul, pk_sub (Nat.div_mul_le_self a d)]
  exact congrArg nI (by have := Nat.div_add_mod' a d; omega)
theorem pk_ix (x : Int32) {n : Nat} (hn : n < 2 ^ 31) : x < 0 ∨ nI n ≤ x ∨ ∃ j : Nat, j < n ∧ x = nI j := by
  by_cases h : x < 0
  · exact Or.inl h
  · obtain ⟨j, hj, rfl⟩ := nI_of h
    by_cases h2 : j < n
    · exact Or.inr (Or.inr ⟨j, h2, rfl⟩)
    · exact Or.inr (Or.inl (nI_le (by omega) hj))
theorem pk_le {x y : Int32} {A B : Prop} (a b : Nat) (f : a ≤ b → A) (g : b < a → B) (hx : x = nI a := by rfl) (hy : y = nI b := by rfl) (ha : a < 2 ^ 31 := by omega) (hb : b < 2 ^ 31 := by omega) : (x ≤ y → A) ∧ (¬ x ≤ y → B) := by
  subst hx hy
  rw [nI_leI ha hb]
  exact ⟨f, fun z => g (by omega)⟩
theorem pk_lt {x y : Int32} {A B : Prop} (a b : Nat) (f : a < b → A) (g : b ≤ a → B) (hx : x = nI a := by rfl) (hy : y = nI b := by rfl) (ha : a < 2 ^ 31 := by omega) (hb : b < 2 ^ 31 := by omega) : (x < y → A) ∧ (¬ x < y → B) := by
  subst hx hy
  rw [nI_ltI ha hb]
  exact ⟨f, fun z => g (by omega)⟩
theorem pk_eq {x y : Int32} {A B : Prop} (a b : Nat) (f : a = b → A) (g : a ≠ b → B) (hx : x = nI a := by rfl) (hy : y = nI b := by rfl) (ha : a < 2 ^ 31 := by omega) (hb : b < 2 ^ 31 := by omega) : (x = y → A) ∧ (¬ x = y → B) := by
  subst hx hy
  rw [nI_eq ha hb]
  exact ⟨f, g⟩
theorem pk_in {x : Int32} (n N : Nat) (h : n < N) (hx : x = nI n := by rfl) (hN : N < 2 ^ 31 := by omega) : vp_in x N := by
  subst hx
  exact vp_in_nI h hN
theorem pk_cl {x : Int32} (n : Nat) (hx : x = nI n := by rfl) (h : n < 2 ^ 31 := by omega) : x.toNatClampNeg = n := by
  subst hx
  exact nI_clamp h
end
section
/-! numbers, two rising rows of which one begins the other, compaction -/
theorem ms_t0 : (0 : Int32).toInt = 0 := by decide
theorem ms_t1 : (1 : Int32).toInt = 1 := by decide
theorem ms_inc {x : Int32} (h0 : 0 ≤ x.toInt) (h1 : x.toInt < 2000000) : (x + 1).toInt = x.toInt + 1 := by
  rw [Int32.toInt_add, ms_t1]
  exact Int.bmod_eq_of_le (by omega) (by omega)
theorem ms_addN {x : Int32} {g : Nat} (h0 : 0 ≤ x.toInt) (h1 : x.toInt < 2000000) (hg : g ≤ 14) : (x + nI g).toInt = x.toInt + g := by
  rw [Int32.toInt_add, nI_toInt (by omega)]
  exact Int.bmod_eq_of_le (by omega) (by omega)
theorem ms_head {A B : Nat → Int} {l c : Nat} (hA : ∀ i j, i < j → j < l → A i < A j) (hB : ∀ i j, i < j → j < c → B i < B j) (hAB : ∀ i, i < l → ∃ j, j < c ∧ B j = A i) (hcl : ∀ i j, i < l → j < c → B j ≤ A i → ∃ q, q < l ∧ A q = B j) : l ≤ c ∧ ∀ i, i < l → A i = B i := by
  have key : ∀ i, i < l → i < c ∧ A i = B i := by
    intro i
    induction i using Nat.strongRecOn with
    | ind i ih =>
      intro hi
      obtain ⟨j, hj, e⟩ := hAB i hi
      have h1 : ¬ j < i := by
        intro hji
        have z1 := (ih j hji (by omega)).2
        have z2 := hA j i hji hi
        omega
      have h2 : ¬ i < j := by
        intro hij
        have hb := hB i j hij hj
        obtain ⟨q, hq, e'⟩ := hcl i i hi (by omega) (by omega)
        have h3 : q < i := by
          rcases Nat.lt_trichotomy q i with h | h | h
          · exact h
          · subst h; omega
          · have := hA i q h hq; omega
        have h4 := (ih q h3 hq).2
        have h5 := hB q i h3 (by omega)
        omega
      have h3 : j = i := by omega
      subst h3
      exact ⟨hj, e.symm⟩
  refine ⟨?_, fun i hi => (key i hi).2⟩
  cases l with
  | zero => omega
  | succ n => have := (key n (by omega)).1; omega
/-- the first i places, filtered by P, are the p places g 0 < g 1 < .. -/
def ms_Gi (P : Nat → Prop) (i p : Nat) (g : Nat → Nat) : Prop :=
  p ≤ i ∧ (∀ q, q < p → q ≤ g q ∧ g q < i ∧ P (g q)) ∧ (∀ q r, q < r → r < p → g q < g r) ∧ (∀ j, j < i → P j → ∃ q, q < p ∧ g q = j)
/-- a' is a with the places g 0, g 1, .. of the run at b moved to its head -/
def ms_Mv (b p : Nat) (g : Nat → Nat) (a a' : Nat → Int32) : Prop :=
  (∀ q, q < p → a' (b + q) = a (b + g q)) ∧ (∀ x, x < b ∨ b + p ≤ x → a' x = a x)
def ms_gx (g : Nat → Nat) (p i : Nat) : Nat → Nat := fun q => if q = p then i else g q
theorem ms_gxs {g : Nat → Nat} {p i : Nat} : ms_gx g p i p = i := if_pos rfl
theorem ms_gxn {g : Nat → Nat} {p i q : Nat} (h : q ≠ p) : ms_gx g p i q = g q := if_neg h
theorem ms_Gi0 {P : Nat → Prop} {g : Nat → Nat} : ms_Gi P 0 0 g :=
  ⟨Nat.le_refl 0, fun q h => absurd h (Nat.not_lt_zero q), fun _ r _ h => absurd h (Nat.not_lt_zero r), fun j h _ => absurd h (Nat.not_lt_zero j)⟩
theorem ms_GiN {P : Nat → Prop} {i p : Nat} {g : Nat → Nat} (h : ms_Gi P i p g) (n : ¬ P i) : ms_Gi P (i + 1) p g := by
  obtain ⟨a, b, c, d⟩ := h
  refine ⟨by omega, fun q hq => ⟨(b q hq).1, by have := (b q hq).2.1; omega, (b q hq).2.2⟩, c, fun j hj pj => ?_⟩
  by_cases e : j = i
  · subst e; exact absurd pj n
  · exact d j (by omega) pj
theorem ms_GiT {P : Nat → Prop} {i p : Nat} {g : Nat → Nat} (h : ms_Gi P i p g) (n : P i) : ms_Gi P (i + 1) (p + 1) (ms_gx g p i) := by
  obtain ⟨a, b, c, d⟩ := h
  refine ⟨by omega, fun q hq => ?_, fun q r hqr hr => ?_, fun j hj pj => ?_⟩
  · by_cases e : q = p
    · subst e; rw [ms_gxs]; exact ⟨a, by omega, n⟩
    · rw [ms_gxn e]; have z := b q (by omega); exact ⟨z.1, by omega, z.2.2⟩
  · have e : q ≠ p := by omega
    rw [ms_gxn e]
    by_cases e2 : r = p
    · subst e2; rw [ms_gxs]; exact (b q (by omega)).2.1
    · rw [ms_gxn e2]; exact c q r hqr (by omega)
  · by_cases e : j = i
    · exact ⟨p, by omega, by rw [ms_gxs, e]⟩
    · obtain ⟨q, hq, eq⟩ := d j (by omega) pj
      exact ⟨q, by omega, by rw [ms_gxn (by omega)]; exact eq⟩
theorem ms_Mv0 {b : Nat} {g : Nat → Nat} {a : Nat → Int32} : ms_Mv b 0 g a a :=
  ⟨fun q h => absurd h (Nat.not_lt_zero q), fun _ _ => rfl⟩
theorem ms_MvT {b p i : Nat} {g : Nat → Nat} {a a' : Nat → Int32} {x : Int32} (h : ms_Mv b p g a a') (hp : p ≤ i) (hx : x = a' (b + i)) : ms_Mv b (p + 1) (ms_gx g p i) a (upd a' (b + p) x) := by
  obtain ⟨h1, h2⟩ := h
  refine ⟨fun q hq => ?_, fun y hy => ?_⟩
  · by_cases e : q = p
    · subst e; rw [ms_gxs, pk_us, hx]; exact h2 _ (by omega)
    · rw [ms_gxn e, pk_un (by omega)]; exact h1 q (by omega)
  · rw [pk_un (by omega)]; exact h2 y (by omega)
end
section
/-! the invariant of the shared state, and how it lasts -/
def ms_Msg (n h a b c d : Int32) : Prop :=
  1 ≤ a.toInt ∧ a.toInt < n.toInt ∧ 1 ≤ b.toInt ∧ b.toInt ≤ 1000 ∧ 0 ≤ c.toInt ∧ c.toInt < 32 ∧ 2 ≤ d.toInt ∧ d.toInt ≤ h.toInt
def ms_Box (k : Nat) (gv : Int32) (th va nx hi ms nu sz fl ch : Nat → Int32) (m : Nat) : Prop :=
  ∃ c : Nat, c ≤ 14 ∧ ms m = nI c ∧ (th m = 0 ∨ th m = 1) ∧
    0 ≤ (nx m).toInt ∧ (nx m).toInt ≤ (k : Int) + 1 ∧ 0 ≤ (hi m).toInt ∧ (hi m).toInt ≤ 14 * (k : Int) + 1 ∧
    (th m = 1 → 1 ≤ (va m).toInt ∧ (va m).toInt ≤ gv.toInt ∧ 1 ≤ (nx m).toInt ∧ 1 ≤ (hi m).toInt) ∧
    (∀ i, i < c → ms_Msg (nx m) (hi m) (nu (14 * m + i)) (sz (14 * m + i)) (fl (14 * m + i)) (ch (14 * m + i))) ∧
    (∀ i j, i < j → j < c → (nu (14 * m + i)).toInt < (nu (14 * m + j)).toInt)
def ms_Sees (th nx ms nu vw : Nat → Int32) (s m c l : Nat) : Prop :=
  m < 4 ∧ c ≤ 14 ∧ l ≤ 14 ∧ th m = 1 ∧ ms m = nI c ∧
    (∀ i, i < l → 1 ≤ (vw (14 * s + i)).toInt ∧ (vw (14 * s + i)).toInt < (nx m).toInt) ∧
    (∀ i j, i < j → j < l → (vw (14 * s + i)).toInt < (vw (14 * s + j)).toInt) ∧
    (∀ i j, i < l → j < c → (nu (14 * m + j)).toInt ≤ (vw (14 * s + i)).toInt → ∃ q, q < l ∧ vw (14 * s + q) = nu (14 * m + j))
def ms_View (th nx ms nu se vl vw ly : Nat → Int32) (s : Nat) : Prop :=
  (se s = -1 ∧ vl s = nI 0) ∨ ∃ m c l : Nat, se s = nI m ∧ vl s = nI l ∧ ly s = nI l ∧ ms_Sees th nx ms nu vw s m c l
def ms_Inv (k : Nat) (gv : Int32) (th va nx hi ms nu sz fl ch se vl vw ly : Nat → Int32) : Prop :=
  0 ≤ gv.toInt ∧ gv.toInt ≤ (k : Int) ∧ (∀ m, m < 4 → ms_Box k gv th va nx hi ms nu sz fl ch m) ∧ (∀ s, s < 3 → ms_View th nx ms nu se vl vw ly s)
theorem ms_nIeq {a b : Nat} (h : nI a = nI b) (ha : a ≤ 14) (hb : b ≤ 14) : a = b := (nI_eq (by omega) (by omega)).mp h
section
variable {k k' : Nat} {gv gv' : Int32} {th va nx hi ms nu sz fl ch se vl vw ly th' va' nx' hi' ms' nu' sz' fl' ch' se' vl' vw' ly' : Nat → Int32} {m s c l p i : Nat} {g : Nat → Nat} {P : Nat → Prop}
theorem ms_boxC (h : ms_Box k gv th va nx hi ms nu sz fl ch m) (hk : k ≤ k') (hg : gv.toInt ≤ gv'.toInt) (e1 : th' m = th m) (e2 : va' m = va m) (e3 : nx' m = nx m) (e4 : hi' m = hi m) (e5 : ms' m = ms m) (e6 : ∀ i, i < 14 → nu' (14 * m + i) = nu (14 * m + i) ∧ sz' (14 * m + i) = sz (14 * m + i) ∧ fl' (14 * m + i) = fl (14 * m + i) ∧ ch' (14 * m + i) = ch (14 * m + i)) : ms_Box k' gv' th' va' nx' hi' ms' nu' sz' fl' ch' m := by
  obtain ⟨c, h1, h2, h3, h4, h5, h6, h7, h8, h9, h10⟩ := h
  unfold ms_Box
  rw [e1, e2, e3, e4, e5]
  refine ⟨c, h1, h2, h3, h4, by omega, h6, by omega, fun t => ?_, fun i hi => ?_, fun i j hij hj => ?_⟩
  · have z := h8 t
    exact ⟨z.1, by omega, z.2.2⟩
  · obtain ⟨f1, f2, f3, f4⟩ := e6 i (by omega)
    rw [f1, f2, f3, f4]
    exact h9 i hi
  · rw [(e6 i (by omega)).1, (e6 j (by omega)).1]
    exact h10 i j hij hj
theorem ms_seesC (h : ms_Sees th nx ms nu vw s m c l) (e1 : th' m = th m) (e2 : nx' m = nx m) (e3 : ms' m = ms m) (e4 : ∀ i, i < 14 → nu' (14 * m + i) = nu (14 * m + i)) (e5 : ∀ i, i < 14 → vw' (14 * s + i) = vw (14 * s + i)) : ms_Sees th' nx' ms' nu' vw' s m c l := by
  obtain ⟨h1, h2, h3, h4, h5, h6, h7, h8⟩ := h
  unfold ms_Sees
  rw [e1, e2, e3]
  refine ⟨h1, h2, h3, h4, h5, fun i hi => ?_, fun i j hij hj => ?_, fun i j hi hj hl => ?_⟩
  · rw [e5 i (by omega)]; exact h6 i hi
  · rw [e5 i (by omega), e5 j (by omega)]; exact h7 i j hij hj
  · rw [e4 j (by omega)] at hl ⊢
    rw [e5 i (by omega)] at hl
    obtain ⟨q, hq, e⟩ := h8 i j hi hj hl
    exact ⟨q, hq, by rw [e5 q (by omega)]; exact e⟩
theorem ms_viewG (h : ms_View th nx ms nu se vl vw ly s) (e1 : se' s = se s) (e2 : vl' s = vl s) (e3 : ly' s = ly s) (e4 : ∀ m c l, se s = nI m → ms_Sees th nx ms nu vw s m c l → ∃ c', ms_Sees th' nx' ms' nu' vw' s m c' l) : ms_View th' nx' ms' nu' se' vl' vw' ly' s := by
  unfold ms_View
  rw [e1, e2, e3]
  rcases h with h | ⟨m, c, l, h1, h2, h3, h4⟩
  · exact Or.inl h
  · obtain ⟨c', h5⟩ := e4 m c l h1 h4
    exact Or.inr ⟨m, c', l, h1, h2, h3, h5⟩
theorem ms_up (h : ms_Inv k gv th va nx hi ms nu sz fl ch se vl vw ly) : ms_Inv (k + 5) gv th va nx hi ms nu sz fl ch se vl vw ly := by
  obtain ⟨a, b, B, V⟩ := h
  exact ⟨a, by omega, fun m hm => ms_boxC (B m hm) (by omega) (by omega) rfl rfl rfl rfl rfl (fun i hi => ⟨rfl, rfl, rfl, rfl⟩), V⟩
theorem ms_create (h : ms_Inv k gv th va nx hi ms nu sz fl ch se vl vw ly) (hk : k + 5 ≤ 2560) (hm : m < 4) (ht : ¬ th m = 1) : ms_Inv (k + 5) (gv + 1) (upd th m 1) (upd va m (gv + 1)) (upd nx m 1) (upd hi m 1) (upd ms m 0) nu sz fl ch se vl vw ly := by
  obtain ⟨a, b, B, V⟩ := h
  have hg : (gv + 1).toInt = gv.toInt + 1 := ms_inc a (by omega)
  refine ⟨by omega, by omega, fun m' hm' => ?_, fun s hs => ?_⟩
  · by_cases e : m' = m
    · subst e
      simp only [ms_Box, pk_us, ms_t1]
      exact ⟨0, by omega, by trivial, Or.inr (by trivial), by omega, by omega, by omega, by omega, fun _ => ⟨by omega, by omega, by omega, by omega⟩, fun i h => absurd h (Nat.not_lt_zero i), fun i j _ h => absurd h (Nat.not_lt_zero j)⟩
    · exact ms_boxC (B m' hm') (by omega) (by omega) (pk_un e) (pk_un e) (pk_un e) (pk_un e) (pk_un e) (fun i hi => ⟨rfl, rfl, rfl, rfl⟩)
  · refine ms_viewG (V s hs) rfl rfl rfl (fun m' c l _ e2 => ⟨c, ?_⟩)
    have e : m' ≠ m := by
      intro e; subst e
      exact ht e2.2.2.2.1
    exact ms_seesC e2 (pk_un e) (pk_un e) (pk_un e) (fun i hi => rfl) (fun i hi => rfl)
theorem ms_append (h : ms_Inv k gv th va nx hi ms nu sz fl ch se vl vw ly) (hk : k + 5 ≤ 2560) (hm : m < 4) (ht : th m = 1) (hc : ms m = nI c) (hc14 : c < 14) {z f : Int32} (hz1 : 1 ≤ z.toInt) (hz2 : z.toInt ≤ 1000) (hf1 : 0 ≤ f.toInt) (hf2 : f.toInt < 32) : ms_Inv (k + 5) gv th va (upd nx m (nx m + 1)) (upd hi m (hi m + 1)) (upd ms m (nI (c + 1))) (upd nu (14 * m + c) (nx m)) (upd sz (14 * m + c) z) (upd fl (14 * m + c) f) (upd ch (14 * m + c) (hi m + 1)) se vl vw ly := by
  obtain ⟨a, b, B, V⟩ := h
  obtain ⟨c', h1, h2, h3, h4, h5, h6, h7, h8, h9, h10⟩ := B m hm
  obtain rfl : c' = c := ms_nIeq (h2.symm.trans hc) h1 (by omega)
  have hn : (nx m + 1).toInt = (nx m).toInt + 1 := ms_inc h4 (by omega)
  have hh : (hi m + 1).toInt = (hi m).toInt + 1 := ms_inc h6 (by omega)
  have h8' := h8 ht
  refine ⟨a, by omega, fun m' hm' => ?_, fun s hs => ?_⟩
  · by_cases e : m' = m
    · subst e
      simp only [ms_Box, pk_us]
      refine ⟨c' + 1, by omega, rfl, h3, by omega, by omega, by omega, by omega, fun _ => ⟨by omega, by omega, by omega, by omega⟩, fun i hi' => ?_, fun i j hij hj => ?_⟩
      · by_cases e : i = c'
        · subst e
          simp only [ms_Msg, pk_us]
          omega
        · rw [pk_un (by omega), pk_un (by omega), pk_un (by omega), pk_un (by omega)]
          have z := h9 i (by omega)
          simp only [ms_Msg] at z ⊢
          omega
      · rw [pk_un (j := 14 * m' + i) (by omega)]
        by_cases e : j = c'
        · subst e
          rw [pk_us]
          exact (h9 i hij).2.1
        · rw [pk_un (by omega)]
          exact h10 i j hij (by omega)
    · exact ms_boxC (B m' hm') (by omega) (by omega) rfl rfl (pk_un e) (pk_un e) (pk_un e) (fun i hi => ⟨pk_un (by omega), pk_un (by omega), pk_un (by omega), pk_un (by omega)⟩)
  · refine ms_viewG (V s hs) rfl rfl rfl (fun m' c0 l _ S => ?_)
    by_cases e : m' = m
    · subst e
      obtain ⟨s1, s2, s3, s4, s5, s6, s7, s8⟩ := S
      obtain rfl : c0 = c' := ms_nIeq (s5.symm.trans hc) s2 (by omega)
      refine ⟨c0 + 1, s1, by omega, s3, s4, pk_us, fun i hi' => ?_, s7, fun i j hi' hj hle => ?_⟩
      · rw [pk_us]
        have z := s6 i hi'
        omega
      · by_cases e : j = c0
        · subst e
          rw [pk_us] at hle
          have z := s6 i hi'
          omega
        · rw [pk_un (by omega)] at hle ⊢
          exact s8 i j hi' (by omega) hle
    · exact ⟨c0, ms_seesC S rfl (pk_un e) (pk_un e) (fun i hi => pk_un (by omega)) (fun i hi => rfl)⟩
theorem ms_store (h : ms_Inv k gv th va nx hi ms nu sz fl ch se vl vw ly) (hk : k + 5 ≤ 2560) (hm : m < 4) (ht : th m = 1) (hc : ms m = nI c) (hc14 : c ≤ 14) (hi' : i < c) {f : Int32} (hf1 : 0 ≤ f.toInt) (hf2 : f.toInt < 32) : ms_Inv (k + 5) gv th va nx (upd hi m (hi m + 1)) ms nu sz (upd fl (14 * m + i) f) (upd ch (14 * m + i) (hi m + 1)) se vl vw ly := by
  obtain ⟨a, b, B, V⟩ := h
  obtain ⟨c', h1, h2, h3, h4, h5, h6, h7, h8, h9, h10⟩ := B m hm
  obtain rfl : c' = c := ms_nIeq (h2.symm.trans hc) h1 (by omega)
  have hh : (hi m + 1).toInt = (hi m).toInt + 1 := ms_inc h6 (by omega)
  have h8' := h8 ht
  refine ⟨a, by omega, fun m' hm' => ?_, V⟩
  by_cases e : m' = m
  · subst e
    simp only [ms_Box, pk_us]
    refine ⟨c', h1, hc, h3, by omega, by omega, by omega, by omega, fun _ => ⟨by omega, by omega, by omega, by omega⟩, fun j hj => ?_, h10⟩
    have z := h9 j hj
    by_cases e : j = i
    · subst e
      simp only [ms_Msg, pk_us] at z ⊢
      omega
    · rw [pk_un (by omega), pk_un (by omega)]
      simp only [ms_Msg] at z ⊢
      omega
  · exact ms_boxC (B m' hm') (by omega) (by omega) rfl rfl rfl (pk_un e) rfl (fun i hi => ⟨rfl, rfl, pk_un (by omega), pk_un (by omega)⟩)
theorem ms_desel (h : ms_Inv k gv th va nx hi ms nu sz fl ch se vl vw ly) (hd : ∀ s, s < 3 → (se' s = -1 ∧ vl' s = nI 0) ∨ (se' s = se s ∧ vl' s = vl s)) : ms_Inv k gv th va nx hi ms nu sz fl ch se' vl' vw ly := by
  obtain ⟨a, b, B, V⟩ := h
  refine ⟨a, b, B, fun s hs => ?_⟩
  rcases hd s hs with e | ⟨e1, e2⟩
  · exact Or.inl e
  · exact ms_viewG (V s hs) e1 e2 rfl (fun m c l _ S => ⟨c, S⟩)
theorem ms_remove (h : ms_Inv k gv th va nx hi ms nu sz fl ch se vl vw ly) (hm : m < 4) (hd : ∀ s, s < 3 → (se' s = -1 ∧ vl' s = nI 0) ∨ (se' s = se s ∧ vl' s = vl s ∧ ¬ se s = nI m)) : ms_Inv k gv (upd th m 0) va nx hi ms nu sz fl ch se' vl' vw ly := by
  obtain ⟨a, b, B, V⟩ := h
  refine ⟨a, b, fun m' hm' => ?_, fun s hs => ?_⟩
  · by_cases e : m' = m
    · subst e
      obtain ⟨c, h1, h2, h3, h4, h5, h6, h7, h8, h9⟩ := B m' hm'
      simp only [ms_Box, pk_us]
      exact ⟨c, h1, h2, Or.inl (by trivial), h4, h5, h6, h7, fun z => by first | exact absurd z (by decide) | exact z.elim, h9⟩
    · exact ms_boxC (B m' hm') (by omega) (by omega) (pk_un e) rfl rfl rfl rfl (fun i hi => ⟨rfl, rfl, rfl, rfl⟩)
  · rcases hd s hs with e | ⟨e1, e2, e3⟩
    · exact Or.inl e
    · refine ms_viewG (V s hs) e1 e2 rfl (fun m' c l z S => ⟨c, ?_⟩)
      have e : m' ≠ m := by
        intro e; subst e
        exact e3 z
      exact ms_seesC S (pk_un e) rfl rfl (fun i hi => rfl) (fun i hi => rfl)
theorem ms_setV (h : ms_Inv k gv th va nx hi ms nu sz fl ch se vl vw ly) (hs : s < 3) (e1 : ∀ x, x ≠ s → se' x = se x ∧ vl' x = vl x ∧ ly' x = ly x) (e2 : ∀ x, x < 14 * s ∨ 14 * s + 14 ≤ x → vw' x = vw x) (hV : ms_View th nx ms nu se' vl' vw' ly' s) : ms_Inv k gv th va nx hi ms nu sz fl ch se' vl' vw' ly' := by
  obtain ⟨a, b, B, V⟩ := h
  refine ⟨a, b, B, fun s' hs' => ?_⟩
  by_cases e : s' = s
  · subst e; exact hV
  · exact ms_viewG (V s' hs') (e1 s' e).1 (e1 s' e).2.1 (e1 s' e).2.2 (fun m c l _ S => ⟨c, ms_seesC S rfl rfl rfl (fun i hi => rfl) (fun i hi => e2 _ (by omega))⟩)
theorem ms_show (h : ms_Box k gv th va nx hi ms nu sz fl ch m) (hm : m < 4) (ht : th m = 1) (hc : ms m = nI c) (hc14 : c ≤ 14) (hv : ∀ q, q < c → vw' (14 * s + q) = nu (14 * m + q)) : ms_Sees th nx ms nu vw' s m c c := by
  obtain ⟨c', h1, h2, h3, h4, h5, h6, h7, h8, h9, h10⟩ := h
  obtain rfl : c' = c := ms_nIeq (h2.symm.trans hc) h1 hc14
  refine ⟨hm, h1, h1, ht, hc, fun i hi => ?_, fun i j hij hj => ?_, fun i j _ hj _ => ⟨j, hj, hv j hj⟩⟩
  · rw [hv i hi]; exact ⟨(h9 i hi).1, (h9 i hi).2.1⟩
  · rw [hv i (by omega), hv j hj]; exact h10 i j hij hj
theorem ms_take (h : ms_Inv k gv th va nx hi ms nu sz fl ch se vl vw ly) (hk : k + 5 ≤ 2560) (hm : m < 4) (hc : ms m = nI c) (hc14 : c ≤ 14) (G : ms_Gi P c p g) (M1 : ms_Mv (14 * m) p g nu nu') (M2 : ms_Mv (14 * m) p g sz sz') (M3 : ms_Mv (14 * m) p g fl fl') (M4 : ms_Mv (14 * m) p g ch ch') : ms_Inv (k + 5) gv th va nx (upd hi m (hi m + nI (c - p))) (upd ms m (nI p)) nu' sz' fl' ch' se vl vw ly := by
  obtain ⟨a, b, B, V⟩ := h
  obtain ⟨c', h1, h2, h3, h4, h5, h6, h7, h8, h9, h10⟩ := B m hm
  obtain rfl : c' = c := ms_nIeq (h2.symm.trans hc) h1 (by omega)
  have hh : (hi m + nI (c' - p)).toInt = (hi m).toInt + ((c' - p : Nat) : Int) := ms_addN h6 (by omega) (by omega)
  obtain ⟨G1, G2, G3, G4⟩ := G
  refine ⟨a, by omega, fun m' hm' => ?_, fun s hs => ?_⟩
  · by_cases e : m' = m
    · subst e
      simp only [ms_Box, pk_us]
      refine ⟨p, by omega, rfl, h3, by omega, by omega, by omega, by omega, fun t => ?_, fun i hi' => ?_, fun i j hij hj => ?_⟩
      · have z := h8 t
        omega
      · rw [M1.1 i hi', M2.1 i hi', M3.1 i hi', M4.1 i hi']
        have z := h9 (g i) (G2 i hi').2.1
        simp only [ms_Msg] at z ⊢
        omega
      · rw [M1.1 i (by omega), M1.1 j hj]
        exact h10 (g i) (g j) (G3 i j hij hj) (G2 j hj).2.1
    · exact ms_boxC (B m' hm') (by omega) (by omega) rfl rfl rfl (pk_un e) (pk_un e) (fun i hi => ⟨M1.2 _ (by omega), M2.2 _ (by omega), M3.2 _ (by omega), M4.2 _ (by omega)⟩)
  · refine ms_viewG (V s hs) rfl rfl rfl (fun m' c0 l _ S => ?_)
    by_cases e : m' = m
    · subst e
      obtain ⟨s1, s2, s3, s4, s5, s6, s7, s8⟩ := S
      obtain rfl : c0 = c' := ms_nIeq (s5.symm.trans hc) s2 (by omega)
      refine ⟨p, s1, by omega, s3, s4, pk_us, s6, s7, fun i j hi' hj hle => ?_⟩
      rw [M1.1 j hj] at hle ⊢
      exact s8 i (g j) hi' (G2 j hj).2.1 hle
    · exact ⟨c0, ms_seesC S rfl rfl (pk_un e) (fun i hi => M1.2 _ (by omega)) (fun i hi => rfl)⟩
theorem ms_drop (S : ms_Sees th nx ms nu vw s m c l) (G : ms_Gi (fun j => ∃ q, q < c ∧ nu (14 * m + q) = vw (14 * s + j)) l p g) (M : ms_Mv (14 * s) p g vw vw') : ms_Sees th nx ms nu vw' s m c p ∧ ∀ i, i < p → ∃ j, j < c ∧ nu (14 * m + j) = vw' (14 * s + i) := by
  obtain ⟨s1, s2, s3, s4, s5, s6, s7, s8⟩ := S
  obtain ⟨G1, G2, G3, G4⟩ := G
  refine ⟨⟨s1, s2, by omega, s4, s5, fun i hi => ?_, fun i j hij hj => ?_, fun i j hi hj hle => ?_⟩, fun i hi => ?_⟩
  · rw [M.1 i hi]; exact s6 _ (G2 i hi).2.1
  · rw [M.1 i (by omega), M.1 j hj]; exact s7 _ _ (G3 i j hij hj) (G2 j hj).2.1
  · rw [M.1 i hi] at hle
    obtain ⟨q, hq, e⟩ := s8 _ j (G2 i hi).2.1 hj hle
    obtain ⟨r, hr, er⟩ := G4 q hq ⟨j, hj, e.symm⟩
    exact ⟨r, hr, by rw [M.1 r hr, er]; exact e⟩
  · rw [M.1 i hi]; exact (G2 i hi).2.2
theorem ms_pre (S : ms_Sees th nx ms nu vw s m c l) (B : ms_Box k gv th va nx hi ms nu sz fl ch m) (A : ∀ i, i < l → ∃ j, j < c ∧ nu (14 * m + j) = vw (14 * s + i)) : l ≤ c ∧ ∀ i, i < l → vw (14 * s + i) = nu (14 * m + i) := by
  obtain ⟨s1, s2, s3, s4, s5, s6, s7, s8⟩ := S
  obtain ⟨c', h1, h2, h3, h4, h5, h6, h7, h8, h9, h10⟩ := B
  obtain rfl : c' = c := ms_nIeq (h2.symm.trans s5) h1 s2
  have z := ms_head (A := fun i => (vw (14 * s + i)).toInt) (B := fun i => (nu (14 * m + i)).toInt) (l := l) (c := c') s7 h10
    (fun i hi => by obtain ⟨j, hj, e⟩ := A i hi; exact ⟨j, hj, congrArg Int32.toInt e⟩)
    (fun i j hi hj hle => by obtain ⟨q, hq, e⟩ := s8 i j hi hj hle; exact ⟨q, hq, congrArg Int32.toInt e⟩)
  exact ⟨z.1, fun i hi => Int32.toInt_inj.mp (z.2 i hi)⟩
theorem ms_init : ms_Inv 0 0 (fun _ => 0) (fun _ => 0) (fun _ => 0) (fun _ => 0) (fun _ => 0) (fun _ => 0) (fun _ => 0) (fun _ => 0) (fun _ => 0) (fun _ => -1) (fun _ => 0) (fun _ => 0) (fun _ => 0) :=
  ⟨by rw [ms_t0]; omega, by rw [ms_t0]; omega, fun m _ => ⟨0, by omega, rfl, Or.inl rfl, by rw [ms_t0]; omega, by rw [ms_t0]; omega, by rw [ms_t0]; omega, by rw [ms_t0]; omega, fun z => absurd (show (0 : Int32) = 1 from z) (by decide), fun i h => absurd h (Nat.not_lt_zero i), fun _ j _ h => absurd h (Nat.not_lt_zero j)⟩, fun s _ => Or.inl ⟨rfl, rfl⟩⟩
end
end
section
/-! flags, and small numbers -/
theorem ms_small {f : Int32} (h0 : 0 ≤ f.toInt) (h1 : f.toInt < 32) : ∃ n : Fin 32, f = nI n.val := by
  refine ⟨⟨f.toInt.toNat, by omega⟩, Int32.toInt_inj.mp ?_⟩
  show f.toInt = (nI f.toInt.toNat).toInt
  rw [nI_toInt (by omega)]
  omega
theorem ms_even0 : ∀ n : Fin 32, (nI n.val &&& 1 = 0) ↔ (nI n.val - nI n.val / 2 * 2 = 0) := by decide +kernel
theorem ms_or0 : ∀ a b : Fin 32, 0 ≤ (nI a.val ||| nI b.val).toInt ∧ (nI a.val ||| nI b.val).toInt < 32 := by decide +kernel
theorem ms_an0 : ∀ a b : Fin 32, 0 ≤ (nI a.val &&& (nI b.val ^^^ (-1))).toInt ∧ (nI a.val &&& (nI b.val ^^^ (-1))).toInt < 32 := by decide +kernel
theorem ms_even {f : Int32} (h0 : 0 ≤ f.toInt) (h1 : f.toInt < 32) : (f &&& 1 = 0) ↔ (f - f / 2 * 2 = 0) := by
  obtain ⟨n, rfl⟩ := ms_small h0 h1
  exact ms_even0 n
theorem ms_or {f g : Int32} (h0 : 0 ≤ f.toInt) (h1 : f.toInt < 32) (g0 : 0 ≤ g.toInt) (g1 : g.toInt < 32) : 0 ≤ (f ||| g).toInt ∧ (f ||| g).toInt < 32 := by
  obtain ⟨n, rfl⟩ := ms_small h0 h1
  obtain ⟨p, rfl⟩ := ms_small g0 g1
  exact ms_or0 n p
theorem ms_an {f g : Int32} (h0 : 0 ≤ f.toInt) (h1 : f.toInt < 32) (g0 : 0 ≤ g.toInt) (g1 : g.toInt < 32) : 0 ≤ (f &&& (g ^^^ (-1))).toInt ∧ (f &&& (g ^^^ (-1))).toInt < 32 := by
  obtain ⟨n, rfl⟩ := ms_small h0 h1
  obtain ⟨p, rfl⟩ := ms_small g0 g1
  exact ms_an0 n p
theorem ms_nIr {a : Nat} (h : a < 2 ^ 31) : 0 ≤ (nI a).toInt ∧ (nI a).toInt = (a : Int) := by
  rw [nI_toInt h]; omega
theorem ms_c4 (a : Nat) : nI a * 14 = nI (14 * a) := by
  have h := pk_mul a 14
  rw [Nat.mul_comm] at h
  exact h
theorem ms_c4' (a : Nat) : 14 * nI a = nI (14 * a) := pk_mul 14 a
theorem ms_ne1 {a : Nat} (h : a < 2 ^ 31) : ¬ nI a = -1 := by
  intro e
  have z := congrArg Int32.toInt e
  rw [nI_toInt h, show (-1 : Int32).toInt = -1 from by decide] at z
  omega
theorem ms_m1lt : (-1 : Int32) < 0 := by decide
theorem ms_nlt0 {a : Nat} (h : a < 2 ^ 31) : ¬ nI a < 0 := nI_pos h
end
section
/-! the relation; the small own methods of both sides -/
def i_Rel (k : Nat) (u : SX) (v : SY) : Prop :=
  ∃ (gv : Int32) (th va nx hi ms nu sz fl ch se vl vw ly : Nat → Int32), u = (gv, th, va, nx, hi, ms, nu, sz, fl, ch, se, vl, vw) ∧ v = (gv, th, va, nx, hi, ms, nu, sz, fl, ch, se, ly, vw) ∧ ms_Inv k gv th va nx hi ms nu sz fl ch se vl vw ly
theorem i_up {k : Nat} {u : SX} {v : SY} (h : i_Rel k u v) : i_Rel (k + 5) u v := by
  obtain ⟨gv, th, va, nx, hi, ms, nu, sz, fl, ch, se, vl, vw, ly, e1, e2, J⟩ := h
  exact ⟨gv, th, va, nx, hi, ms, nu, sz, fl, ch, se, vl, vw, ly, e1, e2, ms_up J⟩
theorem ms_vb0 : vp_nar .boolean 0 = 0 := by decide
theorem ms_vb1 : vp_nar .boolean 1 = 1 := by decide
theorem ms_n10 : ¬ (1 : Int32) = 0 := by decide
theorem ms_320 : ¬ (32 : Int32) = 0 := by decide
theorem ms_20 : ¬ (2 : Int32) = 0 := by decide
theorem ms_1_0 : ¬ (0 : Int32) ≤ -1 := by decide
theorem ms_2_0 : ¬ (0 : Int32) ≤ -2 := by decide
theorem ms_3_0 : ¬ (0 : Int32) ≤ -3 := by decide
theorem ms_4_0 : ¬ (0 : Int32) ≤ -4 := by decide
theorem ms_00 : (0 : Int32) ≤ 0 := by decide
theorem ms_updId {f : Nat → Int32} {j : Nat} {x : Int32} (h : f j = x) : upd f j x = f := by
  funext i
  by_cases e : i = j
  · subst e; rw [pk_us, h]
  · rw [pk_un e]
theorem ms_uu {f : Nat → Int32} {j : Nat} {x y : Int32} : upd (upd f j x) j y = upd f j y := by
  funext i
  by_cases e : i = j
  · subst e; rw [pk_us, pk_us]
  · rw [pk_un e, pk_un e, pk_un e]
theorem ms_arg (x : Int32) (n : Nat) (hn : n < 2 ^ 31) : (x < 0 ∨ nI n ≤ x) ∨ ∃ j : Nat, j < n ∧ x = nI j := by
  rcases pk_ix x hn with h | h | h
  · exact Or.inl (Or.inl h)
  · exact Or.inl (Or.inr h)
  · exact Or.inr h
theorem ms_not4 {x : Int32} (h : nI 4 ≤ x) : ¬ x ≤ 3 := by
  rw [Int32.le_iff_toInt_le] at h ⊢
  rw [nI_toInt (by omega)] at h
  rw [show (3 : Int32).toInt = 3 from by decide]
  omega
theorem ms_not3 {x : Int32} (h : nI 3 ≤ x) : ¬ x ≤ 2 := by
  rw [Int32.le_iff_toInt_le] at h ⊢
  rw [nI_toInt (by omega)] at h
  rw [show (2 : Int32).toInt = 2 from by decide]
  omega
theorem ms_not1024 {x : Int32} (h : nI 1024 ≤ x) : ¬ x ≤ 1023 := by
  rw [Int32.le_iff_toInt_le] at h ⊢
  rw [nI_toInt (by omega)] at h
  rw [show (1023 : Int32).toInt = 1023 from by decide]
  omega
section
variable {k : Nat} {gv : Int32} {th va nx hi ms nu sz fl ch se vl vw ly : Nat → Int32} {m s c l : Nat} {x : Int32} {post : Int32 → Prop}
theorem ms_rel (J : ms_Inv k gv th va nx hi ms nu sz fl ch se vl vw ly) : i_Rel k (gv, th, va, nx, hi, ms, nu, sz, fl, ch, se, vl, vw) (gv, th, va, nx, hi, ms, nu, sz, fl, ch, se, ly, vw) :=
  ⟨gv, th, va, nx, hi, ms, nu, sz, fl, ch, se, vl, vw, ly, rfl, rfl, J⟩
theorem ms_c (h : m < 4) : (nI m).toNatClampNeg = m := nI_clamp (by omega)
theorem ms_in4 (h : m < 4) : vp_in (nI m) 4 := vp_in_nI h (by omega)
theorem ms_in3 (h : s < 3) : vp_in (nI s) 3 := vp_in_nI h (by omega)
theorem ms_c3 (h : s < 3) : (nI s).toNatClampNeg = s := nI_clamp (by omega)
theorem xm_gm (h : m < 4) (p : post 1) : wpX_goodMailbox post (nI m) := br_f (nI_pos (by omega)) (br_f (nI_ge (b := 4) h (by decide)) p)
theorem xm_gmF (h : x < 0 ∨ nI 4 ≤ x) (p : post 0) : wpX_goodMailbox post x := ⟨fun _ => p, fun n => br_t (h.resolve_left n) p⟩
theorem xm_gs (h : s < 3) (p : post 1) : wpX_goodSession post (nI s) := br_f (nI_pos (by omega)) (br_f (nI_ge (b := 3) h (by decide)) p)
theorem xm_gsF (h : x < 0 ∨ nI 3 ≤ x) (p : post 0) : wpX_goodSession post x := ⟨fun _ => p, fun n => br_t (h.resolve_left n) p⟩
theorem xm_gp (h : c < 1024) (p : post 1) : wpX_goodPattern post (nI c) := br_f (nI_pos (by omega)) (br_f (nI_ge (b := 1024) h (by decide)) p)
theorem xm_gpF (h : x < 0 ∨ nI 1024 ≤ x) (p : post 0) : wpX_goodPattern post x := ⟨fun _ => p, fun n => br_t (h.resolve_left n) p⟩
theorem ym_bb (h : m < 4) (p : post 0) : wpY_badBox post (gv, th, va, nx, hi, ms, nu, sz, fl, ch, se, ly, vw) (nI m) := br_f (nI_pos (by omega)) (br_t (nI_le (b := 3) (by omega) (by decide)) p)
theorem ym_bbF (h : x < 0 ∨ nI 4 ≤ x) (p : post 1) : wpY_badBox post (gv, th, va, nx, hi, ms, nu, sz, fl, ch, se, ly, vw) x := ⟨fun _ => p, fun n => br_f (ms_not4 (h.resolve_left n)) p⟩
theorem ym_bs (h : s < 3) (p : post 0) : wpY_badSession post (gv, th, va, nx, hi, ms, nu, sz, fl, ch, se, ly, vw) (nI s) := br_f (nI_pos (by omega)) (br_t (nI_le (b := 2) (by omega) (by decide)) p)
theorem ym_bsF (h : x < 0 ∨ nI 3 ≤ x) (p : post 1) : wpY_badSession post (gv, th, va, nx, hi, ms, nu, sz, fl, ch, se, ly, vw) x := ⟨fun _ => p, fun n => br_f (ms_not3 (h.resolve_left n)) p⟩
theorem ym_nb (h : m < 4) (ht : ¬ th m = 0) (p : post 0) : wpY_noBox post (gv, th, va, nx, hi, ms, nu, sz, fl, ch, se, ly, vw) (nI m) := by
  unfold wpY_noBox
  dsimp only
  refine ym_bb h (br_t rfl ⟨ms_in4 h, br_f ?_ p⟩)
  rw [ms_c h]; exact ht
theorem ym_nb0 (h : m < 4) (ht : th m = 0) (p : post (-2)) : wpY_noBox post (gv, th, va, nx, hi, ms, nu, sz, fl, ch, se, ly, vw) (nI m) := by
  unfold wpY_noBox
  dsimp only
  refine ym_bb h (br_t rfl ⟨ms_in4 h, br_t ?_ p⟩)
  rw [ms_c h]; exact ht
theorem ym_nbF (h : x < 0 ∨ nI 4 ≤ x) (p : post (-1)) : wpY_noBox post (gv, th, va, nx, hi, ms, nu, sz, fl, ch, se, ly, vw) x := by
  unfold wpY_noBox
  dsimp only
  exact ym_bbF h (br_f ms_n10 p)
theorem ym_nv (h : s < 3) (hs : se s = nI m) (hm : m < 4) (p : post 0) : wpY_noView post (gv, th, va, nx, hi, ms, nu, sz, fl, ch, se, ly, vw) (nI s) := by
  unfold wpY_noView
  dsimp only
  refine ym_bs h (br_t rfl ⟨ms_in3 h, br_t ?_ p⟩)
  rw [ms_c3 h, hs]; exact nI_pos' (by omega)
theorem ym_nv0 (h : s < 3) (hs : se s = -1) (p : post (-2)) : wpY_noView post (gv, th, va, nx, hi, ms, nu, sz, fl, ch, se, ly, vw) (nI s) := by
  unfold wpY_noView
  dsimp only
  refine ym_bs h (br_t rfl ⟨ms_in3 h, br_f ?_ p⟩)
  rw [ms_c3 h, hs]; exact ms_1_0
theorem ym_nvF (h : x < 0 ∨ nI 3 ≤ x) (p : post (-1)) : wpY_noView post (gv, th, va, nx, hi, ms, nu, sz, fl, ch, se, ly, vw) x := by
  unfold wpY_noView
  dsimp only
  exact ym_bsF h (br_f ms_n10 p)
theorem ms_01 (J : ms_Inv k gv th va nx hi ms nu sz fl ch se vl vw ly) (hm : m < 4) : th m = 0 ∨ (th m = 1 ∧ ¬ th m = 0) := by
  obtain ⟨c, h1, h2, h3, h4⟩ := J.2.2.1 m hm
  rcases h3 with h | h
  · exact Or.inl h
  · exact Or.inr ⟨h, by rw [h]; exact ms_n10⟩
theorem ms_cnt (J : ms_Inv k gv th va nx hi ms nu sz fl ch se vl vw ly) (hm : m < 4) : ∃ c, c ≤ 14 ∧ ms m = nI c := by
  obtain ⟨c, h1, h2, h3⟩ := J.2.2.1 m hm
  exact ⟨c, h1, h2⟩
end
end
section
/-! the loops that only read, in lockstep -/
section
variable {k : Nat} {gv : Int32} {th va nx hi ms nu sz fl ch se vl vw ly : Nat → Int32} {m s c l i : Nat} {x : Int32}
theorem ms_e1 (m i : Nat) : nI m * 14 + nI i = nI (14 * m + i) := by rw [ms_c4, nI_add]
theorem ms_e2 (m i : Nat) : 14 * nI m + nI i = nI (14 * m + i) := by rw [ms_c4', nI_add]
theorem ms_e3 (s i : Nat) : nI s * 14 + nI (i + 1) - 1 = nI (14 * s + i) := by
  rw [ms_c4, nI_add]
  exact nI_pred (14 * s + i)
theorem ms_e4 (s i : Nat) : 14 * nI s + nI (i + 1) - 1 = nI (14 * s + i) := by
  rw [ms_c4', nI_add]
  exact nI_pred (14 * s + i)
theorem ms_k (h : i < 56) : (nI i).toNatClampNeg = i := nI_clamp (by omega)
theorem ms_i56 (h : i < 56) : vp_in (nI i) 56 := vp_in_nI h (by omega)
theorem ms_i42 (h : i < 42) : vp_in (nI i) 42 := vp_in_nI h (by omega)
/-- what a look for the number x in a mailbox of c messages at b gives -/
def ms_Fd (nu : Nat → Int32) (b c : Nat) (x r : Int32) : Prop :=
  (r = -1 ∧ ∀ i, i < c → ¬ nu (b + i) = x) ∨ ∃ i, i < c ∧ nu (b + i) = x ∧ r = nI (b + i)
theorem xm_cellL (hm : m < 4) (hc : ms m = nI c) (hc14 : c ≤ 14) (x : Int32) : ∀ d i : Nat, i + d = c → (∀ j, j < i → ¬ nu (14 * m + j) = x) → ∃ r : Int32, ms_Fd nu (14 * m) c x r ∧ (∀ post : Int32 → Prop, post r → wX_cellOf_2 post (nI m) x gv th va nx hi ms nu sz fl ch se vl vw (d + 1) (nI i)) ∧ (∀ post : Int32 → Prop, post r → wY_find_5 post (nI m) x gv th va nx hi ms nu sz fl ch se ly vw (d + 1) (nI (14 * m + i))) := by
  intro d
  induction d with
  | zero =>
    intro i hi hn
    refine ⟨-1, Or.inl ⟨rfl, fun j hj => hn j (by omega)⟩, fun post hp => ?_, fun post hp => ?_⟩
    · rw [wX_cellOf_2]; dsimp only; rw [ms_c hm, hc]
      exact ⟨ms_in4 hm, br_t (nI_le (by omega) (by omega)) hp⟩
    · rw [wY_find_5]; dsimp only; rw [ms_c hm, hc, ms_e2]
      exact ⟨ms_in4 hm, br_t (nI_le (by omega) (by omega)) hp⟩
  | succ d ih =>
    intro i hi hn
    by_cases e : nu (14 * m + i) = x
    · refine ⟨nI (14 * m + i), Or.inr ⟨i, by omega, e, rfl⟩, fun post hp => ?_, fun post hp => ?_⟩
      · rw [wX_cellOf_2]; dsimp only; rw [ms_c hm, hc, ms_e1, ms_k (by omega)]
        exact ⟨ms_in4 hm, br_f (nI_ge (by omega) (by omega)) ⟨ms_i56 (by omega), br_t e hp⟩⟩
      · rw [wY_find_5]; dsimp only; rw [ms_c hm, hc, ms_e2, ms_k (i := 14 * m + i) (by omega)]
        exact ⟨ms_in4 hm, br_f (nI_ge (by omega) (by omega)) ⟨ms_i56 (by omega), br_t e hp⟩⟩
    · obtain ⟨r, hr, hX, hY⟩ := ih (i + 1) (by omega) (lt_s hn e)
      refine ⟨r, hr, fun post hp => ?_, fun post hp => ?_⟩
      · rw [wX_cellOf_2]; dsimp only; rw [ms_c hm, hc, ms_e1, ms_k (by omega)]
        exact ⟨ms_in4 hm, br_f (nI_ge (by omega) (by omega)) ⟨ms_i56 (by omega), br_f e (nm_r (nI_1 i) (hX post hp))⟩⟩
      · rw [wY_find_5]; dsimp only; rw [ms_c hm, hc, ms_e2, ms_k (i := 14 * m + i) (by omega)]
        exact ⟨ms_in4 hm, br_f (nI_ge (by omega) (by omega)) ⟨ms_i56 (by omega), br_f e (nm_r (nI_1 (14 * m + i)) (hY post hp))⟩⟩
theorem xm_cell (gv : Int32) (th va nx hi sz fl ch se vl vw ly : Nat → Int32) (hm : m < 4) (hc : ms m = nI c) (hc14 : c ≤ 14) (x : Int32) : ∃ r : Int32, ms_Fd nu (14 * m) c x r ∧ (∀ post : Int32 → Prop, post r → wpX_cellOf post (gv, th, va, nx, hi, ms, nu, sz, fl, ch, se, vl, vw) (nI m) x) ∧ (∀ post : Int32 → Prop, post r → wpY_find post (gv, th, va, nx, hi, ms, nu, sz, fl, ch, se, ly, vw) (nI m) x) := by
  obtain ⟨r, hr, hX, hY⟩ := xm_cellL (gv := gv) (th := th) (va := va) (nx := nx) (hi := hi) (nu := nu) (sz := sz) (fl := fl) (ch := ch) (se := se) (vl := vl) (vw := vw) (ly := ly) hm hc hc14 x c 0 (by omega) lt_0
  refine ⟨r, hr, fun post hp => ⟨c + 1, hX post hp⟩, fun post hp => ?_⟩
  unfold wpY_find
  dsimp only
  exact nm_r (ms_c4' m) ⟨c + 1, hY post hp⟩
theorem xm_matT {post : Int32 → Prop} {f code : Int32} (e : (f &&& (code / 32)) = ((code - code / 32 * 32) &&& (code / 32))) (p : post 1) : wpX_matches post f code := ⟨ms_320, nm_e ⟨ms_320, nm_e (br_t e p)⟩⟩
theorem xm_matF {post : Int32 → Prop} {f code : Int32} (e : ¬ (f &&& (code / 32)) = ((code - code / 32 * 32) &&& (code / 32))) (p : post 0) : wpX_matches post f code := ⟨ms_320, nm_e ⟨ms_320, nm_e (br_f e p)⟩⟩
theorem ym_hasT {post : Int32 → Prop} {f a b : Int32} (e : (f &&& a) = (b &&& a)) (p : post 1) : wpY_has post (gv, th, va, nx, hi, ms, nu, sz, fl, ch, se, ly, vw) f a b := br_t e p
theorem ym_hasF {post : Int32 → Prop} {f a b : Int32} (e : ¬ (f &&& a) = (b &&& a)) (p : post 0) : wpY_has post (gv, th, va, nx, hi, ms, nu, sz, fl, ch, se, ly, vw) f a b := br_f e p
theorem xm_count (hm : m < 4) (hc : ms m = nI c) (hc14 : c ≤ 14) (code : Int32) : ∀ (d i : Nat) (r : Int32), i + d = c → ∃ q : Int32, (∀ post : Int32 → Prop, post q → wX_counting_33 post (nI m) code gv th va nx hi ms nu sz fl ch se vl vw (d + 1) r (nI i)) ∧ (∀ post : Int32 → Prop, post q → wY_counting_41 post (nI m) code gv th va nx hi ms nu sz fl ch se ly vw (d + 1) r (nI (14 * m + i))) := by
  intro d
  induction d with
  | zero =>
    intro i r hi
    refine ⟨r, fun post hp => ?_, fun post hp => ?_⟩
    · rw [wX_counting_33]; dsimp only; rw [ms_c hm, hc]
      exact ⟨ms_in4 hm, br_t (nI_le (by omega) (by omega)) hp⟩
    · rw [wY_counting_41]; dsimp only; rw [ms_c hm, hc, ms_e2]
      exact ⟨ms_in4 hm, br_t (nI_le (by omega) (by omega)) hp⟩
  | succ d ih =>
    intro i r hi
    by_cases e : (fl (14 * m + i) &&& (code / 32)) = ((code - code / 32 * 32) &&& (code / 32))
    · obtain ⟨q, hX, hY⟩ := ih (i + 1) (r + 1) (by omega)
      refine ⟨q, fun post hp => ?_, fun post hp => ?_⟩
      · rw [wX_counting_33]; dsimp only; rw [ms_c hm, hc, ms_e1, ms_k (by omega)]
        exact ⟨ms_in4 hm, br_f (nI_ge (by omega) (by omega)) ⟨ms_i56 (by omega), xm_matT e (br_f ms_n10 (nm_e (nm_r (nI_1 i) (hX post hp))))⟩⟩
      · rw [wY_counting_41]; dsimp only; rw [ms_c hm, hc, ms_e2, ms_k (i := 14 * m + i) (by omega)]
        exact ⟨ms_in4 hm, br_f (nI_ge (by omega) (by omega)) ⟨ms_i56 (by omega), ms_320, ms_320, ym_hasT e (br_f ms_n10 (nm_e (nm_r (nI_1 (14 * m + i)) (hY post hp))))⟩⟩
    · obtain ⟨q, hX, hY⟩ := ih (i + 1) r (by omega)
      refine ⟨q, fun post hp => ?_, fun post hp => ?_⟩
      · rw [wX_counting_33]; dsimp only; rw [ms_c hm, hc, ms_e1, ms_k (by omega)]
        exact ⟨ms_in4 hm, br_f (nI_ge (by omega) (by omega)) ⟨ms_i56 (by omega), xm_matF e (br_t rfl (nm_r (nI_1 i) (hX post hp)))⟩⟩
      · rw [wY_counting_41]; dsimp only; rw [ms_c hm, hc, ms_e2, ms_k (i := 14 * m + i) (by omega)]
        exact ⟨ms_in4 hm, br_f (nI_ge (by omega) (by omega)) ⟨ms_i56 (by omega), ms_320, ms_320, ym_hasF e (br_t rfl (nm_r (nI_1 (14 * m + i)) (hY post hp)))⟩⟩
theorem xm_since (hm : m < 4) (hc : ms m = nI c) (hc14 : c ≤ 14) (a b : Int32) : ∀ (d i : Nat), i + d = c → ∃ q : Int32, (∀ post : Int32 → Prop, post q → wX_changedSince_24 post (nI m) a b gv th va nx hi ms nu sz fl ch se vl vw (d + 1) (nI i)) ∧ (∀ post : Int32 → Prop, post q → wY_changedSince_20 post (nI m) a b gv th va nx hi ms nu sz fl ch se ly vw (d + 1) (nI (14 * m + i))) := by
  intro d
  induction d with
  | zero =>
    intro i hi
    refine ⟨-2, fun post hp => ?_, fun post hp => ?_⟩
    · rw [wX_changedSince_24]; dsimp only; rw [ms_c hm, hc]
      exact ⟨ms_in4 hm, br_t (nI_le (by omega) (by omega)) hp⟩
    · rw [wY_changedSince_20]; dsimp only; rw [ms_c hm, hc, ms_e2]
      exact ⟨ms_in4 hm, br_t (nI_le (by omega) (by omega)) hp⟩
  | succ d ih =>
    intro i hi
    have hk := ms_k (i := 14 * m + i) (by omega)
    have hin := ms_i56 (i := 14 * m + i) (by omega)
    obtain ⟨q, hX, hY⟩ := ih (i + 1) (by omega)
    by_cases e1 : nu (14 * m + i) ≤ b
    · refine ⟨q, fun post hp => ?_, fun post hp => ?_⟩
      · rw [wX_changedSince_24]; dsimp only; rw [ms_c hm, hc]
        refine ⟨ms_in4 hm, br_f (nI_ge (by omega) (by omega)) (nm_r (ms_e1 m i) ?_)⟩
        rw [hk]
        exact ⟨hin, br_t e1 (nm_r (nI_1 i) (hX post hp))⟩
      · rw [wY_changedSince_20]; dsimp only; rw [ms_c hm, hc, ms_e2, hk]
        exact ⟨ms_in4 hm, br_f (nI_ge (by omega) (by omega)) ⟨hin, br_c (fun _ => nm_r (nI_1 (14 * m + i)) (hY post hp)) (fun _ => ⟨hin, br_t e1 (nm_r (nI_1 (14 * m + i)) (hY post hp))⟩)⟩⟩
    · by_cases e2 : ch (14 * m + i) ≤ a
      · refine ⟨q, fun post hp => ?_, fun post hp => ?_⟩
        · rw [wX_changedSince_24]; dsimp only; rw [ms_c hm, hc]
          refine ⟨ms_in4 hm, br_f (nI_ge (by omega) (by omega)) (nm_r (ms_e1 m i) ?_)⟩
          rw [hk]
          exact ⟨hin, br_f e1 ⟨hin, br_t e2 (nm_r (nI_1 i) (hX post hp))⟩⟩
        · rw [wY_changedSince_20]; dsimp only; rw [ms_c hm, hc, ms_e2, hk]
          exact ⟨ms_in4 hm, br_f (nI_ge (by omega) (by omega)) ⟨hin, br_t e2 (nm_r (nI_1 (14 * m + i)) (hY post hp))⟩⟩
      · refine ⟨nu (14 * m + i), fun post hp => ?_, fun post hp => ?_⟩
        · rw [wX_changedSince_24]; dsimp only; rw [ms_c hm, hc]
          refine ⟨ms_in4 hm, br_f (nI_ge (by omega) (by omega)) (nm_r (ms_e1 m i) ?_)⟩
          rw [hk]
          exact ⟨hin, br_f e1 ⟨hin, br_f e2 ⟨hin, hp⟩⟩⟩
        · rw [wY_changedSince_20]; dsimp only; rw [ms_c hm, hc, ms_e2, hk]
          exact ⟨ms_in4 hm, br_f (nI_ge (by omega) (by omega)) ⟨hin, br_f e2 ⟨hin, br_f e1 ⟨hin, hp⟩⟩⟩⟩
theorem xm_place (hs : s < 3) (hv : vl s = nI l) (hy : ly s = nI l) (hl : l ≤ 14) (x : Int32) : ∀ (d i : Nat), i + d = l → ∃ q : Int32, (∀ post : Int32 → Prop, post q → wX_placeOf_11 post (nI s) x gv th va nx hi ms nu sz fl ch se vl vw (d + 1) (nI (i + 1))) ∧ (∀ post : Int32 → Prop, post q → wY_placeOf_16 post (nI s) x gv th va nx hi ms nu sz fl ch se ly vw (d + 1) (nI i)) := by
  intro d
  induction d with
  | zero =>
    intro i hi
    refine ⟨-2, fun post hp => ?_, fun post hp => ?_⟩
    · rw [wX_placeOf_11]; dsimp only; rw [ms_c3 hs, hv]
      exact ⟨ms_in3 hs, br_t (nI_lt (by omega) (by omega)) hp⟩
    · rw [wY_placeOf_16]; dsimp only; rw [ms_c3 hs, hy]
      exact ⟨ms_in3 hs, br_t (nI_le (by omega) (by omega)) hp⟩
  | succ d ih =>
    intro i hi
    have hk := ms_k (i := 14 * s + i) (by omega)
    have hin := ms_i42 (i := 14 * s + i) (by omega)
    by_cases e : vw (14 * s + i) = x
    · refine ⟨nI (i + 1), fun post hp => ?_, fun post hp => ?_⟩
      · rw [wX_placeOf_11]; unfold wpX_viewCell; dsimp only; rw [ms_c3 hs, hv, ms_e3, hk]
        exact ⟨ms_in3 hs, br_f (nI_nlt (by omega) (by omega)) ⟨hin, br_t e hp⟩⟩
      · rw [wY_placeOf_16]; dsimp only; rw [ms_c3 hs, hy, ms_e2, hk]
        refine ⟨ms_in3 hs, br_f (nI_ge (by omega) (by omega)) ⟨hin, br_t e ?_⟩⟩
        rw [nI_1]; exact hp
    · obtain ⟨q, hX, hY⟩ := ih (i + 1) (by omega)
      refine ⟨q, fun post hp => ?_, fun post hp => ?_⟩
      · rw [wX_placeOf_11]; unfold wpX_viewCell; dsimp only; rw [ms_c3 hs, hv, ms_e3, hk]
        exact ⟨ms_in3 hs, br_f (nI_nlt (by omega) (by omega)) ⟨hin, br_f e (nm_r (nI_1 (i + 1)) (hX post hp))⟩⟩
      · rw [wY_placeOf_16]; dsimp only; rw [ms_c3 hs, hy, ms_e2, hk]
        exact ⟨ms_in3 hs, br_f (nI_ge (by omega) (by omega)) ⟨hin, br_f e (nm_r (nI_1 i) (hY post hp))⟩⟩
end
end
section
/-! the message at a place, and the search -/
section
variable {k : Nat} {gv : Int32} {th va nx hi ms nu sz fl ch se vl vw ly : Nat → Int32} {m s c l i : Nat} {x : Int32}
theorem xm_at (va hi sz fl ch : Nat → Int32) (gv : Int32) (hs : s < 3) (S : ms_Sees th nx ms nu vw s m c l) (hse : se s = nI m) (vl : Nat → Int32) (hy : ly s = nI l) (hi' : i < l) : ((∀ post : Int32 → Prop, post (-1) → wpX_cellAt post (gv, th, va, nx, hi, ms, nu, sz, fl, ch, se, vl, vw) (nI s) (nI (i + 1))) ∧ (∀ post : Int32 → Prop, post (-4) → wpY_messageAt post (gv, th, va, nx, hi, ms, nu, sz, fl, ch, se, ly, vw) (nI s) (nI (i + 1)))) ∨ ∃ j, j < c ∧ (∀ post : Int32 → Prop, post (nI (14 * m + j)) → wpX_cellAt post (gv, th, va, nx, hi, ms, nu, sz, fl, ch, se, vl, vw) (nI s) (nI (i + 1))) ∧ (∀ post : Int32 → Prop, post (nI (14 * m + j)) → wpY_messageAt post (gv, th, va, nx, hi, ms, nu, sz, fl, ch, se, ly, vw) (nI s) (nI (i + 1))) := by
  have hm := S.1
  have hc := S.2.2.2.2.1
  have hc14 := S.2.1
  have hl := S.2.2.1
  have hk := ms_k (i := 14 * s + i) (by omega)
  have hin := ms_i42 (i := 14 * s + i) (by omega)
  have h0 : 0 ≤ vw (14 * s + i) := by
    have z := (S.2.2.2.2.2.1 i hi').1
    rw [Int32.le_iff_toInt_le, ms_t0]
    omega
  obtain ⟨r, hr, hX, hY⟩ := xm_cell (nu := nu) gv th va nx hi sz fl ch se vl vw ly hm hc hc14 (vw (14 * s + i))
  have X : ∀ post : Int32 → Prop, post r → wpX_cellAt post (gv, th, va, nx, hi, ms, nu, sz, fl, ch, se, vl, vw) (nI s) (nI (i + 1)) := by
    intro post hp
    unfold wpX_cellAt wpX_viewCell
    dsimp only
    rw [ms_e3, hk, ms_c3 hs, hse]
    exact ⟨hin, nm_e ⟨ms_in3 hs, hX _ hp⟩⟩
  have Y : ∀ post : Int32 → Prop, ((0 ≤ r → post r) ∧ (¬ 0 ≤ r → post (-4))) → wpY_messageAt post (gv, th, va, nx, hi, ms, nu, sz, fl, ch, se, ly, vw) (nI s) (nI (i + 1)) := by
    intro post hp
    unfold wpY_messageAt wpY_numberAt
    dsimp only
    rw [ms_e4, hk, ms_c3 hs, hse, hy]
    exact ym_nv hs hse hm (br_t ms_00 (br_f (nI_nlt (b := 1) (by omega) (by omega)) ⟨ms_in3 hs, br_t (nI_le (by omega) (by omega)) ⟨hin, br_t h0 ⟨ms_in3 hs, hY _ hp⟩⟩⟩))
  rcases hr with ⟨e, _⟩ | ⟨j, hj, _, e⟩
  · subst e
    exact Or.inl ⟨X, fun post hp => Y post (br_f ms_1_0 hp)⟩
  · subst e
    exact Or.inr ⟨j, hj, X, fun post hp => Y post (br_t (nI_pos' (by omega)) hp)⟩
theorem ms_4lt : (-4 : Int32) < 0 := by decide
theorem xm_search (hs : s < 3) (S : ms_Sees th nx ms nu vw s m c l) (hse : se s = nI m) (hv : vl s = nI l) (hy : ly s = nI l) (code size after : Int32) : ∀ (d i : Nat), i + d = l → ∃ q : Int32, (∀ post : Int32 → Prop, post q → wX_search_19 post (nI s) code size after gv th va nx hi ms nu sz fl ch se vl vw (d + 1) (nI (i + 1))) ∧ (∀ post : Int32 → Prop, post q → wY_search_36 post (nI s) code size after gv th va nx hi ms nu sz fl ch se ly vw (d + 1) (nI (i + 1))) := by
  have hm := S.1
  have hc14 := S.2.1
  have hl := S.2.2.1
  intro d
  induction d with
  | zero =>
    intro i hi'
    refine ⟨-2, fun post hp => ?_, fun post hp => ?_⟩
    · rw [wX_search_19]; dsimp only; rw [ms_c3 hs, hv]
      exact ⟨ms_in3 hs, br_t (nI_lt (by omega) (by omega)) hp⟩
    · rw [wY_search_36]; dsimp only; rw [ms_c3 hs, hy]
      exact ⟨ms_in3 hs, br_t (nI_lt (by omega) (by omega)) hp⟩
  | succ d ih =>
    intro i hi'
    obtain ⟨q, hX, hY⟩ := ih (i + 1) (by omega)
    have hlt : ¬ nI l < nI (i + 1) := nI_nlt (by omega) (by omega)
    have at' := xm_at va hi sz fl ch gv hs S hse vl hy (i := i) (by omega)
    by_cases e0 : nI (i + 1) ≤ after
    · refine ⟨q, fun post hp => ?_, fun post hp => ?_⟩
      · rw [wX_search_19]; dsimp only; rw [ms_c3 hs, hv]
        exact ⟨ms_in3 hs, br_f hlt (br_t e0 (nm_r (nI_1 (i + 1)) (hX post hp)))⟩
      · rw [wY_search_36]; dsimp only; rw [ms_c3 hs, hy]
        refine ⟨ms_in3 hs, br_f hlt ?_⟩
        rcases at' with ⟨_, aY⟩ | ⟨j, hj, _, aY⟩
        · exact aY _ (br_t e0 (nm_r (nI_1 (i + 1)) (hY post hp)))
        · exact aY _ (br_t e0 (nm_r (nI_1 (i + 1)) (hY post hp)))
    · rcases at' with ⟨aX, aY⟩ | ⟨j, hj, aX, aY⟩
      · refine ⟨q, fun post hp => ?_, fun post hp => ?_⟩
        · rw [wX_search_19]; unfold wpX_isSought; dsimp only; rw [ms_c3 hs, hv]
          exact ⟨ms_in3 hs, br_f hlt (br_f e0 (aX _ (br_t rfl (br_t rfl (nm_r (nI_1 (i + 1)) (hX post hp))))))⟩
        · rw [wY_search_36]; dsimp only; rw [ms_c3 hs, hy]
          exact ⟨ms_in3 hs, br_f hlt (aY _ (br_f e0 (br_t ms_4lt (nm_r (nI_1 (i + 1)) (hY post hp)))))⟩
      · have hk := ms_k (i := 14 * m + j) (by omega)
        have hin := ms_i56 (i := 14 * m + j) (by omega)
        have n1 : ¬ nI (14 * m + j) = -1 := ms_ne1 (by omega)
        have n0 : ¬ nI (14 * m + j) < 0 := nI_pos (by omega)
        by_cases e1 : sz (14 * m + j) < size
        · refine ⟨q, fun post hp => ?_, fun post hp => ?_⟩
          · rw [wX_search_19]; unfold wpX_isSought; dsimp only; rw [ms_c3 hs, hv]
            refine ⟨ms_in3 hs, br_f hlt (br_f e0 (aX _ ?_))⟩
            rw [hk]
            exact br_f n1 ⟨hin, br_t e1 (br_t rfl (nm_r (nI_1 (i + 1)) (hX post hp)))⟩
          · rw [wY_search_36]; dsimp only; rw [ms_c3 hs, hy]
            refine ⟨ms_in3 hs, br_f hlt (aY _ ?_)⟩
            rw [hk]
            refine br_f e0 (br_f n0 ⟨hin, ms_320, ms_320, ?_⟩)
            by_cases e2 : (fl (14 * m + j) &&& (code / 32)) = ((code - code / 32 * 32) &&& (code / 32))
            · exact ym_hasT e2 (br_f ms_n10 ⟨hin, br_t e1 (nm_r (nI_1 (i + 1)) (hY post hp))⟩)
            · exact ym_hasF e2 (br_t rfl (nm_r (nI_1 (i + 1)) (hY post hp)))
        · by_cases e2 : (fl (14 * m + j) &&& (code / 32)) = ((code - code / 32 * 32) &&& (code / 32))
          · refine ⟨nI (i + 1), fun post hp => ?_, fun post hp => ?_⟩
            · rw [wX_search_19]; unfold wpX_isSought; dsimp only; rw [ms_c3 hs, hv]
              refine ⟨ms_in3 hs, br_f hlt (br_f e0 (aX _ ?_))⟩
              rw [hk]
              exact br_f n1 ⟨hin, br_f e1 ⟨hin, xm_matT e2 (br_f ms_n10 (br_f ms_n10 hp))⟩⟩
            · rw [wY_search_36]; dsimp only; rw [ms_c3 hs, hy]
              refine ⟨ms_in3 hs, br_f hlt (aY _ ?_)⟩
              rw [hk]
              exact br_f e0 (br_f n0 ⟨hin, ms_320, ms_320, ym_hasT e2 (br_f ms_n10 ⟨hin, br_f e1 hp⟩)⟩)
          · refine ⟨q, fun post hp => ?_, fun post hp => ?_⟩
            · rw [wX_search_19]; unfold wpX_isSought; dsimp only; rw [ms_c3 hs, hv]
              refine ⟨ms_in3 hs, br_f hlt (br_f e0 (aX _ ?_))⟩
              rw [hk]
              exact br_f n1 ⟨hin, br_f e1 ⟨hin, xm_matF e2 (br_t rfl (br_t rfl (nm_r (nI_1 (i + 1)) (hX post hp))))⟩⟩
            · rw [wY_search_36]; dsimp only; rw [ms_c3 hs, hy]
              refine ⟨ms_in3 hs, br_f hlt (aY _ ?_)⟩
              rw [hk]
              exact br_f e0 (br_f n0 ⟨hin, ms_320, ms_320, ym_hasF e2 (br_t rfl (nm_r (nI_1 (i + 1)) (hY post hp)))⟩)
end
end
section
/-! the view is filled; what has gone is dropped from it -/
section
variable {k : Nat} {gv : Int32} {th va nx hi ms nu sz fl ch se vl vw ly : Nat → Int32} {m s c l i b x q : Nat} {x3 : Int32}
def ms_cp (vw nu : Nat → Int32) (s m c : Nat) : Nat → Int32 := fun x => if 14 * s ≤ x ∧ x < 14 * s + c then nu (14 * m + (x - 14 * s)) else vw x
theorem ms_cp_in (h : q < c) : ms_cp vw nu s m c (14 * s + q) = nu (14 * m + q) := by
  unfold ms_cp
  rw [if_pos (by omega), show 14 * s + q - 14 * s = q by omega]
theorem ms_cp_out (h : x < 14 * s ∨ 14 * s + c ≤ x) : ms_cp vw nu s m c x = vw x := if_neg (by omega)
theorem ms_cp_pre (h : ∀ q, q < l → vw (14 * s + q) = nu (14 * m + q)) : ms_cp vw nu s m l = vw := by
  funext x
  by_cases e : 14 * s ≤ x ∧ x < 14 * s + l
  · obtain ⟨q, rfl⟩ : ∃ q, x = 14 * s + q := ⟨x - 14 * s, by omega⟩
    rw [ms_cp_in (by omega), h q (by omega)]
  · exact if_neg e
theorem ms_cp_s : upd (ms_cp vw nu s m i) (14 * s + i) (nu (14 * m + i)) = ms_cp vw nu s m (i + 1) := by
  funext x
  by_cases e : x = 14 * s + i
  · subst e; rw [pk_us, ms_cp_in (by omega)]
  · rw [pk_un e]
    unfold ms_cp
    by_cases e2 : 14 * s ≤ x ∧ x < 14 * s + i
    · rw [if_pos e2, if_pos (by omega)]
    · rw [if_neg e2, if_neg (by omega)]
theorem xm_viewL {post : SX → Prop} (hs : s < 3) (hm : m < 4) (hc : ms m = nI c) (hc14 : c ≤ 14) (hp : post (gv, th, va, nx, hi, ms, nu, sz, fl, ch, se, upd vl s (nI c), ms_cp vw nu s m c)) : ∀ d i : Nat, i + d = c → wX_viewAllMessages_9 post (nI s) (nI m) gv (d + 1) (nI i) th va nx hi ms nu sz fl ch se vl (ms_cp vw nu s m i) := by
  intro d
  induction d with
  | zero =>
    intro i hi'
    obtain rfl : i = c := by omega
    rw [wX_viewAllMessages_9]; dsimp only; rw [ms_c hm, hc, ms_c3 hs]
    exact ⟨ms_in4 hm, br_t (nI_le (by omega) (by omega)) ⟨ms_in4 hm, ms_in3 hs, nm_e hp⟩⟩
  | succ d ih =>
    intro i hi'
    rw [wX_viewAllMessages_9]; dsimp only; rw [ms_c hm, hc, ms_e1 m i, ms_e1 s i, ms_k (i := 14 * m + i) (by omega), ms_k (i := 14 * s + i) (by omega)]
    exact ⟨ms_in4 hm, br_f (nI_ge (by omega) (by omega)) ⟨ms_i56 (by omega), ms_i42 (by omega), nm_r ms_cp_s (nm_r (nI_1 i) (ih (i + 1) (by omega)))⟩⟩
theorem xm_view {post : SX → Prop} (hs : s < 3) (hm : m < 4) (hc : ms m = nI c) (hc14 : c ≤ 14) (hse : se s = nI m) (hp : post (gv, th, va, nx, hi, ms, nu, sz, fl, ch, se, upd vl s (nI c), ms_cp vw nu s m c)) : wpX_viewAllMessages post (gv, th, va, nx, hi, ms, nu, sz, fl, ch, se, vl, vw) (nI s) := by
  unfold wpX_viewAllMessages
  dsimp only
  rw [ms_c3 hs, hse]
  refine ⟨ms_in3 hs, nm_e ⟨c + 1, ?_⟩⟩
  have e : ms_cp vw nu s m 0 = vw := ms_cp_pre (fun q h => absurd h (Nat.not_lt_zero q))
  have z := xm_viewL hs hm hc hc14 hp c 0 (by omega)
  rw [e] at z
  exact z
theorem ym_fin1 {post : Int32 → SY → Prop} {J : Int32 → (Nat → Int32) → (Nat → Int32) → (Nat → Int32) → (Nat → Int32) → (Nat → Int32) → (Nat → Int32) → (Nat → Int32) → (Nat → Int32) → (Nat → Int32) → (Nat → Int32) → (Nat → Int32) → (Nat → Int32) → Prop} (hs : s < 3) (hy : ly s = nI l) (hl : l ≤ 14) (hp : J (nI (b + 1)) th va nx hi ms nu sz fl ch se ly vw) : ∀ d i : Nat, i + d = l → wY_fill_42 post J (nI s) (nI m) x3 (nI b) gv th va nx hi ms nu sz fl ch se ly vw (d + 1) 1 (nI i) := by
  intro d
  induction d with
  | zero =>
    intro i hi'
    rw [wY_fill_42]; dsimp only; rw [ms_c3 hs, hy]
    exact ⟨ms_in3 hs, br_t (nI_le (by omega) (by omega)) (br_f ms_n10 (nm_r (nI_1 b) hp))⟩
  | succ d ih =>
    intro i hi'
    rw [wY_fill_42]; dsimp only; rw [ms_c3 hs, hy]
    exact ⟨ms_in3 hs, br_f (nI_ge (by omega) (by omega)) (br_f ms_n10 (nm_r (nI_1 i) (ih (i + 1) (by omega))))⟩
theorem ym_fin0 {post : Int32 → SY → Prop} {J : Int32 → (Nat → Int32) → (Nat → Int32) → (Nat → Int32) → (Nat → Int32) → (Nat → Int32) → (Nat → Int32) → (Nat → Int32) → (Nat → Int32) → (Nat → Int32) → (Nat → Int32) → (Nat → Int32) → (Nat → Int32) → Prop} (hs : s < 3) (hy : ly s = nI l) (hl : l ≤ 14) (hb : b < 56) (hT : (∃ q, q < l ∧ vw (14 * s + q) = nu b) → J (nI (b + 1)) th va nx hi ms nu sz fl ch se ly vw) (hF : (∀ q, q < l → ¬ vw (14 * s + q) = nu b) → l < 14 ∧ J (nI (b + 1)) th va nx hi ms nu sz fl ch se (upd ly s (nI (l + 1))) (upd vw (14 * s + l) (nu b))) : ∀ d i : Nat, i + d = l → (∀ q, q < i → ¬ vw (14 * s + q) = nu b) → wY_fill_42 post J (nI s) (nI m) x3 (nI b) gv th va nx hi ms nu sz fl ch se ly vw (d + 1) 0 (nI i) := by
  intro d
  induction d with
  | zero =>
    intro i hi' hn
    obtain rfl : i = l := by omega
    obtain ⟨h14, hJ⟩ := hF hn
    rw [wY_fill_42]; dsimp only; rw [ms_c3 hs, hy, ms_e2 s i, ms_k (i := 14 * s + i) (by omega), ms_k (i := b) hb, nI_1 i]
    exact ⟨ms_in3 hs, br_t (nI_le (by omega) (by omega)) (br_t rfl ⟨ms_in3 hs, ms_i56 hb, ms_i42 (by omega), nm_e ⟨ms_in3 hs, ms_in3 hs, nm_e (nm_r (nI_1 b) hJ)⟩⟩)⟩
  | succ d ih =>
    intro i hi' hn
    rw [wY_fill_42]; dsimp only; rw [ms_c3 hs, hy, ms_e2 s i, ms_k (i := 14 * s + i) (by omega), ms_k (i := b) hb]
    refine ⟨ms_in3 hs, br_f (nI_ge (by omega) (by omega)) (br_t rfl ⟨ms_i42 (by omega), ms_i56 hb, ?_⟩)⟩
    by_cases e : vw (14 * s + i) = nu b
    · exact br_t e (nm_r (nI_1 i) (ym_fin1 hs hy hl (hT ⟨i, by omega, e⟩) d (i + 1) (by omega)))
    · exact br_f e (nm_r (nI_1 i) (ih (i + 1) (by omega) (lt_s hn e)))
theorem ym_fill2 {post : Int32 → SY → Prop} (hs : s < 3) (hm : m < 4) (hc : ms m = nI c) (hc14 : c ≤ 14) (hd : ∀ i j, i < j → j < c → ¬ nu (14 * m + i) = nu (14 * m + j)) (hp : post (nI c - x3) (gv, th, va, nx, hi, ms, nu, sz, fl, ch, se, upd ly s (nI c), ms_cp vw nu s m c)) : ∀ d j : Nat, j + d = c → wY_fill_20 post (nI s) (nI m) x3 gv (d + 1) (nI (14 * m + j)) th va nx hi ms nu sz fl ch se (upd ly s (nI j)) (ms_cp vw nu s m j) := by
  intro d
  induction d with
  | zero =>
    intro j hj
    obtain rfl : j = c := by omega
    rw [wY_fill_20]; dsimp only; rw [ms_c hm, hc, ms_e2, ms_c3 hs, pk_us]
    exact ⟨ms_in4 hm, br_t (nI_le (by omega) (by omega)) ⟨ms_in3 hs, hp⟩⟩
  | succ d ih =>
    intro j hj
    rw [wY_fill_20]; dsimp only; rw [ms_c hm, hc, ms_e2]
    refine ⟨ms_in4 hm, br_f (nI_ge (by omega) (by omega)) ⟨j + 1, ?_⟩⟩
    refine ym_fin0 (l := j) (b := 14 * m + j) hs pk_us (by omega) (by omega) (fun h => ?_) (fun _ => ⟨by omega, ?_⟩) j 0 (by omega) lt_0
    · obtain ⟨q, hq, e⟩ := h
      rw [ms_cp_in hq] at e
      exact absurd e (hd q j hq (by omega))
    · rw [ms_uu, ms_cp_s]
      exact ih (j + 1) (by omega)
theorem ym_fill1 {post : Int32 → SY → Prop} {n : Nat} (hs : s < 3) (hm : m < 4) (hc : ms m = nI c) (hc14 : c ≤ 14) (hy : ly s = nI l) (hlc : l ≤ c) (hpre : ∀ q, q < l → vw (14 * s + q) = nu (14 * m + q)) (H : wY_fill_20 post (nI s) (nI m) x3 gv n (nI (14 * m + l)) th va nx hi ms nu sz fl ch se ly vw) : ∀ d j : Nat, j + d = l → wY_fill_20 post (nI s) (nI m) x3 gv (n + d) (nI (14 * m + j)) th va nx hi ms nu sz fl ch se ly vw := by
  intro d
  induction d with
  | zero =>
    intro j hj
    obtain rfl : j = l := by omega
    exact H
  | succ d ih =>
    intro j hj
    show wY_fill_20 post (nI s) (nI m) x3 gv ((n + d) + 1) (nI (14 * m + j)) th va nx hi ms nu sz fl ch se ly vw
    rw [wY_fill_20]; dsimp only; rw [ms_c hm, hc, ms_e2]
    refine ⟨ms_in4 hm, br_f (nI_ge (by omega) (by omega)) ⟨l + 1, ?_⟩⟩
    exact ym_fin0 (l := l) (b := 14 * m + j) hs hy (by omega) (by omega) (fun _ => ih (j + 1) (by omega)) (fun h => absurd (hpre j (by omega)) (h j (by omega))) l 0 (by omega) lt_0
theorem ym_fill {post : Int32 → SY → Prop} (hs : s < 3) (hm : m < 4) (hc : ms m = nI c) (hc14 : c ≤ 14) (hse : se s = nI m) (hy : ly s = nI l) (hlc : l ≤ c) (hpre : ∀ q, q < l → vw (14 * s + q) = nu (14 * m + q)) (hd : ∀ i j, i < j → j < c → ¬ nu (14 * m + i) = nu (14 * m + j)) (hp : post (nI c - nI l) (gv, th, va, nx, hi, ms, nu, sz, fl, ch, se, upd ly s (nI c), ms_cp vw nu s m c)) : wpY_fill post (gv, th, va, nx, hi, ms, nu, sz, fl, ch, se, ly, vw) (nI s) := by
  unfold wpY_fill
  dsimp only
  rw [ms_c3 hs, hse, hy]
  refine ⟨ms_in3 hs, nm_e ⟨ms_in3 hs, nm_e (nm_r (ms_c4' m) ⟨(c - l + 1) + l, ?_⟩)⟩⟩
  have z := ym_fill2 hs hm hc hc14 hd hp (c - l) l (by omega)
  rw [ms_updId hy, ms_cp_pre hpre] at z
  exact ym_fill1 hs hm hc hc14 hy hlc hpre z l 0 (by omega)
theorem xm_dropL (hs : s < 3) (hm : m < 4) (hc : ms m = nI c) (hc14 : c ≤ 14) (hse : se s = nI m) (hv : vl s = nI l) (hy : ly s = nI l) (hl : l ≤ 14) : ∀ (d i p : Nat) (g : Nat → Nat) (vw' : Nat → Int32), i + d = l → ms_Gi (fun j => ∃ q, q < c ∧ nu (14 * m + q) = vw (14 * s + j)) i p g → ms_Mv (14 * s) p g vw vw' → ∃ (p2 : Nat) (g2 : Nat → Nat) (vw2 : Nat → Int32), ms_Gi (fun j => ∃ q, q < c ∧ nu (14 * m + q) = vw (14 * s + j)) l p2 g2 ∧ ms_Mv (14 * s) p2 g2 vw vw2 ∧ (∀ post : SX → Prop, post (gv, th, va, nx, hi, ms, nu, sz, fl, ch, se, upd vl s (nI p2), vw2) → wX_dropGone_10 post (nI s) (nI (14 * s)) gv (d + 1) (nI p) (nI i) th va nx hi ms nu sz fl ch se vl vw') ∧ (∀ post : Int32 → SY → Prop, post (nI l - nI p2) (gv, th, va, nx, hi, ms, nu, sz, fl, ch, se, upd ly s (nI p2), vw2) → wY_dropGone_4 post (nI s) gv (d + 1) (nI p) (nI i) th va nx hi ms nu sz fl ch se ly vw') := by
  intro d
  induction d with
  | zero =>
    intro i p g vw' hi' G M
    obtain rfl : i = l := by omega
    refine ⟨p, g, vw', G, M, fun post hp => ?_, fun post hp => ?_⟩
    · rw [wX_dropGone_10]; dsimp only; rw [ms_c3 hs, hv]
      exact ⟨ms_in3 hs, br_t (nI_le (by omega) (by omega)) ⟨ms_in3 hs, nm_e hp⟩⟩
    · rw [wY_dropGone_4]; dsimp only; rw [ms_c3 hs, hy]
      exact ⟨ms_in3 hs, br_t (nI_le (by omega) (by omega)) ⟨ms_in3 hs, nm_e ⟨ms_in3 hs, nm_e hp⟩⟩⟩
  | succ d ih =>
    intro i p g vw' hi' G M
    have hpi := G.1
    have ev : vw' (14 * s + i) = vw (14 * s + i) := M.2 _ (by omega)
    have ki := ms_k (i := 14 * s + i) (by omega)
    have kp := ms_k (i := 14 * s + p) (by omega)
    have ni := ms_i42 (i := 14 * s + i) (by omega)
    have np := ms_i42 (i := 14 * s + p) (by omega)
    obtain ⟨r, hr, cX, cY⟩ := xm_cell (nu := nu) gv th va nx hi sz fl ch se vl vw' ly hm hc hc14 (vw (14 * s + i))
    rcases hr with ⟨rfl, hn⟩ | ⟨j, hj, ej, rfl⟩
    · obtain ⟨p2, g2, vw2, G2, M2, hX, hY⟩ := ih (i + 1) p g vw' (by omega) (ms_GiN G (fun ⟨q, hq, e⟩ => hn q hq e)) M
      refine ⟨p2, g2, vw2, G2, M2, fun post hp => ?_, fun post hp => ?_⟩
      · rw [wX_dropGone_10]; dsimp only; rw [ms_c3 hs, hv, hse, nI_add (14 * s) i, ki]
        exact ⟨ms_in3 hs, br_f (nI_ge (by omega) (by omega)) ⟨ni, nm_r ev ⟨ms_in3 hs, cX _ (br_t rfl (nm_r (nI_1 i) (hX post hp)))⟩⟩⟩
      · rw [wY_dropGone_4]; dsimp only; rw [ms_c3 hs, hy, hse, ms_e2 s i, ki]
        exact ⟨ms_in3 hs, br_f (nI_ge (by omega) (by omega)) ⟨ni, nm_r ev ⟨ms_in3 hs, cY _ (br_t ms_m1lt (nm_r (nI_1 i) (hY post hp)))⟩⟩⟩
    · obtain ⟨p2, g2, vw2, G2, M2, hX, hY⟩ := ih (i + 1) (p + 1) (ms_gx g p i) (upd vw' (14 * s + p) (vw (14 * s + i))) (by omega) (ms_GiT G ⟨j, hj, ej⟩) (ms_MvT M hpi ev.symm)
      refine ⟨p2, g2, vw2, G2, M2, fun post hp => ?_, fun post hp => ?_⟩
      · rw [wX_dropGone_10]; dsimp only; rw [ms_c3 hs, hv, hse, nI_add (14 * s) i, nI_add (14 * s) p, ki, kp]
        exact ⟨ms_in3 hs, br_f (nI_ge (by omega) (by omega)) ⟨ni, nm_r ev ⟨ms_in3 hs, cX _ (br_f (ms_ne1 (by omega)) ⟨np, nm_e (nm_r (nI_1 p) (nm_r (nI_1 i) (hX post hp)))⟩)⟩⟩⟩
      · rw [wY_dropGone_4]; dsimp only; rw [ms_c3 hs, hy, hse, ms_e2 s i, ms_e2 s p, ki, kp]
        exact ⟨ms_in3 hs, br_f (nI_ge (by omega) (by omega)) ⟨ni, nm_r ev ⟨ms_in3 hs, cY _ (br_f (nI_pos (by omega)) ⟨np, nm_e (nm_r (nI_1 p) (nm_r (nI_1 i) (hY post hp)))⟩)⟩⟩⟩
theorem xm_drop (gv : Int32) (va hi sz fl ch : Nat → Int32) (hs : s < 3) (S : ms_Sees th nx ms nu vw s m c l) (hse : se s = nI m) (hv : vl s = nI l) (hy : ly s = nI l) : ∃ (p : Nat) (vw2 : Nat → Int32), p ≤ l ∧ ms_Sees th nx ms nu vw2 s m c p ∧ (∀ i, i < p → ∃ j, j < c ∧ nu (14 * m + j) = vw2 (14 * s + i)) ∧ (∀ x, x < 14 * s ∨ 14 * s + 14 ≤ x → vw2 x = vw x) ∧ (∀ post : SX → Prop, post (gv, th, va, nx, hi, ms, nu, sz, fl, ch, se, upd vl s (nI p), vw2) → wpX_dropGone post (gv, th, va, nx, hi, ms, nu, sz, fl, ch, se, vl, vw) (nI s)) ∧ (∀ post : Int32 → SY → Prop, post (nI l - nI p) (gv, th, va, nx, hi, ms, nu, sz, fl, ch, se, upd ly s (nI p), vw2) → wpY_dropGone post (gv, th, va, nx, hi, ms, nu, sz, fl, ch, se, ly, vw) (nI s)) := by
  have hm := S.1
  have hc := S.2.2.2.2.1
  have hc14 := S.2.1
  have hl := S.2.2.1
  obtain ⟨p, g, vw2, G, M, hX, hY⟩ := xm_dropL (gv := gv) (th := th) (va := va) (nx := nx) (hi := hi) (nu := nu) (sz := sz) (fl := fl) (ch := ch) (vw := vw) hs hm hc hc14 hse hv hy hl l 0 0 (fun q => q) vw (by omega) ms_Gi0 ms_Mv0
  have D := ms_drop S G M
  refine ⟨p, vw2, G.1, D.1, D.2, fun x hx => M.2 x (by have := G.1; omega), fun post hp => ?_, fun post hp => ?_⟩
  · unfold wpX_dropGone
    dsimp only
    exact nm_r (ms_c4 s) ⟨l + 1, hX post hp⟩
  · exact ⟨l + 1, hY post hp⟩
end
end
section
/-! expunge's loop; the sessions left; the constructors -/
section
variable {k : Nat} {gv : Int32} {th va nx hi ms nu sz fl ch se vl vw ly : Nat → Int32} {m s c l : Nat}
theorem xm_takeL (s : Nat) (ly : Nat → Int32) (hm : m < 4) (hc : ms m = nI c) (hc14 : c ≤ 14) (hf : ∀ i, i < c → 0 ≤ (fl (14 * m + i)).toInt ∧ (fl (14 * m + i)).toInt < 32) : ∀ (d i p : Nat) (g : Nat → Nat) (nu' sz' fl' ch' : Nat → Int32), i + d = c → ms_Gi (fun j => fl (14 * m + j) &&& 1 = 0) i p g → ms_Mv (14 * m) p g nu nu' → ms_Mv (14 * m) p g sz sz' → ms_Mv (14 * m) p g fl fl' → ms_Mv (14 * m) p g ch ch' → ∃ (p2 : Nat) (g2 : Nat → Nat) (nu2 sz2 fl2 ch2 : Nat → Int32), ms_Gi (fun j => fl (14 * m + j) &&& 1 = 0) c p2 g2 ∧ ms_Mv (14 * m) p2 g2 nu nu2 ∧ ms_Mv (14 * m) p2 g2 sz sz2 ∧ ms_Mv (14 * m) p2 g2 fl fl2 ∧ ms_Mv (14 * m) p2 g2 ch ch2 ∧ (∀ post : Int32 → SX → Prop, post (nI c - nI p2) (gv, th, va, nx, upd hi m (hi m + (nI c - nI p2)), upd ms m (nI p2), nu2, sz2, fl2, ch2, se, vl, vw) → wX_takeOutDeleted_10 post (nI m) (nI (14 * m)) (d + 1) (nI p) (nI i) gv th va nx hi ms nu' sz' fl' ch' se vl vw) ∧ (∀ post : Int32 → SY → Prop, wpY_dropGone (fun r_28 u => match u with | (f0, a1, a2, a3, a4, a5, a6, a7, a8, a9, a10, a11, a12) => post (nI c - nI p2) (f0, a1, a2, a3, a4, a5, a6, a7, a8, a9, a10, a11, a12)) (gv, th, va, nx, upd hi m (hi m + (nI c - nI p2)), upd ms m (nI p2), nu2, sz2, fl2, ch2, se, ly, vw) (nI s) → wY_expunge_29 post (nI s) (nI m) gv (d + 1) (nI p) (nI (14 * m + i)) th va nx hi ms nu' sz' fl' ch' se ly vw) := by
  intro d
  induction d with
  | zero =>
    intro i p g nu' sz' fl' ch' hi' G M1 M2 M3 M4
    obtain rfl : i = c := by omega
    refine ⟨p, g, nu', sz', fl', ch', G, M1, M2, M3, M4, fun post hp => ?_, fun post hp => ?_⟩
    · rw [wX_takeOutDeleted_10]; dsimp only; rw [ms_c hm, hc]
      exact ⟨ms_in4 hm, br_t (nI_le (by omega) (by omega)) ⟨ms_in4 hm, nm_e ⟨ms_in4 hm, nm_e ⟨ms_in4 hm, ms_in4 hm, nm_e hp⟩⟩⟩⟩
    · rw [wY_expunge_29]; dsimp only; rw [ms_c hm, hc, ms_e2]
      exact ⟨ms_in4 hm, br_t (nI_le (by omega) (by omega)) ⟨ms_in4 hm, nm_e ⟨ms_in4 hm, nm_e ⟨ms_in4 hm, ms_in4 hm, nm_e hp⟩⟩⟩⟩
  | succ d ih =>
    intro i p g nu' sz' fl' ch' hi' G M1 M2 M3 M4
    have hpi := G.1
    have ef : fl' (14 * m + i) = fl (14 * m + i) := M3.2 _ (by omega)
    have ki := ms_k (i := 14 * m + i) (by omega)
    have kp := ms_k (i := 14 * m + p) (by omega)
    have ni := ms_i56 (i := 14 * m + i) (by omega)
    have np := ms_i56 (i := 14 * m + p) (by omega)
    have hf' := hf i (by omega)
    rw [← ef] at hf'
    have ev := ms_even hf'.1 hf'.2
    by_cases e : fl (14 * m + i) &&& 1 = 0
    · have e' : fl' (14 * m + i) &&& 1 = 0 := by rw [ef]; exact e
      obtain ⟨p2, g2, nu2, sz2, fl2, ch2, G2, N1, N2, N3, N4, hX, hY⟩ := ih (i + 1) (p + 1) (ms_gx g p i) (upd nu' (14 * m + p) (nu' (14 * m + i))) (upd sz' (14 * m + p) (sz' (14 * m + i))) (upd fl' (14 * m + p) (fl' (14 * m + i))) (upd ch' (14 * m + p) (ch' (14 * m + i))) (by omega) (ms_GiT G e) (ms_MvT M1 hpi rfl) (ms_MvT M2 hpi rfl) (ms_MvT M3 hpi rfl) (ms_MvT M4 hpi rfl)
      refine ⟨p2, g2, nu2, sz2, fl2, ch2, G2, N1, N2, N3, N4, fun post hp => ?_, fun post hp => ?_⟩
      · rw [wX_takeOutDeleted_10]; unfold wpX_moveMessage; dsimp only; rw [ms_c hm, hc, nI_add (14 * m) i, nI_add (14 * m) p, ki, kp]
        exact ⟨ms_in4 hm, br_f (nI_ge (by omega) (by omega)) ⟨ni, br_t e' ⟨ni, np, nm_e ⟨ni, np, nm_e ⟨ni, np, nm_e ⟨ni, np, nm_e (nm_r (nI_1 p) (nm_r (nI_1 i) (hX post hp)))⟩⟩⟩⟩⟩⟩
      · rw [wY_expunge_29]; dsimp only; rw [ms_c hm, hc, ms_e2 m c, ki]
        refine ⟨ms_in4 hm, br_f (nI_ge (by omega) (by omega)) ⟨ni, ms_20, br_t (ev.mp e') (nm_r (ms_e2 m p) ?_)⟩⟩
        rw [kp]
        exact ⟨ni, np, nm_e ⟨ni, np, nm_e ⟨ni, np, nm_e ⟨ni, np, nm_e (nm_r (nI_1 p) (nm_r (nI_1 (14 * m + i)) (hY post hp)))⟩⟩⟩⟩
    · have e' : ¬ fl' (14 * m + i) &&& 1 = 0 := by rw [ef]; exact e
      obtain ⟨p2, g2, nu2, sz2, fl2, ch2, G2, N1, N2, N3, N4, hX, hY⟩ := ih (i + 1) p g nu' sz' fl' ch' (by omega) (ms_GiN G e) M1 M2 M3 M4
      refine ⟨p2, g2, nu2, sz2, fl2, ch2, G2, N1, N2, N3, N4, fun post hp => ?_, fun post hp => ?_⟩
      · rw [wX_takeOutDeleted_10]; dsimp only; rw [ms_c hm, hc, nI_add (14 * m) i, ki]
        exact ⟨ms_in4 hm, br_f (nI_ge (by omega) (by omega)) ⟨ni, br_f e' (nm_r (nI_1 i) (hX post hp))⟩⟩
      · rw [wY_expunge_29]; dsimp only; rw [ms_c hm, hc, ms_e2 m c, ki]
        exact ⟨ms_in4 hm, br_f (nI_ge (by omega) (by omega)) ⟨ni, ms_20, br_f (fun z => e' (ev.mpr z)) (nm_r (nI_1 (14 * m + i)) (hY post hp))⟩⟩
theorem ms_30 : (3 : Int32) ≤ nI 3 := by decide
theorem xm_allL (hS : ∀ s, s < 3 → se s = -1 ∨ ∃ m, m < 4 ∧ se s = nI m) : ∀ (d i : Nat) (r : Int32) (se' vl' : Nat → Int32), i + d = 3 → (∀ s, s < 3 → (se' s = -1 ∧ vl' s = nI 0) ∨ (se' s = se s ∧ vl' s = vl s)) → ∃ (r2 : Int32) (se2 vl2 : Nat → Int32), (∀ s, s < 3 → (se2 s = -1 ∧ vl2 s = nI 0) ∨ (se2 s = se s ∧ vl2 s = vl s)) ∧ (∀ post : Int32 → SX → Prop, post r2 (gv, th, va, nx, hi, ms, nu, sz, fl, ch, se2, vl2, vw) → wX_deselectAll_4 post (d + 1) r (nI i) gv th va nx hi ms nu sz fl ch se' vl' vw) ∧ (∀ post : Int32 → SY → Prop, post r2 (gv, th, va, nx, hi, ms, nu, sz, fl, ch, se2, ly, vw) → wY_crash_4 post gv (d + 1) r (nI i) th va nx hi ms nu sz fl ch se' ly vw) := by
  intro d
  induction d with
  | zero =>
    intro i r se' vl' hi' H
    obtain rfl : i = 3 := by omega
    refine ⟨r, se', vl', H, fun post hp => ?_, fun post hp => ?_⟩
    · rw [wX_deselectAll_4]; dsimp only
      exact br_t ms_30 hp
    · rw [wY_crash_4]; dsimp only
      exact br_t ms_30 hp
  | succ d ih =>
    intro i r se' vl' hi' H
    have hi3 : i < 3 := by omega
    have h3 : ¬ 3 ≤ nI i := nI_ge (b := 3) hi3 (by decide)
    by_cases e : se' i = -1
    · obtain ⟨r2, se2, vl2, H2, hX, hY⟩ := ih (i + 1) r se' vl' (by omega) H
      refine ⟨r2, se2, vl2, H2, fun post hp => ?_, fun post hp => ?_⟩
      · rw [wX_deselectAll_4]; dsimp only; rw [ms_c3 hi3]
        exact br_f h3 ⟨ms_in3 hi3, br_t e (nm_r (nI_1 i) (hX post hp))⟩
      · rw [wY_crash_4]; dsimp only; rw [ms_c3 hi3, ms_updId e]
        exact br_f h3 ⟨ms_in3 hi3, br_t (by rw [e]; exact ms_m1lt) ⟨ms_in3 hi3, nm_e (nm_r (nI_1 i) (hY post hp))⟩⟩
    · have hn : ¬ se' i < 0 := by
        rcases H i hi3 with h | h
        · exact absurd h.1 e
        · rcases hS i hi3 with z | ⟨m, hm, z⟩
          · exact absurd (h.1.trans z) e
          · rw [h.1, z]; exact nI_pos (by omega)
      obtain ⟨r2, se2, vl2, H2, hX, hY⟩ := ih (i + 1) (r + 1) (upd se' i (-1)) (upd vl' i 0) (by omega) (fun s hs => by
        by_cases z : s = i
        · subst z; exact Or.inl ⟨pk_us, pk_us⟩
        · rw [pk_un z, pk_un z]; exact H s hs)
      refine ⟨r2, se2, vl2, H2, fun post hp => ?_, fun post hp => ?_⟩
      · rw [wX_deselectAll_4]; unfold wpX_deselect; dsimp only; rw [ms_c3 hi3]
        exact br_f h3 ⟨ms_in3 hi3, br_f e ⟨ms_in3 hi3, nm_e ⟨ms_in3 hi3, nm_e (nm_e (nm_r (nI_1 i) (hX post hp)))⟩⟩⟩
      · rw [wY_crash_4]; dsimp only; rw [ms_c3 hi3]
        exact br_f h3 ⟨ms_in3 hi3, br_f hn (nm_e ⟨ms_in3 hi3, nm_e (nm_r (nI_1 i) (hY post hp))⟩)⟩
theorem xm_remL (hm : m < 4) : ∀ (d i : Nat) (se' vl' : Nat → Int32), i + d = 3 → (∀ s, s < 3 → (s < i → (se' s = -1 ∧ vl' s = nI 0) ∨ (se' s = se s ∧ vl' s = vl s ∧ ¬ se s = nI m)) ∧ (i ≤ s → se' s = se s ∧ vl' s = vl s)) → ∃ (se2 vl2 : Nat → Int32), (∀ s, s < 3 → (se2 s = -1 ∧ vl2 s = nI 0) ∨ (se2 s = se s ∧ vl2 s = vl s ∧ ¬ se s = nI m)) ∧ (∀ post : Int32 → SX → Prop, post (ms m) (gv, th, va, nx, hi, ms, nu, sz, fl, ch, se2, vl2, vw) → wX_remove_30 post (nI m) (d + 1) (nI i) gv th va nx hi ms nu sz fl ch se' vl' vw) ∧ (∀ post : Int32 → SY → Prop, post (ms m) (gv, th, va, nx, hi, ms, nu, sz, fl, ch, se2, ly, vw) → wY_remove_23 post (nI m) gv (d + 1) (nI i) th va nx hi ms nu sz fl ch se' ly vw) := by
  intro d
  induction d with
  | zero =>
    intro i se' vl' hi' H
    obtain rfl : i = 3 := by omega
    refine ⟨se', vl', fun s hs => (H s hs).1 hs, fun post hp => ?_, fun post hp => ?_⟩
    · rw [wX_remove_30]; dsimp only; rw [ms_c hm]
      exact br_t ms_30 ⟨ms_in4 hm, hp⟩
    · rw [wY_remove_23]; dsimp only; rw [ms_c hm]
      exact br_t ms_30 ⟨ms_in4 hm, hp⟩
  | succ d ih =>
    intro i se' vl' hi' H
    have hi3 : i < 3 := by omega
    have h3 : ¬ 3 ≤ nI i := nI_ge (b := 3) hi3 (by decide)
    have Hi := (H i hi3).2 (Nat.le_refl i)
    by_cases e : se' i = nI m
    · obtain ⟨se2, vl2, H2, hX, hY⟩ := ih (i + 1) (upd se' i (-1)) (upd vl' i 0) (by omega) (fun s hs => by
        by_cases z : s = i
        · subst z; exact ⟨fun _ => Or.inl ⟨pk_us, pk_us⟩, fun h => absurd h (by omega)⟩
        · rw [pk_un z, pk_un z]; exact ⟨fun h => (H s hs).1 (by omega), fun h => (H s hs).2 (by omega)⟩)
      refine ⟨se2, vl2, H2, fun post hp => ?_, fun post hp => ?_⟩
      · rw [wX_remove_30]; unfold wpX_deselect; dsimp only; rw [ms_c3 hi3]
        exact br_f h3 ⟨ms_in3 hi3, br_t e ⟨ms_in3 hi3, nm_e ⟨ms_in3 hi3, nm_e (nm_r (nI_1 i) (hX post hp))⟩⟩⟩
      · rw [wY_remove_23]; dsimp only; rw [ms_c3 hi3]
        exact br_f h3 ⟨ms_in3 hi3, br_t e ⟨ms_in3 hi3, nm_e (nm_r (nI_1 i) (hY post hp))⟩⟩
    · obtain ⟨se2, vl2, H2, hX, hY⟩ := ih (i + 1) se' vl' (by omega) (fun s hs => by
        by_cases z : s = i
        · subst z; exact ⟨fun _ => Or.inr ⟨Hi.1, Hi.2, by rw [← Hi.1]; exact e⟩, fun h => absurd h (by omega)⟩
        · exact ⟨fun h => (H s hs).1 (by omega), fun h => (H s hs).2 (by omega)⟩)
      refine ⟨se2, vl2, H2, fun post hp => ?_, fun post hp => ?_⟩
      · rw [wX_remove_30]; dsimp only; rw [ms_c3 hi3]
        exact br_f h3 ⟨ms_in3 hi3, br_f e (nm_r (nI_1 i) (hX post hp))⟩
      · rw [wY_remove_23]; dsimp only; rw [ms_c3 hi3]
        exact br_f h3 ⟨ms_in3 hi3, br_f e (nm_r (nI_1 i) (hY post hp))⟩
theorem ms_sel (J : ms_Inv k gv th va nx hi ms nu sz fl ch se vl vw ly) : ∀ s, s < 3 → se s = -1 ∨ ∃ m, m < 4 ∧ se s = nI m := by
  intro s hs
  rcases J.2.2.2 s hs with h | ⟨m, c, l, h1, _, _, S⟩
  · exact Or.inl h.1
  · exact Or.inr ⟨m, S.1, h1⟩
theorem xm_all (J : ms_Inv k gv th va nx hi ms nu sz fl ch se vl vw ly) : ∃ (r : Int32) (se2 vl2 : Nat → Int32), ms_Inv k gv th va nx hi ms nu sz fl ch se2 vl2 vw ly ∧ (∀ post : Int32 → SX → Prop, post r (gv, th, va, nx, hi, ms, nu, sz, fl, ch, se2, vl2, vw) → wpX_deselectAll post (gv, th, va, nx, hi, ms, nu, sz, fl, ch, se, vl, vw)) ∧ (∀ post : Int32 → SY → Prop, post r (gv, th, va, nx, hi, ms, nu, sz, fl, ch, se2, ly, vw) → wpY_crash post (gv, th, va, nx, hi, ms, nu, sz, fl, ch, se, ly, vw)) := by
  obtain ⟨r, se2, vl2, H, hX, hY⟩ := xm_allL (gv := gv) (th := th) (va := va) (nx := nx) (hi := hi) (ms := ms) (nu := nu) (sz := sz) (fl := fl) (ch := ch) (vl := vl) (vw := vw) (ly := ly) (ms_sel J) 3 0 0 se vl (by omega) (fun s hs => Or.inr ⟨rfl, rfl⟩)
  exact ⟨r, se2, vl2, ms_desel J H, fun post hp => ⟨4, hX post hp⟩, fun post hp => ⟨4, hY post hp⟩⟩
theorem ms_ini3 : ∀ s, s < 3 → (upd (upd (upd (fun _ => (0 : Int32)) 0 (-1)) 1 (-1)) 2 (-1)) s = -1 := by
  intro s hs
  match s, hs with
  | 0, _ => rfl
  | 1, _ => rfl
  | 2, _ => rfl
end
theorem i_vc0 : wpX_init (fun u => wpY_init (fun v => i_Rel 0 u v)) := by
  have z0 : (0 : Int32).toNatClampNeg = 0 := by decide
  have z1 : (0 + 1 : Int32).toNatClampNeg = 1 := by decide
  have z2 : (0 + 1 + 1 : Int32).toNatClampNeg = 2 := by decide
  have J := ms_desel ms_init (se' := upd (upd (upd (fun _ => (0 : Int32)) 0 (-1)) 1 (-1)) 2 (-1)) (vl' := fun _ => 0) (fun s hs => Or.inl ⟨ms_ini3 s hs, rfl⟩)
  refine ⟨4, br_f (by decide) ⟨vp_in_iff.mpr (by decide), nm_e (nm_e (br_f (by decide) ⟨vp_in_iff.mpr (by decide), nm_e (nm_e (br_f (by decide) ⟨vp_in_iff.mpr (by decide), nm_e (nm_e (br_t (by decide) ?_))⟩))⟩))⟩⟩
  refine ⟨4, br_f (by decide) ⟨vp_in_iff.mpr (by decide), nm_e (nm_e (br_f (by decide) ⟨vp_in_iff.mpr (by decide), nm_e (nm_e (br_f (by decide) ⟨vp_in_iff.mpr (by decide), nm_e (nm_e (br_t (by decide) ?_))⟩))⟩))⟩⟩
  rw [z0, z1, z2]
  exact ms_rel J
end
section
/-! faults answers 0 -/
section
variable {k : Nat} {gv : Int32} {th va nx hi ms nu sz fl ch se vl vw ly : Nat → Int32} {m s c l : Nat} {post : Int32 → Prop}
theorem ms_lt1 {x : Int32} (h : 1 ≤ x.toInt) : ¬ x < 1 := by
  rw [Int32.lt_iff_toInt_lt, ms_t1]; omega
theorem xm_gz {z : Int32} (h1 : 1 ≤ z.toInt) (h2 : z.toInt ≤ 1000) (p : post 1) : wpX_goodSize post z :=
  br_f (ms_lt1 h1) (br_f (by rw [Int32.lt_iff_toInt_lt, show (1000 : Int32).toInt = 1000 from by decide]; omega) p)
theorem xm_gf {z : Int32} (h1 : 0 ≤ z.toInt) (h2 : z.toInt < 32) (p : post 1) : wpX_goodFlags post z :=
  br_f (by rw [Int32.lt_iff_toInt_lt, ms_t0]; omega) (br_f (by rw [Int32.le_iff_toInt_le, show (32 : Int32).toInt = 32 from by decide]; omega) p)
theorem xm_fmL (hm : m < 4) (hc : ms m = nI c) (hc14 : c ≤ 14) (h9 : ∀ i, i < c → ms_Msg (nx m) (hi m) (nu (14 * m + i)) (sz (14 * m + i)) (fl (14 * m + i)) (ch (14 * m + i))) (h10 : ∀ i j, i < j → j < c → (nu (14 * m + i)).toInt < (nu (14 * m + j)).toInt) (hp : post 0) : ∀ (d i : Nat) (last : Int32), i + d = c → (∀ j, i ≤ j → j < c → last.toInt < (nu (14 * m + j)).toInt) → wX_faultsOfMailbox_33 post (nI m) gv th va nx hi ms nu sz fl ch se vl vw (d + 1) 0 last (nI i) := by
  intro d
  induction d with
  | zero =>
    intro i last hi' H
    rw [wX_faultsOfMailbox_33]; dsimp only; rw [ms_c hm, hc]
    exact ⟨ms_in4 hm, br_t (nI_le (by omega) (by omega)) hp⟩
  | succ d ih =>
    intro i last hi' H
    have ki := ms_k (i := 14 * m + i) (by omega)
    have ni := ms_i56 (i := 14 * m + i) (by omega)
    obtain ⟨g1, g2, g3, g4, g5, g6, g7, g8⟩ := h9 i (by omega)
    have z := H i (Nat.le_refl i) (by omega)
    rw [wX_faultsOfMailbox_33]; dsimp only; rw [ms_c hm, hc]
    refine ⟨ms_in4 hm, br_f (nI_ge (by omega) (by omega)) (nm_r (ms_e1 m i) ?_)⟩
    rw [ki]
    refine ⟨ni, br_f (by rw [Int32.le_iff_toInt_le]; omega) ⟨ni, ms_in4 hm, br_t (by rw [Int32.lt_iff_toInt_lt]; omega) ?_⟩⟩
    unfold wX_faultsOfMailbox_83
    rw [ki]
    refine ⟨ni, xm_gz g3 g4 (br_f ms_n10 ⟨ni, xm_gf g5 g6 (br_f ms_n10 ?_)⟩)⟩
    unfold wX_faultsOfMailbox_112
    rw [ki, ms_c hm]
    refine ⟨ni, br_f (by rw [Int32.le_iff_toInt_le, ms_t1]; omega) ⟨ni, ms_in4 hm, br_t (by rw [Int32.le_iff_toInt_le]; omega) ⟨ni, nm_e (nm_r (nI_1 i) ?_)⟩⟩⟩
    exact ih (i + 1) _ (by omega) (fun j h1 h2 => h10 i j (by omega) h2)
theorem xm_fm (J : ms_Inv k gv th va nx hi ms nu sz fl ch se vl vw ly) (hm : m < 4) (ht : th m = 1) (hp : post 0) : wpX_faultsOfMailbox post (gv, th, va, nx, hi, ms, nu, sz, fl, ch, se, vl, vw) (nI m) := by
  obtain ⟨c, h1, h2, h3, h4, h5, h6, h7, h8, h9, h10⟩ := J.2.2.1 m hm
  have z := h8 ht
  unfold wpX_faultsOfMailbox
  dsimp only
  rw [ms_c hm]
  refine ⟨ms_in4 hm, br_f (ms_lt1 z.1) ⟨ms_in4 hm, br_t (by rw [Int32.le_iff_toInt_le]; exact z.2.1) ⟨c + 1, ?_⟩⟩⟩
  exact xm_fmL hm h2 h1 h9 h10 hp c 0 0 (by omega) (fun j _ hj => by rw [ms_t0]; have := (h9 j hj).1; omega)
theorem xm_fvL (hs : s < 3) (S : ms_Sees th nx ms nu vw s m c l) (hv : vl s = nI l) (hp : post 0) : ∀ (d i : Nat) (last : Int32), i + d = l → (∀ j, i ≤ j → j < l → last.toInt < (vw (14 * s + j)).toInt) → wX_faultsOfView_48 post (nI s) (nI m) gv th va nx hi ms nu sz fl ch se vl vw (d + 1) 0 last (nI (i + 1)) := by
  obtain ⟨s1, s2, s3, s4, s5, s6, s7, s8⟩ := S
  intro d
  induction d with
  | zero =>
    intro i last hi' H
    rw [wX_faultsOfView_48]; dsimp only; rw [ms_c3 hs, hv]
    exact ⟨ms_in3 hs, br_t (nI_lt (by omega) (by omega)) hp⟩
  | succ d ih =>
    intro i last hi' H
    have ki := ms_k (i := 14 * s + i) (by omega)
    have ni := ms_i42 (i := 14 * s + i) (by omega)
    have z := H i (Nat.le_refl i) (by omega)
    have z2 := s6 i (by omega)
    rw [wX_faultsOfView_48]; unfold wpX_viewCell; dsimp only; rw [ms_c3 hs, hv, ms_e3, ki, ms_c s1]
    refine ⟨ms_in3 hs, br_f (nI_nlt (by omega) (by omega)) ⟨ni, nm_e (br_f (by rw [Int32.le_iff_toInt_le]; omega) ⟨ms_in4 s1, br_t (by rw [Int32.lt_iff_toInt_lt]; omega) (nm_r (nI_1 (i + 1)) ?_)⟩)⟩⟩
    exact ih (i + 1) _ (by omega) (fun j h1 h2 => s7 i j (by omega) h2)
theorem xm_fv (J : ms_Inv k gv th va nx hi ms nu sz fl ch se vl vw ly) (hs : s < 3) (hp : post 0) : wpX_faultsOfView post (gv, th, va, nx, hi, ms, nu, sz, fl, ch, se, vl, vw) (nI s) := by
  unfold wpX_faultsOfView
  dsimp only
  rw [ms_c3 hs]
  rcases J.2.2.2 s hs with ⟨e, e2⟩ | ⟨m, c, l, h1, h2, h3, S⟩
  · exact ⟨ms_in3 hs, nm_e (br_t e ⟨ms_in3 hs, br_t e2 hp⟩)⟩
  · refine ⟨ms_in3 hs, nm_r h1 (br_f (ms_ne1 (by have := S.1; omega)) ⟨ms_in4 S.1, br_f ?_ ⟨l + 1, ?_⟩⟩)⟩
    · rw [ms_c S.1, S.2.2.2.1]; exact ms_n10
    · exact xm_fvL hs S h2 hp l 0 0 (by omega) (fun j _ hj => by rw [ms_t0]; have := (S.2.2.2.2.2.1 j hj).1; omega)
theorem xm_f34 (J : ms_Inv k gv th va nx hi ms nu sz fl ch se vl vw ly) (hp : post 0) : ∀ d i : Nat, i + d = 3 → wX_faults_34 post gv th va nx hi ms nu sz fl ch se vl vw (d + 1) 0 (nI i) := by
  intro d
  induction d with
  | zero =>
    intro i hi'
    obtain rfl : i = 3 := by omega
    rw [wX_faults_34]; dsimp only
    exact br_t ms_30 hp
  | succ d ih =>
    intro i hi'
    rw [wX_faults_34]; dsimp only
    exact br_f (nI_ge (b := 3) (by omega) (by decide)) (xm_fv J (by omega) (nm_r (show (0 : Int32) + 0 = 0 from by decide) (nm_r (nI_1 i) (ih (i + 1) (by omega)))))
theorem ms_40 : (4 : Int32) ≤ nI 4 := by decide
theorem xm_f4 (J : ms_Inv k gv th va nx hi ms nu sz fl ch se vl vw ly) (hp : post 0) : ∀ d i : Nat, i + d = 4 → wX_faults_4 post gv th va nx hi ms nu sz fl ch se vl vw (d + 1) 0 (nI i) := by
  intro d
  induction d with
  | zero =>
    intro i hi'
    obtain rfl : i = 4 := by omega
    rw [wX_faults_4]; dsimp only
    exact br_t ms_40 ⟨4, xm_f34 J hp 3 0 (by omega)⟩
  | succ d ih =>
    intro i hi'
    have hi4 : i < 4 := by omega
    rw [wX_faults_4]; dsimp only; rw [ms_c hi4]
    refine br_f (nI_ge (b := 4) hi4 (by decide)) ⟨ms_in4 hi4, ?_⟩
    rcases ms_01 J hi4 with ht | ⟨ht, ht0⟩
    · exact br_t ht (nm_r (nI_1 i) (ih (i + 1) (by omega)))
    · exact br_f ht0 (xm_fm J hi4 ht (nm_r (show (0 : Int32) + 0 = 0 from by decide) (nm_r (nI_1 i) (ih (i + 1) (by omega)))))
end
theorem i_vc_faults {k : Nat} {u : SX} {v : SY} (I : i_Rel k u v) (hk : k + 5 ≤ 2560) : wpX_faults (fun r => wpY_faults (fun r' => r' = r ∧ i_Rel (k + 5) u v) v) u := by
  obtain ⟨gv, th, va, nx, hi, ms, nu, sz, fl, ch, se, vl, vw, ly, rfl, rfl, J⟩ := I
  unfold wpX_faults wpY_faults
  dsimp only
  exact ⟨5, xm_f4 J ⟨rfl, ms_rel (ms_up J)⟩ 4 0 (by omega)⟩
theorem i_vc_idle {k : Nat} {u : SX} {v : SY} (I : i_Rel k u v) (hk : k + 5 ≤ 2560) (v1 : Int32) (v2 : Int32) : wpX_idle (fun u' => wpY_idle (fun v' => i_Rel (k + 5) u' v') v v1 v2) u v1 v2 := by
  obtain ⟨gv, th, va, nx, hi, ms, nu, sz, fl, ch, se, vl, vw, ly, rfl, rfl, J⟩ := I
  exact ms_rel (ms_up J)
theorem i_vc_crash {k : Nat} {u : SX} {v : SY} (I : i_Rel k u v) (hk : k + 5 ≤ 2560) : wpX_crash (fun r u' => wpY_crash (fun r' v' => r' = r ∧ i_Rel (k + 5) u' v') v) u := by
  obtain ⟨gv, th, va, nx, hi, ms, nu, sz, fl, ch, se, vl, vw, ly, rfl, rfl, J⟩ := I
  obtain ⟨r, se2, vl2, J2, hX, hY⟩ := xm_all J
  unfold wpX_crash
  dsimp only
  exact hX _ (hY _ ⟨rfl, ms_rel (ms_up J2)⟩)
theorem i_vc_create {k : Nat} {u : SX} {v : SY} (I : i_Rel k u v) (hk : k + 5 ≤ 2560) (v1 : Int32) : wpX_create (fun r u' => wpY_create (fun r' v' => r' = r ∧ i_Rel (k + 5) u' v') v v1) u v1 := by
  obtain ⟨gv, th, va, nx, hi, ms, nu, sz, fl, ch, se, vl, vw, ly, rfl, rfl, J⟩ := I
  unfold wpX_create wpY_create
  dsimp only
  rcases ms_arg v1 4 (by omega) with hx | ⟨m, hm, rfl⟩
  · exact xm_gmF hx (br_t rfl (ym_bbF hx (br_f ms_n10 ⟨rfl, ms_rel (ms_up J)⟩)))
  · rw [ms_c hm, ms_vb1]
    have n4 := ms_in4 hm
    rcases ms_01 J hm with ht | ⟨ht, ht0⟩
    · refine xm_gm hm (br_f ms_n10 ⟨n4, br_t ht (nm_e ⟨n4, nm_e ⟨n4, nm_e ⟨n4, nm_e ⟨n4, nm_e ⟨n4, nm_e ⟨n4, ?_⟩⟩⟩⟩⟩⟩)⟩)
      refine ym_bb hm (br_t rfl ⟨n4, br_t ht ⟨n4, nm_e (nm_e ⟨n4, nm_e ⟨n4, nm_e ⟨n4, nm_e ⟨n4, nm_e ⟨pk_us.symm, ?_⟩⟩⟩⟩⟩)⟩⟩)
      exact ms_rel (ms_create J hk hm (fun h => absurd (ht.symm.trans h) (by decide)))
    · exact xm_gm hm (br_f ms_n10 ⟨n4, br_f ht0 (ym_bb hm (br_t rfl ⟨n4, br_f ht0 ⟨rfl, ms_rel (ms_up J)⟩⟩))⟩)
theorem i_vc_remove {k : Nat} {u : SX} {v : SY} (I : i_Rel k u v) (hk : k + 5 ≤ 2560) (v1 : Int32) : wpX_remove (fun r u' => wpY_remove (fun r' v' => r' = r ∧ i_Rel (k + 5) u' v') v v1) u v1 := by
  obtain ⟨gv, th, va, nx, hi, ms, nu, sz, fl, ch, se, vl, vw, ly, rfl, rfl, J⟩ := I
  unfold wpX_remove wpY_remove
  dsimp only
  rcases ms_arg v1 4 (by omega) with hx | ⟨m, hm, rfl⟩
  · exact xm_gmF hx (br_t rfl (ym_nbF hx (br_f ms_1_0 (ym_nbF hx ⟨rfl, ms_rel (ms_up J)⟩))))
  · rw [ms_c hm, ms_vb0]
    have n4 := ms_in4 hm
    rcases ms_01 J hm with ht | ⟨ht, ht0⟩
    · exact xm_gm hm (br_f ms_n10 ⟨n4, br_t ht (ym_nb0 hm ht (br_f ms_2_0 (ym_nb0 hm ht ⟨rfl, ms_rel (ms_up J)⟩)))⟩)
    · obtain ⟨se2, vl2, H, hX, hY⟩ := xm_remL (gv := gv) (th := upd th m 0) (va := va) (nx := nx) (hi := hi) (ms := ms) (nu := nu) (sz := sz) (fl := fl) (ch := ch) (se := se) (vl := vl) (vw := vw) (ly := ly) hm 3 0 se vl (by omega) (fun s hs => ⟨fun h => absurd h (Nat.not_lt_zero s), fun _ => ⟨rfl, rfl⟩⟩)
      exact xm_gm hm (br_f ms_n10 ⟨n4, br_f ht0 ⟨n4, nm_e ⟨4, hX _ (ym_nb hm ht0 (br_t ms_00 ⟨n4, nm_e ⟨4, hY _ ⟨rfl, ms_rel (ms_up (ms_remove J hm H))⟩⟩⟩))⟩⟩⟩)
end
section
/-! a message is refused or added; a place is there or not -/
section
variable {k : Nat} {gv : Int32} {th va nx hi ms nu sz fl ch se vl vw ly : Nat → Int32} {m s c l : Nat} {z f : Int32}
theorem xm_add {post : Int32 → SX → Prop} (hm : m < 4) (hc : ms m = nI c) (hc14 : c < 14) (hp : post (nx m) (gv, th, va, upd nx m (nx m + 1), upd hi m (hi m + 1), upd ms m (nI (c + 1)), upd nu (14 * m + c) (nx m), upd sz (14 * m + c) z, upd fl (14 * m + c) f, upd ch (14 * m + c) (hi m + 1), se, vl, vw)) : wpX_addMessage post (gv, th, va, nx, hi, ms, nu, sz, fl, ch, se, vl, vw) (nI m) z f := by
  have n4 := ms_in4 hm
  have kc := ms_k (i := 14 * m + c) (by omega)
  have nc := ms_i56 (i := 14 * m + c) (by omega)
  unfold wpX_addMessage wpX_markChanged
  dsimp only
  rw [ms_c hm, hc]
  refine ⟨n4, nm_r (ms_e1 m c) ?_⟩
  rw [kc, nI_1 c]
  refine ⟨n4, n4, nm_e ⟨n4, nc, nm_e ⟨nc, nm_e ⟨nc, nm_e ⟨n4, n4, nm_e ⟨n4, nc, nm_e ⟨n4, n4, nm_e ⟨nc, ?_⟩⟩⟩⟩⟩⟩⟩⟩
  rw [pk_us, pk_us]
  exact hp
theorem ym_add {post : Int32 → SY → Prop} (hm : m < 4) (hc : ms m = nI c) (hc14 : c < 14) (hp : post (nx m) (gv, th, va, upd nx m (nx m + 1), upd hi m (hi m + 1), upd ms m (nI (c + 1)), upd nu (14 * m + c) (nx m), upd sz (14 * m + c) z, upd fl (14 * m + c) f, upd ch (14 * m + c) (hi m + 1), se, ly, vw)) : wpY_add post (gv, th, va, nx, hi, ms, nu, sz, fl, ch, se, ly, vw) (nI m) z f := by
  have n4 := ms_in4 hm
  have kc := ms_k (i := 14 * m + c) (by omega)
  have nc := ms_i56 (i := 14 * m + c) (by omega)
  unfold wpY_add
  dsimp only
  rw [ms_c hm, hc]
  refine ⟨n4, nm_r (ms_e2 m c) ?_⟩
  rw [kc, nI_1 c]
  refine ⟨n4, n4, nm_e ⟨n4, nc, nm_e ⟨nc, nm_e ⟨nc, nm_e ⟨n4, nc, nm_e ⟨n4, n4, nm_e ⟨n4, n4, nm_e ⟨nc, ?_⟩⟩⟩⟩⟩⟩⟩⟩
  rw [pk_us, pk_us]
  exact hp
theorem xm_rb0 {post : Int32 → Prop} (hm : m < 4) (ht : th m = 0) (p : post (-2)) : wpX_refusalOfMailbox post (gv, th, va, nx, hi, ms, nu, sz, fl, ch, se, vl, vw) (nI m) := by
  unfold wpX_refusalOfMailbox
  dsimp only
  rw [ms_c hm]
  exact ⟨ms_in4 hm, br_t ht p⟩
theorem xm_rb3 {post : Int32 → Prop} (hm : m < 4) (ht : ¬ th m = 0) (hc : ms m = nI 14) (p : post (-3)) : wpX_refusalOfMailbox post (gv, th, va, nx, hi, ms, nu, sz, fl, ch, se, vl, vw) (nI m) := by
  unfold wpX_refusalOfMailbox
  dsimp only
  rw [ms_c hm, hc]
  exact ⟨ms_in4 hm, br_f ht ⟨ms_in4 hm, br_t (nI_le (a := 14) (by omega) (by omega)) p⟩⟩
theorem xm_rb {post : Int32 → Prop} (hm : m < 4) (ht : ¬ th m = 0) (hc : ms m = nI c) (hc14 : c < 14) (p : post 0) : wpX_refusalOfMailbox post (gv, th, va, nx, hi, ms, nu, sz, fl, ch, se, vl, vw) (nI m) := by
  unfold wpX_refusalOfMailbox
  dsimp only
  rw [ms_c hm, hc]
  exact ⟨ms_in4 hm, br_f ht ⟨ms_in4 hm, br_f (nI_ge (b := 14) hc14 (by decide)) p⟩⟩
theorem ms_le31 {f : Int32} (h : ¬ 32 ≤ f) : f ≤ 31 := by
  rw [Int32.le_iff_toInt_le, show (32 : Int32).toInt = 32 from by decide] at h
  rw [Int32.le_iff_toInt_le, show (31 : Int32).toInt = 31 from by decide]
  omega
theorem ms_nle31 {f : Int32} (h : 32 ≤ f) : ¬ f ≤ 31 := by
  rw [Int32.le_iff_toInt_le, show (32 : Int32).toInt = 32 from by decide] at h
  rw [Int32.le_iff_toInt_le, show (31 : Int32).toInt = 31 from by decide]
  omega
theorem ms_ne14 (h : c < 14) : ¬ nI c = 14 := by
  intro e
  have z : c = 14 := (nI_eq (a := c) (b := 14) (by omega) (by omega)).mp e
  omega
theorem xm_refuse (J : ms_Inv k gv th va nx hi ms nu sz fl ch se vl vw ly) (x z f : Int32) : ∃ r : Int32, (∀ post : Int32 → Prop, post r → wpX_refusalOfMessage post (gv, th, va, nx, hi, ms, nu, sz, fl, ch, se, vl, vw) x z f) ∧ (∀ post : Int32 → Prop, post r → wpY_refused post (gv, th, va, nx, hi, ms, nu, sz, fl, ch, se, ly, vw) x z f) ∧ ((¬ 0 ≤ r ∧ ¬ r = 0) ∨ (r = 0 ∧ ∃ m c, m < 4 ∧ x = nI m ∧ th m = 1 ∧ ms m = nI c ∧ c < 14 ∧ 1 ≤ z.toInt ∧ z.toInt ≤ 1000 ∧ 0 ≤ f.toInt ∧ f.toInt < 32)) := by
  have b1 : ¬ (0 : Int32) ≤ -1 ∧ ¬ (-1 : Int32) = 0 := by decide
  have b2 : ¬ (0 : Int32) ≤ -2 ∧ ¬ (-2 : Int32) = 0 := by decide
  have b3 : ¬ (0 : Int32) ≤ -3 ∧ ¬ (-3 : Int32) = 0 := by decide
  unfold wpX_refusalOfMessage wpY_refused
  dsimp only
  rcases ms_arg x 4 (by omega) with hx | ⟨m, hm, rfl⟩
  · exact ⟨-1, fun post hp => xm_gmF hx (br_t rfl hp), fun post hp => ym_bbF hx (br_f ms_n10 hp), Or.inl b1⟩
  · rw [ms_c hm]
    have n4 := ms_in4 hm
    by_cases e1 : z < 1
    · exact ⟨-1, fun post hp => xm_gm hm (br_f ms_n10 (br_t e1 (br_t rfl hp))), fun post hp => ym_bb hm (br_t rfl (br_t e1 hp)), Or.inl b1⟩
    · by_cases e2 : 1000 < z
      · exact ⟨-1, fun post hp => xm_gm hm (br_f ms_n10 (br_f e1 (br_t e2 (br_t rfl hp)))), fun post hp => ym_bb hm (br_t rfl (br_f e1 (br_t e2 hp))), Or.inl b1⟩
      · by_cases e3 : f < 0
        · exact ⟨-1, fun post hp => xm_gm hm (br_f ms_n10 (br_f e1 (br_f e2 (br_f ms_n10 (br_t e3 (br_t rfl hp)))))), fun post hp => ym_bb hm (br_t rfl (br_f e1 (br_f e2 (br_t e3 hp)))), Or.inl b1⟩
        · by_cases e4 : 32 ≤ f
          · exact ⟨-1, fun post hp => xm_gm hm (br_f ms_n10 (br_f e1 (br_f e2 (br_f ms_n10 (br_f e3 (br_t e4 (br_t rfl hp))))))), fun post hp => ym_bb hm (br_t rfl (br_f e1 (br_f e2 (br_f e3 (br_f (ms_nle31 e4) hp))))), Or.inl b1⟩
          · have e5 := ms_le31 e4
            rcases ms_01 J hm with ht | ⟨ht, ht0⟩
            · exact ⟨-2, fun post hp => xm_gm hm (br_f ms_n10 (br_f e1 (br_f e2 (br_f ms_n10 (br_f e3 (br_f e4 (br_f ms_n10 (xm_rb0 hm ht hp)))))))), fun post hp => ym_bb hm (br_t rfl (br_f e1 (br_f e2 (br_f e3 (br_t e5 ⟨n4, br_t ht hp⟩))))), Or.inl b2⟩
            · obtain ⟨c, hc14, hc⟩ := ms_cnt J hm
              by_cases e6 : c = 14
              · subst e6
                exact ⟨-3, fun post hp => xm_gm hm (br_f ms_n10 (br_f e1 (br_f e2 (br_f ms_n10 (br_f e3 (br_f e4 (br_f ms_n10 (xm_rb3 hm ht0 hc hp)))))))), fun post hp => ym_bb hm (br_t rfl (br_f e1 (br_f e2 (br_f e3 (br_t e5 ⟨n4, br_f ht0 ⟨n4, br_t hc hp⟩⟩))))), Or.inl b3⟩
              · refine ⟨0, fun post hp => xm_gm hm (br_f ms_n10 (br_f e1 (br_f e2 (br_f ms_n10 (br_f e3 (br_f e4 (br_f ms_n10 (xm_rb hm ht0 hc (by omega) hp)))))))), fun post hp => ym_bb hm (br_t rfl (br_f e1 (br_f e2 (br_f e3 (br_t e5 ⟨n4, br_f ht0 ⟨n4, br_f (by rw [hc]; exact ms_ne14 (by omega)) hp⟩⟩))))), Or.inr ⟨rfl, m, c, hm, rfl, ht, hc, by omega, ?_, ?_, ?_, ?_⟩⟩
                · rw [Int32.lt_iff_toInt_lt, ms_t1] at e1; omega
                · rw [Int32.lt_iff_toInt_lt, show (1000 : Int32).toInt = 1000 from by decide] at e2; omega
                · rw [Int32.lt_iff_toInt_lt, ms_t0] at e3; omega
                · rw [Int32.le_iff_toInt_le, show (32 : Int32).toInt = 32 from by decide] at e4; omega
theorem xm_pl (J : ms_Inv k gv th va nx hi ms nu sz fl ch se vl vw ly) (hs : s < 3) (x : Int32) : ((∀ post : Int32 → Prop, post 0 → wpX_hasPlace post (gv, th, va, nx, hi, ms, nu, sz, fl, ch, se, vl, vw) (nI s) x) ∧ (∀ post : Int32 → Prop, post (-2) → wpY_numberAt post (gv, th, va, nx, hi, ms, nu, sz, fl, ch, se, ly, vw) (nI s) x) ∧ (∀ post : Int32 → Prop, post (-2) → wpY_messageAt post (gv, th, va, nx, hi, ms, nu, sz, fl, ch, se, ly, vw) (nI s) x)) ∨ ∃ m c l i : Nat, i < l ∧ x = nI (i + 1) ∧ se s = nI m ∧ vl s = nI l ∧ ly s = nI l ∧ ms_Sees th nx ms nu vw s m c l ∧ (∀ post : Int32 → Prop, post 1 → wpX_hasPlace post (gv, th, va, nx, hi, ms, nu, sz, fl, ch, se, vl, vw) (nI s) x) := by
  have h1n : ∀ j : Nat, j < 2 ^ 31 → 0 < j → ¬ nI j < 1 := fun j h h2 => nI_nlt (b := 1) (by omega) h
  have M : (∀ post : Int32 → Prop, post (-2) → wpY_numberAt post (gv, th, va, nx, hi, ms, nu, sz, fl, ch, se, ly, vw) (nI s) x) → (∀ post : Int32 → Prop, post (-2) → wpY_messageAt post (gv, th, va, nx, hi, ms, nu, sz, fl, ch, se, ly, vw) (nI s) x) := by
    intro h post hp
    unfold wpY_messageAt
    dsimp only
    exact h _ (br_f ms_2_0 hp)
  rcases J.2.2.2 s hs with ⟨e, e2⟩ | ⟨m, c, l, h1, h2, h3, S⟩
  · have N : ∀ post : Int32 → Prop, post (-2) → wpY_numberAt post (gv, th, va, nx, hi, ms, nu, sz, fl, ch, se, ly, vw) (nI s) x := by
      intro post hp
      unfold wpY_numberAt
      dsimp only
      exact ym_nv0 hs e (br_f ms_2_0 (ym_nv0 hs e hp))
    refine Or.inl ⟨fun post hp => ?_, N, M N⟩
    unfold wpX_hasPlace
    dsimp only
    rw [ms_c3 hs, e2]
    refine ⟨fun _ => hp, fun n => ⟨ms_in3 hs, br_t ?_ hp⟩⟩
    rw [Int32.lt_iff_toInt_lt, ms_t1] at n
    rw [Int32.lt_iff_toInt_lt, nI_toInt (by omega)]
    omega
  · have hl := S.2.2.1
    by_cases q : x < 1
    · have N : ∀ post : Int32 → Prop, post (-2) → wpY_numberAt post (gv, th, va, nx, hi, ms, nu, sz, fl, ch, se, ly, vw) (nI s) x := by
        intro post hp
        unfold wpY_numberAt
        dsimp only
        exact ym_nv hs h1 S.1 (br_t ms_00 (br_t q hp))
      exact Or.inl ⟨fun post hp => br_t q hp, N, M N⟩
    · rcases pk_ix x (n := l + 1) (by omega) with h | h | ⟨j, hj, rfl⟩
      · rw [Int32.lt_iff_toInt_lt] at q h
        rw [ms_t1] at q; rw [ms_t0] at h
        omega
      · have h4 : nI l < x := by
          rw [Int32.le_iff_toInt_le, nI_toInt (by omega)] at h
          rw [Int32.lt_iff_toInt_lt, nI_toInt (by omega)]
          omega
        have h5 : ¬ x ≤ nI l := by
          rw [Int32.lt_iff_toInt_lt] at h4
          rw [Int32.le_iff_toInt_le]
          omega
        have N : ∀ post : Int32 → Prop, post (-2) → wpY_numberAt post (gv, th, va, nx, hi, ms, nu, sz, fl, ch, se, ly, vw) (nI s) x := by
          intro post hp
          unfold wpY_numberAt
          dsimp only
          rw [ms_c3 hs, h3]
          exact ym_nv hs h1 S.1 (br_t ms_00 (br_f q ⟨ms_in3 hs, br_f h5 hp⟩))
        refine Or.inl ⟨fun post hp => ?_, N, M N⟩
        unfold wpX_hasPlace
        dsimp only
        rw [ms_c3 hs, h2]
        exact br_f q ⟨ms_in3 hs, br_t h4 hp⟩
      · have j0 : 0 < j := by
          apply Nat.pos_of_ne_zero
          intro e; subst e
          exact q (by decide)
        obtain ⟨i, rfl⟩ : ∃ i, j = i + 1 := ⟨j - 1, by omega⟩
        refine Or.inr ⟨m, c, l, i, by omega, rfl, h1, h2, h3, S, fun post hp => ?_⟩
        unfold wpX_hasPlace
        dsimp only
        rw [ms_c3 hs, h2]
        exact br_f q ⟨ms_in3 hs, br_f (nI_nlt (by omega) (by omega)) hp⟩
end
end
section
/-! the methods that only read -/
theorem i_vc_status {k : Nat} {u : SX} {v : SY} (I : i_Rel k u v) (hk : k + 5 ≤ 2560) (v1 : Int32) (v2 : Int32) : wpX_status (fun r => wpY_status (fun r' => r' = r ∧ i_Rel (k + 5) u v) v v1 v2) u v1 v2 := by
  obtain ⟨gv, th, va, nx, hi, ms, nu, sz, fl, ch, se, vl, vw, ly, rfl, rfl, J⟩ := I
  have R := ms_rel (ms_up J)
  unfold wpX_status wpY_status
  dsimp only
  rcases ms_arg v1 4 (by omega) with hx | ⟨m, hm, rfl⟩
  · exact xm_gmF hx (br_t rfl (ym_bbF hx (br_f ms_n10 ⟨rfl, R⟩)))
  · rw [ms_c hm]
    have n4 := ms_in4 hm
    rcases ms_arg v2 4 (by omega) with hx | ⟨w, hw, rfl⟩
    · refine xm_gm hm (br_f ms_n10 ?_)
      by_cases n : v2 < 0
      · exact br_t n (ym_bb hm (br_t rfl (br_t n ⟨rfl, R⟩)))
      · have n3 := ms_not4 (hx.resolve_left n)
        exact br_f n (br_f n3 (ym_bb hm (br_t rfl (br_f n (br_f n3 ⟨rfl, R⟩)))))
    · have w0 : ¬ nI w < 0 := nI_pos (by omega)
      have w3 : nI w ≤ 3 := nI_le (b := 3) (by omega) (by decide)
      refine xm_gm hm (br_f ms_n10 (br_f w0 (br_t w3 ⟨n4, ?_⟩)))
      rcases ms_01 J hm with ht | ⟨ht, ht0⟩
      · exact br_t ht (ym_bb hm (br_t rfl (br_f w0 (br_t w3 ⟨n4, br_t ht ⟨rfl, R⟩⟩))))
      · have q : w = 0 ∨ w = 1 ∨ w = 2 ∨ w = 3 := by omega
        refine br_f ht0 (br_f w0 ?_)
        rcases q with rfl | rfl | rfl | rfl
        · exact br_f (by decide) (br_t (by decide) ⟨n4, ym_bb hm (br_t rfl (br_f w0 (br_t w3 ⟨n4, br_f ht0 (br_t (by decide) ⟨n4, rfl, R⟩)⟩)))⟩)
        · exact br_f (by decide) (br_f (by decide) (br_t (by decide) ⟨n4, ym_bb hm (br_t rfl (br_f w0 (br_t w3 ⟨n4, br_f ht0 (br_f (by decide) (br_t (by decide) ⟨n4, rfl, R⟩))⟩)))⟩))
        · exact br_f (by decide) (br_f (by decide) (br_f (by decide) (br_t (by decide) ⟨n4, ym_bb hm (br_t rfl (br_f w0 (br_t w3 ⟨n4, br_f ht0 (br_f (by decide) (br_f (by decide) (br_t (by decide) ⟨n4, rfl, R⟩)))⟩)))⟩)))
        · exact br_t (by decide) ⟨n4, ym_bb hm (br_t rfl (br_f w0 (br_t w3 ⟨n4, br_f ht0 (br_f (by decide) (br_f (by decide) (br_f (by decide) ⟨n4, rfl, R⟩)))⟩)))⟩
theorem i_vc_counting {k : Nat} {u : SX} {v : SY} (I : i_Rel k u v) (hk : k + 5 ≤ 2560) (v1 : Int32) (v2 : Int32) : wpX_counting (fun r => wpY_counting (fun r' => r' = r ∧ i_Rel (k + 5) u v) v v1 v2) u v1 v2 := by
  obtain ⟨gv, th, va, nx, hi, ms, nu, sz, fl, ch, se, vl, vw, ly, rfl, rfl, J⟩ := I
  have R := ms_rel (ms_up J)
  unfold wpX_counting wpY_counting
  dsimp only
  rcases ms_arg v1 4 (by omega) with hx | ⟨m, hm, rfl⟩
  · exact xm_gmF hx (br_t rfl (ym_bbF hx (br_f ms_n10 ⟨rfl, R⟩)))
  · rw [ms_c hm]
    have n4 := ms_in4 hm
    refine xm_gm hm (br_f ms_n10 ?_)
    rcases ms_arg v2 1024 (by omega) with hx | ⟨w, hw, rfl⟩
    · exact xm_gpF hx (br_t rfl (ym_bb hm (br_t rfl ⟨fun _ => ⟨rfl, R⟩, fun n => br_f (ms_not1024 (hx.resolve_left n)) ⟨rfl, R⟩⟩)))
    · have w0 : ¬ nI w < 0 := nI_pos (by omega)
      have w3 : nI w ≤ 1023 := nI_le (b := 1023) (by omega) (by decide)
      refine xm_gp hw (br_f ms_n10 ⟨n4, ?_⟩)
      rcases ms_01 J hm with ht | ⟨ht, ht0⟩
      · exact br_t ht (ym_bb hm (br_t rfl (br_f w0 (br_t w3 ⟨n4, br_t ht ⟨rfl, R⟩⟩))))
      · obtain ⟨c, hc14, hc⟩ := ms_cnt J hm
        obtain ⟨q, hX, hY⟩ := xm_count (gv := gv) (th := th) (va := va) (nx := nx) (hi := hi) (nu := nu) (sz := sz) (fl := fl) (ch := ch) (se := se) (vl := vl) (vw := vw) (ly := ly) hm hc hc14 (nI w) c 0 0 (by omega)
        exact br_f ht0 ⟨c + 1, hX _ (ym_bb hm (br_t rfl (br_f w0 (br_t w3 ⟨n4, br_f ht0 (nm_r (ms_c4' m) ⟨c + 1, hY _ ⟨rfl, R⟩⟩)⟩))))⟩
theorem i_vc_changedSince {k : Nat} {u : SX} {v : SY} (I : i_Rel k u v) (hk : k + 5 ≤ 2560) (v1 : Int32) (v2 : Int32) (v3 : Int32) : wpX_changedSince (fun r => wpY_changedSince (fun r' => r' = r ∧ i_Rel (k + 5) u v) v v1 v2 v3) u v1 v2 v3 := by
  obtain ⟨gv, th, va, nx, hi, ms, nu, sz, fl, ch, se, vl, vw, ly, rfl, rfl, J⟩ := I
  have R := ms_rel (ms_up J)
  unfold wpX_changedSince wpY_changedSince
  dsimp only
  rcases ms_arg v1 4 (by omega) with hx | ⟨m, hm, rfl⟩
  · exact xm_gmF hx (br_t rfl (ym_nbF hx (br_f ms_1_0 (ym_nbF hx ⟨rfl, R⟩))))
  · rw [ms_c hm]
    have n4 := ms_in4 hm
    refine xm_gm hm (br_f ms_n10 ⟨n4, ?_⟩)
    rcases ms_01 J hm with ht | ⟨ht, ht0⟩
    · exact br_t ht (ym_nb0 hm ht (br_f ms_2_0 (ym_nb0 hm ht ⟨rfl, R⟩)))
    · obtain ⟨c, hc14, hc⟩ := ms_cnt J hm
      obtain ⟨q, hX, hY⟩ := xm_since (gv := gv) (th := th) (va := va) (nx := nx) (hi := hi) (nu := nu) (sz := sz) (fl := fl) (ch := ch) (se := se) (vl := vl) (vw := vw) (ly := ly) hm hc hc14 v2 v3 c 0 (by omega)
      exact br_f ht0 ⟨c + 1, hX _ (ym_nb hm ht0 (br_t ms_00 (nm_r (ms_c4' m) ⟨c + 1, hY _ ⟨rfl, R⟩⟩)))⟩
theorem ms_lt1le0 {x : Int32} (h : x < 1) : x ≤ 0 := by
  rw [Int32.lt_iff_toInt_lt, ms_t1] at h
  rw [Int32.le_iff_toInt_le, ms_t0]
  omega
theorem ms_nlt1le0 {x : Int32} (h : ¬ x < 1) : ¬ x ≤ 0 := by
  rw [Int32.lt_iff_toInt_lt, ms_t1] at h
  rw [Int32.le_iff_toInt_le, ms_t0]
  omega
theorem i_vc_vanished {k : Nat} {u : SX} {v : SY} (I : i_Rel k u v) (hk : k + 5 ≤ 2560) (v1 : Int32) (v2 : Int32) : wpX_vanished (fun r => wpY_vanished (fun r' => r' = r ∧ i_Rel (k + 5) u v) v v1 v2) u v1 v2 := by
  obtain ⟨gv, th, va, nx, hi, ms, nu, sz, fl, ch, se, vl, vw, ly, rfl, rfl, J⟩ := I
  have R := ms_rel (ms_up J)
  unfold wpX_vanished wpY_vanished
  dsimp only
  rcases ms_arg v1 4 (by omega) with hx | ⟨m, hm, rfl⟩
  · exact xm_gmF hx (br_t rfl (ym_nbF hx (br_f ms_1_0 (ym_nbF hx ⟨rfl, R⟩))))
  · rw [ms_c hm]
    have n4 := ms_in4 hm
    refine xm_gm hm (br_f ms_n10 ⟨n4, ?_⟩)
    rcases ms_01 J hm with ht | ⟨ht, ht0⟩
    · exact br_t ht (ym_nb0 hm ht (br_f ms_2_0 (ym_nb0 hm ht ⟨rfl, R⟩)))
    · refine br_f ht0 ?_
      unfold wX_vanished_40 wX_vanished_41
      by_cases e1 : v2 < 1
      · exact br_t e1 (br_t rfl (ym_nb hm ht0 (br_t ms_00 (br_t (ms_lt1le0 e1) ⟨rfl, R⟩))))
      · have e2 := ms_nlt1le0 e1
        by_cases e3 : nx m ≤ v2
        · exact br_f e1 ⟨n4, br_t e3 (br_t rfl (ym_nb hm ht0 (br_t ms_00 (br_f e2 ⟨n4, br_t e3 ⟨rfl, R⟩⟩))))⟩
        · obtain ⟨c, hc14, hc⟩ := ms_cnt J hm
          obtain ⟨r, hr, cX, cY⟩ := xm_cell (nu := nu) gv th va nx hi sz fl ch se vl vw ly hm hc hc14 v2
          rcases hr with ⟨rfl, hn⟩ | ⟨j, hj, ej, rfl⟩
          · exact br_f e1 ⟨n4, br_f e3 (br_f ms_n10 (cX _ (br_t rfl (ym_nb hm ht0 (br_t ms_00 (br_f e2 ⟨n4, br_f e3 (cY _ (br_f ms_1_0 ⟨rfl, R⟩))⟩))))))⟩
          · exact br_f e1 ⟨n4, br_f e3 (br_f ms_n10 (cX _ (br_f (ms_ne1 (by omega)) (ym_nb hm ht0 (br_t ms_00 (br_f e2 ⟨n4, br_f e3 (cY _ (br_t (nI_pos' (by omega)) ⟨rfl, R⟩))⟩))))))⟩
theorem i_vc_length {k : Nat} {u : SX} {v : SY} (I : i_Rel k u v) (hk : k + 5 ≤ 2560) (v1 : Int32) : wpX_length (fun r => wpY_length (fun r' => r' = r ∧ i_Rel (k + 5) u v) v v1) u v1 := by
  obtain ⟨gv, th, va, nx, hi, ms, nu, sz, fl, ch, se, vl, vw, ly, rfl, rfl, J⟩ := I
  have R := ms_rel (ms_up J)
  unfold wpX_length wpY_length
  dsimp only
  rcases ms_arg v1 3 (by omega) with hx | ⟨s, hs, rfl⟩
  · exact xm_gsF hx (br_t rfl (ym_nvF hx (br_f ms_1_0 (ym_nvF hx ⟨rfl, R⟩))))
  · rw [ms_c3 hs]
    have n3 := ms_in3 hs
    rcases J.2.2.2 s hs with ⟨e, e2⟩ | ⟨m, c, l, h1, h2, h3, S⟩
    · exact xm_gs hs (br_f ms_n10 ⟨n3, br_t e (ym_nv0 hs e (br_f ms_2_0 (ym_nv0 hs e ⟨rfl, R⟩)))⟩)
    · have ne : ¬ se s = -1 := by rw [h1]; exact ms_ne1 (by have := S.1; omega)
      exact xm_gs hs (br_f ms_n10 ⟨n3, br_f ne ⟨n3, ym_nv hs h1 S.1 (br_t ms_00 ⟨n3, h3.trans h2.symm, R⟩)⟩⟩)
theorem i_vc_numberAt {k : Nat} {u : SX} {v : SY} (I : i_Rel k u v) (hk : k + 5 ≤ 2560) (v1 : Int32) (v2 : Int32) : wpX_numberAt (fun r => wpY_numberAt (fun r' => r' = r ∧ i_Rel (k + 5) u v) v v1 v2) u v1 v2 := by
  obtain ⟨gv, th, va, nx, hi, ms, nu, sz, fl, ch, se, vl, vw, ly, rfl, rfl, J⟩ := I
  have R := ms_rel (ms_up J)
  unfold wpX_numberAt wpX_viewCell
  dsimp only
  rcases ms_arg v1 3 (by omega) with hx | ⟨s, hs, rfl⟩
  · unfold wpY_numberAt
    dsimp only
    exact xm_gsF hx (br_t rfl (ym_nvF hx (br_f ms_1_0 (ym_nvF hx ⟨rfl, R⟩))))
  · have n3 := ms_in3 hs
    rcases xm_pl J hs v2 with ⟨pX, pY, _⟩ | ⟨m, c, l, i, hi', rfl, h1, h2, h3, S, pX⟩
    · exact xm_gs hs (br_f ms_n10 (pX _ (br_t rfl (pY _ ⟨rfl, R⟩))))
    · have hl := S.2.2.1
      have hk' := ms_k (i := 14 * s + i) (by omega)
      have hin := ms_i42 (i := 14 * s + i) (by omega)
      unfold wpY_numberAt
      dsimp only
      rw [ms_e3, ms_e4, hk', ms_c3 hs, h3]
      exact xm_gs hs (br_f ms_n10 (pX _ (br_f ms_n10 ⟨hin, ym_nv hs h1 S.1 (br_t ms_00 (br_f (nI_nlt (b := 1) (by omega) (by omega)) ⟨n3, br_t (nI_le (by omega) (by omega)) ⟨hin, rfl, R⟩⟩))⟩)))
theorem i_vc_placeOf {k : Nat} {u : SX} {v : SY} (I : i_Rel k u v) (hk : k + 5 ≤ 2560) (v1 : Int32) (v2 : Int32) : wpX_placeOf (fun r => wpY_placeOf (fun r' => r' = r ∧ i_Rel (k + 5) u v) v v1 v2) u v1 v2 := by
  obtain ⟨gv, th, va, nx, hi, ms, nu, sz, fl, ch, se, vl, vw, ly, rfl, rfl, J⟩ := I
  have R := ms_rel (ms_up J)
  unfold wpX_placeOf wpY_placeOf
  dsimp only
  rcases ms_arg v1 3 (by omega) with hx | ⟨s, hs, rfl⟩
  · exact xm_gsF hx (br_t rfl (ym_nvF hx (br_f ms_1_0 (ym_nvF hx ⟨rfl, R⟩))))
  · rcases J.2.2.2 s hs with ⟨e, e2⟩ | ⟨m, c, l, h1, h2, h3, S⟩
    · refine xm_gs hs (br_f ms_n10 ⟨1, ?_⟩)
      rw [wX_placeOf_11]; dsimp only; rw [ms_c3 hs, e2]
      exact ⟨ms_in3 hs, br_t (by decide) (ym_nv0 hs e (br_f ms_2_0 (ym_nv0 hs e ⟨rfl, R⟩)))⟩
    · obtain ⟨q, hX, hY⟩ := xm_place (gv := gv) (th := th) (va := va) (nx := nx) (hi := hi) (ms := ms) (nu := nu) (sz := sz) (fl := fl) (ch := ch) (se := se) (vw := vw) hs h2 h3 S.2.2.1 v2 l 0 (by omega)
      exact xm_gs hs (br_f ms_n10 ⟨l + 1, hX _ (ym_nv hs h1 S.1 (br_t ms_00 ⟨l + 1, hY _ ⟨rfl, R⟩⟩))⟩)
theorem i_vc_fetch {k : Nat} {u : SX} {v : SY} (I : i_Rel k u v) (hk : k + 5 ≤ 2560) (v1 : Int32) (v2 : Int32) (v3 : Int32) : wpX_fetch (fun r => wpY_fetch (fun r' => r' = r ∧ i_Rel (k + 5) u v) v v1 v2 v3) u v1 v2 v3 := by
  obtain ⟨gv, th, va, nx, hi, ms, nu, sz, fl, ch, se, vl, vw, ly, rfl, rfl, J⟩ := I
  have R := ms_rel (ms_up J)
  unfold wpX_fetch wpY_fetch
  dsimp only
  rcases ms_arg v1 3 (by omega) with hx | ⟨s, hs, rfl⟩
  · exact xm_gsF hx (br_t rfl (ym_bsF hx (br_f ms_n10 ⟨rfl, R⟩)))
  · refine xm_gs hs (br_f ms_n10 ?_)
    by_cases n : v3 < 0
    · exact br_t n (ym_bs hs (br_t rfl (br_t n ⟨rfl, R⟩)))
    · by_cases n2 : v3 ≤ 2
      · refine br_f n (br_t n2 ?_)
        rcases xm_pl J hs v2 with ⟨pX, _, pY⟩ | ⟨m, c, l, i, hi', rfl, h1, h2, h3, S, pX⟩
        · exact pX _ (br_t rfl (ym_bs hs (br_t rfl (br_f n (br_t n2 (pY _ (br_f ms_2_0 ⟨rfl, R⟩)))))))
        · refine pX _ (br_f ms_n10 ?_)
          have hm := S.1
          have hc14 := S.2.1
          rcases xm_at va hi sz fl ch gv hs S h1 vl h3 hi' with ⟨aX, aY⟩ | ⟨j, hj, aX, aY⟩
          · exact aX _ (br_t rfl (ym_bs hs (br_t rfl (br_f n (br_t n2 (aY _ (br_f ms_4_0 ⟨rfl, R⟩)))))))
          · have hk' := ms_k (i := 14 * m + j) (by omega)
            have hin := ms_i56 (i := 14 * m + j) (by omega)
            have n1 : ¬ nI (14 * m + j) = -1 := ms_ne1 (by omega)
            have n0 : 0 ≤ nI (14 * m + j) := nI_pos' (by omega)
            refine aX _ (br_f n1 ?_)
            by_cases q0 : v3 = 0
            · exact br_t q0 ⟨hin, ym_bs hs (br_t rfl (br_f n (br_t n2 (aY _ (br_t n0 (br_t q0 ⟨hin, rfl, R⟩))))))⟩
            · by_cases q1 : v3 = 1
              · exact br_f q0 (br_t q1 ⟨hin, ym_bs hs (br_t rfl (br_f n (br_t n2 (aY _ (br_t n0 (br_f q0 (br_t q1 ⟨hin, rfl, R⟩)))))))⟩)
              · exact br_f q0 (br_f q1 ⟨hin, ym_bs hs (br_t rfl (br_f n (br_t n2 (aY _ (br_t n0 (br_f q0 (br_f q1 ⟨hin, rfl, R⟩)))))))⟩)
      · exact br_f n (br_f n2 (ym_bs hs (br_t rfl (br_f n (br_f n2 ⟨rfl, R⟩)))))
theorem i_vc_search {k : Nat} {u : SX} {v : SY} (I : i_Rel k u v) (hk : k + 5 ≤ 2560) (v1 : Int32) (v2 : Int32) (v3 : Int32) (v4 : Int32) : wpX_search (fun r => wpY_search (fun r' => r' = r ∧ i_Rel (k + 5) u v) v v1 v2 v3 v4) u v1 v2 v3 v4 := by
  obtain ⟨gv, th, va, nx, hi, ms, nu, sz, fl, ch, se, vl, vw, ly, rfl, rfl, J⟩ := I
  have R := ms_rel (ms_up J)
  unfold wpX_search wpY_search
  dsimp only
  rcases ms_arg v1 3 (by omega) with hx | ⟨s, hs, rfl⟩
  · exact xm_gsF hx (br_t rfl (ym_bsF hx (br_f ms_n10 ⟨rfl, R⟩)))
  · rw [ms_c3 hs]
    have n3 := ms_in3 hs
    refine xm_gs hs (br_f ms_n10 ?_)
    rcases ms_arg v2 1024 (by omega) with hx | ⟨w, hw, rfl⟩
    · exact xm_gpF hx (br_t rfl (ym_bs hs (br_t rfl ⟨fun _ => ⟨rfl, R⟩, fun n => br_f (ms_not1024 (hx.resolve_left n)) ⟨rfl, R⟩⟩)))
    · have w0 : ¬ nI w < 0 := nI_pos (by omega)
      have w3 : nI w ≤ 1023 := nI_le (b := 1023) (by omega) (by decide)
      refine xm_gp hw (br_f ms_n10 ?_)
      rcases J.2.2.2 s hs with ⟨e, e2⟩ | ⟨m, c, l, h1, h2, h3, S⟩
      · refine ⟨1, ?_⟩
        rw [wX_search_19]; dsimp only; rw [ms_c3 hs, e2]
        exact ⟨n3, br_t (by decide) (ym_bs hs (br_t rfl (br_f w0 (br_t w3 ⟨n3, br_f (by rw [e]; exact ms_1_0) ⟨rfl, R⟩⟩))))⟩
      · obtain ⟨q, hX, hY⟩ := xm_search (gv := gv) (va := va) (hi := hi) (sz := sz) (fl := fl) (ch := ch) hs S h1 h2 h3 (nI w) v3 v4 l 0 (by omega)
        exact ⟨l + 1, hX _ (ym_bs hs (br_t rfl (br_f w0 (br_t w3 ⟨n3, br_t (by rw [h1]; exact nI_pos' (by have := S.1; omega)) ⟨l + 1, hY _ ⟨rfl, R⟩⟩⟩))))⟩
end
section
/-! the methods that write -/
theorem i_vc_append {k : Nat} {u : SX} {v : SY} (I : i_Rel k u v) (hk : k + 5 ≤ 2560) (v1 : Int32) (v2 : Int32) (v3 : Int32) : wpX_append (fun r u' => wpY_append (fun r' v' => r' = r ∧ i_Rel (k + 5) u' v') v v1 v2 v3) u v1 v2 v3 := by
  obtain ⟨gv, th, va, nx, hi, ms, nu, sz, fl, ch, se, vl, vw, ly, rfl, rfl, J⟩ := I
  unfold wpX_append wpY_append
  dsimp only
  obtain ⟨r, hX, hY, h | ⟨rfl, m, c, hm, rfl, ht, hc, hc14, z1, z2, f1, f2⟩⟩ := xm_refuse J v1 v2 v3
  · exact hX _ (br_f h.2 (hY _ (br_f h.1 ⟨rfl, ms_rel (ms_up J)⟩)))
  · exact hX _ (br_t rfl (xm_add hm hc hc14 (hY _ (br_t ms_00 (ym_add hm hc hc14 ⟨rfl, ms_rel (ms_append J hk hm ht hc hc14 z1 z2 f1 f2)⟩)))))
theorem i_vc_appendAndCrash {k : Nat} {u : SX} {v : SY} (I : i_Rel k u v) (hk : k + 5 ≤ 2560) (v1 : Int32) (v2 : Int32) (v3 : Int32) : wpX_appendAndCrash (fun r u' => wpY_appendAndCrash (fun r' v' => r' = r ∧ i_Rel (k + 5) u' v') v v1 v2 v3) u v1 v2 v3 := by
  obtain ⟨gv, th, va, nx, hi, ms, nu, sz, fl, ch, se, vl, vw, ly, rfl, rfl, J⟩ := I
  unfold wpX_appendAndCrash wpY_appendAndCrash
  dsimp only
  by_cases n : 0 ≤ v2
  · refine br_t n ⟨ms_320, ms_320, ?_⟩
    obtain ⟨r, hX, hY, h | ⟨rfl, _⟩⟩ := xm_refuse J v1 (v2 / 32) (v2 - v2 / 32 * 32)
    · exact hX _ (br_f h.2 (br_t n ⟨ms_320, ms_320, hY _ (br_f h.1 ⟨rfl, ms_rel (ms_up J)⟩)⟩))
    · obtain ⟨r, se2, vl2, J2, aX, aY⟩ := xm_all J
      exact hX _ (br_t rfl (aX _ (br_t n ⟨ms_320, ms_320, hY _ (br_t ms_00 (aY _ ⟨rfl, ms_rel (ms_up J2)⟩))⟩)))
  · exact br_f n (br_f n ⟨rfl, ms_rel (ms_up J)⟩)
theorem ms_dist {k : Nat} {gv : Int32} {th va nx hi ms nu sz fl ch : Nat → Int32} {m c : Nat} (B : ms_Box k gv th va nx hi ms nu sz fl ch m) (hc : ms m = nI c) (hc14 : c ≤ 14) : ∀ i j, i < j → j < c → ¬ nu (14 * m + i) = nu (14 * m + j) := by
  obtain ⟨c', h1, h2, h3, h4, h5, h6, h7, h8, h9, h10⟩ := B
  obtain rfl : c' = c := ms_nIeq (h2.symm.trans hc) h1 hc14
  intro i j hij hj e
  have z := h10 i j hij hj
  rw [e] at z
  omega
theorem ms_sub0 (c : Nat) : nI c - nI 0 = nI c := pk_sub (Nat.zero_le c)
theorem i_vc_select {k : Nat} {u : SX} {v : SY} (I : i_Rel k u v) (hk : k + 5 ≤ 2560) (v1 : Int32) (v2 : Int32) : wpX_select (fun r u' => wpY_select (fun r' v' => r' = r ∧ i_Rel (k + 5) u' v') v v1 v2) u v1 v2 := by
  obtain ⟨gv, th, va, nx, hi, ms, nu, sz, fl, ch, se, vl, vw, ly, rfl, rfl, J⟩ := I
  have R := ms_rel (ms_up J)
  unfold wpX_select wpY_select
  dsimp only
  rcases ms_arg v1 3 (by omega) with hx | ⟨s, hs, rfl⟩
  · exact xm_gsF hx (br_t rfl (ym_bsF hx (br_f ms_n10 ⟨rfl, R⟩)))
  · refine xm_gs hs (br_f ms_n10 ?_)
    have n3 := ms_in3 hs
    rcases ms_arg v2 4 (by omega) with hx | ⟨m, hm, rfl⟩
    · exact xm_gmF hx (br_t rfl (ym_bs hs (br_t rfl (ym_bbF hx (br_f ms_n10 ⟨rfl, R⟩)))))
    · rw [ms_c hm, ms_c3 hs]
      have n4 := ms_in4 hm
      refine xm_gm hm (br_f ms_n10 ⟨n4, ?_⟩)
      rcases ms_01 J hm with ht | ⟨ht, ht0⟩
      · exact br_t ht (ym_bs hs (br_t rfl (ym_bb hm (br_t rfl ⟨n4, br_t ht ⟨rfl, R⟩⟩))))
      · obtain ⟨c, hc14, hc⟩ := ms_cnt J hm
        refine br_f ht0 ⟨n3, nm_e (xm_view hs hm hc hc14 pk_us ⟨n3, ?_⟩)⟩
        refine ym_bs hs (br_t rfl (ym_bb hm (br_t rfl ⟨n4, br_f ht0 ⟨n3, nm_e ⟨n3, nm_e ?_⟩⟩⟩)))
        refine ym_fill (l := 0) hs hm hc hc14 pk_us pk_us (Nat.zero_le c) (fun q h => absurd h (Nat.not_lt_zero q)) (ms_dist (J.2.2.1 m hm) hc hc14) ⟨?_, ms_rel (ms_up (ms_setV J hs (fun x hx => ⟨pk_un hx, pk_un hx, ?_⟩) (fun x hx => ms_cp_out (by omega)) (Or.inr ⟨m, c, c, pk_us, pk_us, pk_us, ms_show (J.2.2.1 m hm) hm ht hc hc14 (fun q hq => ms_cp_in hq)⟩)))⟩
        · dsimp only; rw [pk_us]; exact ms_sub0 c
        · dsimp only; rw [pk_un hx, pk_un hx]
theorem i_vc_leave {k : Nat} {u : SX} {v : SY} (I : i_Rel k u v) (hk : k + 5 ≤ 2560) (v1 : Int32) : wpX_leave (fun r u' => wpY_leave (fun r' v' => r' = r ∧ i_Rel (k + 5) u' v') v v1) u v1 := by
  obtain ⟨gv, th, va, nx, hi, ms, nu, sz, fl, ch, se, vl, vw, ly, rfl, rfl, J⟩ := I
  have R := ms_rel (ms_up J)
  unfold wpX_leave wpY_leave wpX_deselect
  dsimp only
  rcases ms_arg v1 3 (by omega) with hx | ⟨s, hs, rfl⟩
  · exact xm_gsF hx (br_t rfl (ym_nvF hx (br_f ms_1_0 (ym_nvF hx ⟨rfl, R⟩))))
  · rw [ms_c3 hs]
    have n3 := ms_in3 hs
    rcases J.2.2.2 s hs with ⟨e, e2⟩ | ⟨m, c, l, h1, h2, h3, S⟩
    · exact xm_gs hs (br_f ms_n10 ⟨n3, br_t e (ym_nv0 hs e (br_f ms_2_0 (ym_nv0 hs e ⟨rfl, R⟩)))⟩)
    · have ne : ¬ se s = -1 := by rw [h1]; exact ms_ne1 (by have := S.1; omega)
      refine xm_gs hs (br_f ms_n10 ⟨n3, br_f ne ⟨n3, nm_e ⟨n3, nm_e ⟨n3, nm_e (ym_nv hs h1 S.1 (br_t ms_00 ⟨n3, nm_e ⟨n3, nm_e ⟨rfl, ms_rel (ms_up (ms_desel J (fun x hx => ?_)))⟩⟩⟩))⟩⟩⟩⟩)
      by_cases z : x = s
      · subst z; exact Or.inl ⟨pk_us, pk_us⟩
      · exact Or.inr ⟨pk_un z, pk_un z⟩
theorem i_vc_expunge {k : Nat} {u : SX} {v : SY} (I : i_Rel k u v) (hk : k + 5 ≤ 2560) (v1 : Int32) : wpX_expunge (fun r u' => wpY_expunge (fun r' v' => r' = r ∧ i_Rel (k + 5) u' v') v v1) u v1 := by
  obtain ⟨gv, th, va, nx, hi, ms, nu, sz, fl, ch, se, vl, vw, ly, rfl, rfl, J⟩ := I
  have R := ms_rel (ms_up J)
  unfold wpX_expunge wpY_expunge wpX_takeOutDeleted
  dsimp only
  rcases ms_arg v1 3 (by omega) with hx | ⟨s, hs, rfl⟩
  · exact xm_gsF hx (br_t rfl (ym_nvF hx (br_f ms_1_0 (ym_nvF hx ⟨rfl, R⟩))))
  · rw [ms_c3 hs]
    have n3 := ms_in3 hs
    rcases J.2.2.2 s hs with ⟨e, e2⟩ | ⟨m, c, l, h1, h2, h3, S⟩
    · exact xm_gs hs (br_f ms_n10 ⟨n3, br_t e (ym_nv0 hs e (br_f ms_2_0 (ym_nv0 hs e ⟨rfl, R⟩)))⟩)
    · have hm := S.1
      have ne : ¬ se s = -1 := by rw [h1]; exact ms_ne1 (by omega)
      obtain ⟨c', b1, b2, b3, b4, b5, b6, b7, b8, b9, b10⟩ := J.2.2.1 m hm
      obtain ⟨p, g, nu2, sz2, fl2, ch2, G, M1, M2, M3, M4, tX, tY⟩ := xm_takeL (gv := gv) (th := th) (va := va) (nx := nx) (hi := hi) (nu := nu) (sz := sz) (fl := fl) (ch := ch) (se := se) (vl := vl) (vw := vw) s ly hm b2 b1 (fun i hi' => ⟨(b9 i hi').2.2.2.2.1, (b9 i hi').2.2.2.2.2.1⟩) c' 0 0 (fun q => q) nu sz fl ch (by omega) ms_Gi0 ms_Mv0 ms_Mv0 ms_Mv0 ms_Mv0
      have J1 := ms_take J hk hm b2 b1 G M1 M2 M3 M4
      rw [← pk_sub G.1] at J1
      rcases J1.2.2.2 s hs with ⟨e, _⟩ | ⟨m', c2, l', k1, k2, k3, S'⟩
      · exact absurd e ne
      · obtain ⟨p2, vw2, _, D1, D2, D3, dX, dY⟩ := xm_drop gv va (upd hi m (hi m + (nI c' - nI p))) sz2 fl2 ch2 hs S' k1 k2 k3
        have J2 := ms_setV (se' := se) (vl' := upd vl s (nI p2)) (vw' := vw2) (ly' := upd ly s (nI p2)) J1 hs (fun x hx => ⟨rfl, pk_un hx, pk_un hx⟩) D3 (Or.inr ⟨m', c2, p2, k1, pk_us, pk_us, D1⟩)
        rw [h1]
        refine xm_gs hs (br_f ms_n10 ⟨n3, br_f (ms_ne1 (by omega)) ⟨n3, nm_r (ms_c4 m) ⟨c' + 1, tX _ (dX _ ?_)⟩⟩⟩)
        exact ym_nv hs h1 hm (br_t ms_00 ⟨n3, nm_e (nm_r (ms_c4' m) ⟨c' + 1, tY _ (dY _ ⟨rfl, ms_rel J2⟩)⟩)⟩)
theorem i_vc_poll {k : Nat} {u : SX} {v : SY} (I : i_Rel k u v) (hk : k + 5 ≤ 2560) (v1 : Int32) : wpX_poll (fun r u' => wpY_poll (fun r' v' => r' = r ∧ i_Rel (k + 5) u' v') v v1) u v1 := by
  obtain ⟨gv, th, va, nx, hi, ms, nu, sz, fl, ch, se, vl, vw, ly, rfl, rfl, J⟩ := I
  have R := ms_rel (ms_up J)
  unfold wpX_poll wpY_poll
  dsimp only
  rcases ms_arg v1 3 (by omega) with hx | ⟨s, hs, rfl⟩
  · exact xm_gsF hx (br_t rfl (ym_nvF hx (br_f ms_1_0 (ym_nvF hx ⟨rfl, R⟩))))
  · rw [ms_c3 hs]
    have n3 := ms_in3 hs
    rcases J.2.2.2 s hs with ⟨e, e2⟩ | ⟨m, c, l, h1, h2, h3, S⟩
    · exact xm_gs hs (br_f ms_n10 ⟨n3, br_t e (ym_nv0 hs e (br_f ms_2_0 (ym_nv0 hs e ⟨rfl, R⟩)))⟩)
    · have hm := S.1
      have ne : ¬ se s = -1 := by rw [h1]; exact ms_ne1 (by omega)
      have hc := S.2.2.2.2.1
      have hc14 := S.2.1
      have ht := S.2.2.2.1
      obtain ⟨p, vw2, _, D1, D2, D3, dX, dY⟩ := xm_drop gv va hi sz fl ch hs S h1 h2 h3
      obtain ⟨P1, P2⟩ := ms_pre D1 (J.2.2.1 m hm) D2
      have J2 := ms_setV (se' := se) (vl' := upd (upd vl s (nI p)) s (nI c)) (vw' := ms_cp vw2 nu s m c) (ly' := upd (upd ly s (nI p)) s (nI c)) J hs (fun x hx => ⟨rfl, by rw [pk_un hx, pk_un hx], by rw [pk_un hx, pk_un hx]⟩) (fun x hx => by rw [ms_cp_out (by omega)]; exact D3 x hx) (Or.inr ⟨m, c, c, h1, pk_us, pk_us, ms_show (J.2.2.1 m hm) hm ht hc hc14 (fun q hq => ms_cp_in hq)⟩)
      refine xm_gs hs (br_f ms_n10 ⟨n3, br_f ne ⟨n3, nm_r h2 (dX _ ⟨n3, nm_r pk_us (xm_view hs hm hc hc14 h1 (nm_e ⟨n3, nm_e ?_⟩))⟩)⟩⟩)
      refine ym_nv hs h1 hm (br_t ms_00 (dY _ (ym_fill (l := p) hs hm hc hc14 h1 pk_us P1 P2 (ms_dist (J.2.2.1 m hm) hc hc14) ⟨?_, ms_rel (ms_up J2)⟩)))
      dsimp only
      rw [pk_us]
theorem i_vc_copy {k : Nat} {u : SX} {v : SY} (I : i_Rel k u v) (hk : k + 5 ≤ 2560) (v1 : Int32) (v2 : Int32) (v3 : Int32) : wpX_copy (fun r u' => wpY_copy (fun r' v' => r' = r ∧ i_Rel (k + 5) u' v') v v1 v2 v3) u v1 v2 v3 := by
  obtain ⟨gv, th, va, nx, hi, ms, nu, sz, fl, ch, se, vl, vw, ly, rfl, rfl, J⟩ := I
  have R := ms_rel (ms_up J)
  unfold wpX_copy wpY_copy
  dsimp only
  rcases ms_arg v1 3 (by omega) with hx | ⟨s, hs, rfl⟩
  · exact xm_gsF hx (br_t rfl (ym_bsF hx (br_f ms_n10 ⟨rfl, R⟩)))
  · refine xm_gs hs (br_f ms_n10 ?_)
    rcases ms_arg v3 4 (by omega) with hx | ⟨t, ht4, rfl⟩
    · exact xm_gmF hx (br_t rfl (ym_bs hs (br_t rfl (ym_bbF hx (br_f ms_n10 ⟨rfl, R⟩)))))
    · rw [ms_c ht4]
      have n4 := ms_in4 ht4
      refine xm_gm ht4 (br_f ms_n10 ?_)
      rcases xm_pl J hs v2 with ⟨pX, _, pY⟩ | ⟨m, c, l, i, hi', rfl, h1, h2, h3, S, pX⟩
      · exact pX _ (br_t rfl (ym_bs hs (br_t rfl (ym_bb ht4 (br_t rfl (pY _ (br_f ms_2_0 ⟨rfl, R⟩)))))))
      · refine pX _ (br_f ms_n10 ?_)
        have hm := S.1
        have hc14 := S.2.1
        rcases xm_at va hi sz fl ch gv hs S h1 vl h3 hi' with ⟨aX, aY⟩ | ⟨j, hj, aX, aY⟩
        · exact aX _ (br_t rfl (ym_bs hs (br_t rfl (ym_bb ht4 (br_t rfl (aY _ (br_f ms_4_0 ⟨rfl, R⟩)))))))
        · have hk' := ms_k (i := 14 * m + j) (by omega)
          have hin := ms_i56 (i := 14 * m + j) (by omega)
          have n1 : ¬ nI (14 * m + j) = -1 := ms_ne1 (by omega)
          have n0 : 0 ≤ nI (14 * m + j) := nI_pos' (by omega)
          refine aX _ (br_f n1 ?_)
          rcases ms_01 J ht4 with ht | ⟨ht, ht0⟩
          · exact xm_rb0 ht4 ht (br_f (by decide) (ym_bs hs (br_t rfl (ym_bb ht4 (br_t rfl (aY _ (br_t n0 ⟨n4, br_t ht ⟨rfl, R⟩⟩)))))))
          · obtain ⟨d, hd14, hd⟩ := ms_cnt J ht4
            by_cases e6 : d = 14
            · subst e6
              exact xm_rb3 ht4 ht0 hd (br_f (by decide) (ym_bs hs (br_t rfl (ym_bb ht4 (br_t rfl (aY _ (br_t n0 ⟨n4, br_f ht0 ⟨n4, br_t hd ⟨rfl, R⟩⟩⟩)))))))
            · obtain ⟨c', b1, b2, b3, b4, b5, b6, b7, b8, b9, b10⟩ := J.2.2.1 m hm
              obtain rfl : c' = c := ms_nIeq (b2.symm.trans S.2.2.2.2.1) b1 hc14
              obtain ⟨g1, g2, g3, g4, g5, g6, g7, g8⟩ := b9 j hj
              rw [hk']
              refine xm_rb ht4 ht0 hd (by omega) (br_t rfl ⟨hin, hin, xm_add ht4 hd (by omega) ?_⟩)
              refine ym_bs hs (br_t rfl (ym_bb ht4 (br_t rfl (aY _ (br_t n0 ⟨n4, br_f ht0 ⟨n4, br_f (by rw [hd]; exact ms_ne14 (by omega)) ⟨hin, hin, ?_⟩⟩⟩)))))
              rw [hk']
              exact ym_add ht4 hd (by omega) ⟨rfl, ms_rel (ms_append J hk ht4 ht hd (by omega) g3 g4 g5 g6)⟩
end
section
/-! store -/
theorem xm_fas {w r : Nat} {old : Int32} (hw : w < 96) (hr : r < 56) (o1 : 0 ≤ old.toInt) (o2 : old.toInt < 32) : ∃ n : Int32, 0 ≤ n.toInt ∧ n.toInt < 32 ∧ (∀ post : Int32 → Prop, post n → wpX_flagsAfterStore post old (nI w)) ∧ (∀ A : Int32 → Prop, A n → ((32 ≤ nI w → ((64 ≤ nI w → (vp_in (nI r) 56 ∧ A (old &&& (nI (w % 32) ^^^ (-1))))) ∧ (¬ 64 ≤ nI w → (vp_in (nI r) 56 ∧ A (old ||| nI (w % 32)))))) ∧ (¬ 32 ≤ nI w → A (nI (w % 32))))) := by
  have e5 : nI w - nI w / 32 * 32 = nI (w % 32) := pk_rem (d := 32) (by omega) (by decide) (by decide)
  have e6 : nI w / 32 = nI (w / 32) := pk_div (d := 32) (by omega) (by decide) (by decide)
  have hin := ms_i56 hr
  have s1 : 0 ≤ (nI (w % 32)).toInt := by rw [nI_toInt (by omega)]; omega
  have s2 : (nI (w % 32)).toInt < 32 := by rw [nI_toInt (by omega)]; omega
  have n32 : 32 ≤ w → 32 ≤ nI w := fun h => nI_le (a := 32) h (by omega)
  have l32 : w < 32 → ¬ 32 ≤ nI w := fun h => nI_ge (b := 32) h (by decide)
  have n64 : 64 ≤ w → 64 ≤ nI w := fun h => nI_le (a := 64) h (by omega)
  have l64 : w < 64 → ¬ 64 ≤ nI w := fun h => nI_ge (b := 64) h (by decide)
  by_cases h1 : w < 32
  · refine ⟨nI (w % 32), s1, s2, fun post hp => ⟨ms_320, nm_r e5 ⟨ms_320, nm_r e6 (br_t ?_ hp)⟩⟩, fun A hA => br_f (l32 h1) hA⟩
    rw [show w / 32 = 0 by omega]; exact nI_0
  · have z0 : ¬ nI (w / 32) = 0 := nI_ne0 (by omega) (by omega)
    by_cases h2 : w < 64
    · have o := ms_or o1 o2 s1 s2
      refine ⟨old ||| nI (w % 32), o.1, o.2, fun post hp => ⟨ms_320, nm_r e5 ⟨ms_320, nm_r e6 (br_f z0 (br_t ?_ hp))⟩⟩, fun A hA => br_t (n32 (by omega)) (br_f (l64 h2) ⟨hin, hA⟩)⟩
      rw [show w / 32 = 1 by omega]; decide
    · have o := ms_an o1 o2 s1 s2
      refine ⟨old &&& (nI (w % 32) ^^^ (-1)), o.1, o.2, fun post hp => ⟨ms_320, nm_r e5 ⟨ms_320, nm_r e6 (br_f z0 (br_f ?_ hp))⟩⟩, fun A hA => br_t (n32 (by omega)) (br_t (n64 (by omega)) ⟨hin, hA⟩)⟩
      rw [show w / 32 = 2 by omega]; decide
theorem ms_n96 {x : Int32} (h : nI 96 ≤ x) : ¬ x < 96 ∧ ¬ x ≤ 95 := by
  rw [Int32.le_iff_toInt_le, nI_toInt (by omega)] at h
  rw [Int32.lt_iff_toInt_lt, Int32.le_iff_toInt_le, show (96 : Int32).toInt = 96 from by decide, show (95 : Int32).toInt = 95 from by decide]
  omega
theorem i_vc_store {k : Nat} {u : SX} {v : SY} (I : i_Rel k u v) (hk : k + 5 ≤ 2560) (v1 : Int32) (v2 : Int32) (v3 : Int32) : wpX_store (fun r u' => wpY_store (fun r' v' => r' = r ∧ i_Rel (k + 5) u' v') v v1 v2 v3) u v1 v2 v3 := by
  obtain ⟨gv, th, va, nx, hi, ms, nu, sz, fl, ch, se, vl, vw, ly, rfl, rfl, J⟩ := I
  have R := ms_rel (ms_up J)
  unfold wpX_store wpY_store
  dsimp only
  rcases ms_arg v1 3 (by omega) with hx | ⟨s, hs, rfl⟩
  · exact xm_gsF hx (br_t rfl (ym_bsF hx (br_f ms_n10 ⟨rfl, R⟩)))
  · refine xm_gs hs (br_f ms_n10 ?_)
    have n3 := ms_in3 hs
    rcases ms_arg v3 96 (by omega) with hx | ⟨w, hw, rfl⟩
    · by_cases n : v3 < 0
      · exact br_t n (ym_bs hs (br_t rfl (br_t n ⟨rfl, R⟩)))
      · have n96 := ms_n96 (hx.resolve_left n)
        exact br_f n (br_f n96.1 (ym_bs hs (br_t rfl (br_f n (br_f n96.2 ⟨rfl, R⟩)))))
    · have w0 : ¬ nI w < 0 := nI_pos (by omega)
      have w96 : nI w < 96 := nI_lt (b := 96) hw (by decide)
      have w95 : nI w ≤ 95 := nI_le (b := 95) (by omega) (by decide)
      have e5 : nI w - nI w / 32 * 32 = nI (w % 32) := pk_rem (d := 32) (by omega) (by decide) (by decide)
      refine br_f w0 (br_t w96 ?_)
      rcases xm_pl J hs v2 with ⟨pX, _, pY⟩ | ⟨m, c, l, i, hi', rfl, h1, h2, h3, S, pX⟩
      · exact pX _ (br_t rfl (ym_bs hs (br_t rfl (br_f w0 (br_t w95 (pY _ (br_f ms_2_0 ⟨rfl, R⟩)))))))
      · refine pX _ (br_f ms_n10 ?_)
        have hm := S.1
        have hc14 := S.2.1
        have n4 := ms_in4 hm
        rcases xm_at va hi sz fl ch gv hs S h1 vl h3 hi' with ⟨aX, aY⟩ | ⟨j, hj, aX, aY⟩
        · exact aX _ (br_t rfl (ym_bs hs (br_t rfl (br_f w0 (br_t w95 (aY _ (br_f ms_4_0 ⟨rfl, R⟩)))))))
        · have hk' := ms_k (i := 14 * m + j) (by omega)
          have hin := ms_i56 (i := 14 * m + j) (by omega)
          have n1 : ¬ nI (14 * m + j) = -1 := ms_ne1 (by omega)
          have n0 : 0 ≤ nI (14 * m + j) := nI_pos' (by omega)
          obtain ⟨c', b1, b2, b3, b4, b5, b6, b7, b8, b9, b10⟩ := J.2.2.1 m hm
          obtain rfl : c' = c := ms_nIeq (b2.symm.trans S.2.2.2.2.1) b1 hc14
          obtain ⟨g1, g2, g3, g4, g5, g6, g7, g8⟩ := b9 j hj
          obtain ⟨n, r1, r2, fX, fY⟩ := xm_fas (r := 14 * m + j) hw (by omega) g5 g6
          refine aX _ (br_f n1 ⟨hin, ?_⟩)
          rw [hk']
          refine fX _ ⟨hin, ?_⟩
          by_cases e : n = fl (14 * m + j)
          · refine br_t e (ym_bs hs (br_t rfl (br_f w0 (br_t w95 (aY _ (br_t n0 ⟨ms_320, nm_r e5 ?_⟩))))))
            rw [hk']
            refine fY (fun z0 => wY_store_84 _ (nI s) (nI (14 * m + j)) z0 gv th va nx hi ms nu sz fl ch se ly vw) ?_
            unfold wY_store_84
            dsimp only
            rw [hk']
            exact ⟨hin, br_t e ⟨hin, nm_r (ms_updId e.symm) ⟨rfl, R⟩⟩⟩
          · refine br_f e ⟨hin, nm_e ⟨n3, ?_⟩⟩
            unfold wpX_markChanged
            dsimp only
            rw [ms_c3 hs, h1, ms_c hm, hk']
            refine ⟨n4, n4, nm_e ⟨n4, hin, nm_e ?_⟩⟩
            refine ym_bs hs (br_t rfl (br_f w0 (br_t w95 (aY _ (br_t n0 ⟨ms_320, nm_r e5 ?_⟩)))))
            rw [hk']
            refine fY (fun z0 => wY_store_84 _ (nI s) (nI (14 * m + j)) z0 gv th va nx hi ms nu sz fl ch se ly vw) ?_
            unfold wY_store_84
            dsimp only
            rw [hk', ms_c3 hs, h1, ms_c hm]
            refine ⟨hin, br_f e ⟨n3, n4, n4, nm_e ⟨n3, n4, hin, nm_e ⟨hin, nm_e ⟨rfl, ?_⟩⟩⟩⟩⟩
            rw [pk_us]
            exact ms_rel (ms_store J hk hm S.2.2.2.1 b2 b1 hj r1 r2)
end
