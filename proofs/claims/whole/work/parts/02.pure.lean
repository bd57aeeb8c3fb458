/-! numbers, two rising rows of which one begins the other, compaction -/
theorem ms_t0 : (0 : Int32).toInt = 0 := by decide
theorem ms_t1 : (1 : Int32).toInt = 1 := by decide
theorem ms_inc {x : Int32} (h0 : 0 ≤ x.toInt) (h1 : x.toInt < 2000000) : (x + 1).toInt = x.toInt + 1 := by
  rw [Int32.toInt_add, ms_t1]
  exact Int.bmod_eq_of_le (by omega) (by omega)
theorem ms_addN {x : Int32} {g : Nat} (h0 : 0 ≤ x.toInt) (h1 : x.toInt < 2000000) (hg : g ≤ 14) : (x + nI g).toInt = x.toInt + g := by
  rw [Int32.toInt_add, nI_toInt (by omega)]
  exact Int.bmod_eq_of_le (by omega) (by omega)
theorem ms_head {A B : Nat → Int} {l c : Nat} (hA : ∀ i j, i < j → j < l → A i < A j) (hB : ∀ i j, i < j → j < c → B i < B j) (hAB : ∀ i, i < l → ∃ j, j < c ∧ B j = A i) (hcl : ∀ i j, i < l → j < c → B j ≤ A i → ∃ q, q < l ∧ A q = B j) : l ≤ c ∧ ∀ i, i < l → A i = B i := by
  have key : ∀ i, i < l → i < c ∧ A i = B i := by
    intro i
    induction i using Nat.strongRecOn with
    | ind i ih =>
      intro hi
      obtain ⟨j, hj, e⟩ := hAB i hi
      have h1 : ¬ j < i := by
        intro hji
        have z1 := (ih j hji (by omega)).2
        have z2 := hA j i hji hi
        omega
      have h2 : ¬ i < j := by
        intro hij
        have hb := hB i j hij hj
        obtain ⟨q, hq, e'⟩ := hcl i i hi (by omega) (by omega)
        have h3 : q < i := by
          rcases Nat.lt_trichotomy q i with h | h | h
          · exact h
          · subst h; omega
          · have := hA i q h hq; omega
        have h4 := (ih q h3 hq).2
        have h5 := hB q i h3 (by omega)
        omega
      have h3 : j = i := by omega
      subst h3
      exact ⟨hj, e.symm⟩
  refine ⟨?_, fun i hi => (key i hi).2⟩
  cases l with
  | zero => omega
  | succ n => have := (key n (by omega)).1; omega
/-- the first i places, filtered by P, are the p places g 0 < g 1 < .. -/
def ms_Gi (P : Nat → Prop) (i p : Nat) (g : Nat → Nat) : Prop :=
  p ≤ i ∧ (∀ q, q < p → q ≤ g q ∧ g q < i ∧ P (g q)) ∧ (∀ q r, q < r → r < p → g q < g r) ∧ (∀ j, j < i → P j → ∃ q, q < p ∧ g q = j)
/-- a' is a with the places g 0, g 1, .. of the run at b moved to its head -/
def ms_Mv (b p : Nat) (g : Nat → Nat) (a a' : Nat → Int32) : Prop :=
  (∀ q, q < p → a' (b + q) = a (b + g q)) ∧ (∀ x, x < b ∨ b + p ≤ x → a' x = a x)
def ms_gx (g : Nat → Nat) (p i : Nat) : Nat → Nat := fun q => if q = p then i else g q
theorem ms_gxs {g : Nat → Nat} {p i : Nat} : ms_gx g p i p = i := if_pos rfl
theorem ms_gxn {g : Nat → Nat} {p i q : Nat} (h : q ≠ p) : ms_gx g p i q = g q := if_neg h
theorem ms_Gi0 {P : Nat → Prop} {g : Nat → Nat} : ms_Gi P 0 0 g :=
  ⟨Nat.le_refl 0, fun q h => absurd h (Nat.not_lt_zero q), fun _ r _ h => absurd h (Nat.not_lt_zero r), fun j h _ => absurd h (Nat.not_lt_zero j)⟩
theorem ms_GiN {P : Nat → Prop} {i p : Nat} {g : Nat → Nat} (h : ms_Gi P i p g) (n : ¬ P i) : ms_Gi P (i + 1) p g := by
  obtain ⟨a, b, c, d⟩ := h
  refine ⟨by omega, fun q hq => ⟨(b q hq).1, by have := (b q hq).2.1; omega, (b q hq).2.2⟩, c, fun j hj pj => ?_⟩
  by_cases e : j = i
  · subst e; exact absurd pj n
  · exact d j (by omega) pj
theorem ms_GiT {P : Nat → Prop} {i p : Nat} {g : Nat → Nat} (h : ms_Gi P i p g) (n : P i) : ms_Gi P (i + 1) (p + 1) (ms_gx g p i) := by
  obtain ⟨a, b, c, d⟩ := h
  refine ⟨by omega, fun q hq => ?_, fun q r hqr hr => ?_, fun j hj pj => ?_⟩
  · by_cases e : q = p
    · subst e; rw [ms_gxs]; exact ⟨a, by omega, n⟩
    · rw [ms_gxn e]; have z := b q (by omega); exact ⟨z.1, by omega, z.2.2⟩
  · have e : q ≠ p := by omega
    rw [ms_gxn e]
    by_cases e2 : r = p
    · subst e2; rw [ms_gxs]; exact (b q (by omega)).2.1
    · rw [ms_gxn e2]; exact c q r hqr (by omega)
  · by_cases e : j = i
    · exact ⟨p, by omega, by rw [ms_gxs, e]⟩
    · obtain ⟨q, hq, eq⟩ := d j (by omega) pj
      exact ⟨q, by omega, by rw [ms_gxn (by omega)]; exact eq⟩
theorem ms_Mv0 {b : Nat} {g : Nat → Nat} {a : Nat → Int32} : ms_Mv b 0 g a a :=
  ⟨fun q h => absurd h (Nat.not_lt_zero q), fun _ _ => rfl⟩
theorem ms_MvT {b p i : Nat} {g : Nat → Nat} {a a' : Nat → Int32} {x : Int32} (h : ms_Mv b p g a a') (hp : p ≤ i) (hx : x = a' (b + i)) : ms_Mv b (p + 1) (ms_gx g p i) a (upd a' (b + p) x) := by
  obtain ⟨h1, h2⟩ := h
  refine ⟨fun q hq => ?_, fun y hy => ?_⟩
  · by_cases e : q = p
    · subst e; rw [ms_gxs, pk_us, hx]; exact h2 _ (by omega)
    · rw [ms_gxn e, pk_un (by omega)]; exact h1 q (by omega)
  · rw [pk_un (by omega)]; exact h2 y (by omega)
