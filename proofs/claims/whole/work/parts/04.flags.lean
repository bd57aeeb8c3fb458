/-! flags, and small numbers -/
theorem ms_small {f : Int32} (h0 : 0 ≤ f.toInt) (h1 : f.toInt < 32) : ∃ n : Fin 32, f = nI n.val := by
  refine ⟨⟨f.toInt.toNat, by omega⟩, Int32.toInt_inj.mp ?_⟩
  show f.toInt = (nI f.toInt.toNat).toInt
  rw [nI_toInt (by omega)]
  omega
theorem ms_even0 : ∀ n : Fin 32, (nI n.val &&& 1 = 0) ↔ (nI n.val - nI n.val / 2 * 2 = 0) := by decide +kernel
theorem ms_or0 : ∀ a b : Fin 32, 0 ≤ (nI a.val ||| nI b.val).toInt ∧ (nI a.val ||| nI b.val).toInt < 32 := by decide +kernel
theorem ms_an0 : ∀ a b : Fin 32, 0 ≤ (nI a.val &&& (nI b.val ^^^ (-1))).toInt ∧ (nI a.val &&& (nI b.val ^^^ (-1))).toInt < 32 := by decide +kernel
theorem ms_even {f : Int32} (h0 : 0 ≤ f.toInt) (h1 : f.toInt < 32) : (f &&& 1 = 0) ↔ (f - f / 2 * 2 = 0) := by
  obtain ⟨n, rfl⟩ := ms_small h0 h1
  exact ms_even0 n
theorem ms_or {f g : Int32} (h0 : 0 ≤ f.toInt) (h1 : f.toInt < 32) (g0 : 0 ≤ g.toInt) (g1 : g.toInt < 32) : 0 ≤ (f ||| g).toInt ∧ (f ||| g).toInt < 32 := by
  obtain ⟨n, rfl⟩ := ms_small h0 h1
  obtain ⟨p, rfl⟩ := ms_small g0 g1
  exact ms_or0 n p
theorem ms_an {f g : Int32} (h0 : 0 ≤ f.toInt) (h1 : f.toInt < 32) (g0 : 0 ≤ g.toInt) (g1 : g.toInt < 32) : 0 ≤ (f &&& (g ^^^ (-1))).toInt ∧ (f &&& (g ^^^ (-1))).toInt < 32 := by
  obtain ⟨n, rfl⟩ := ms_small h0 h1
  obtain ⟨p, rfl⟩ := ms_small g0 g1
  exact ms_an0 n p
theorem ms_nIr {a : Nat} (h : a < 2 ^ 31) : 0 ≤ (nI a).toInt ∧ (nI a).toInt = (a : Int) := by
  rw [nI_toInt h]; omega
theorem ms_c4 (a : Nat) : nI a * 14 = nI (14 * a) := by
  have h := pk_mul a 14
  rw [Nat.mul_comm] at h
  exact h
theorem ms_c4' (a : Nat) : 14 * nI a = nI (14 * a) := pk_mul 14 a
theorem ms_ne1 {a : Nat} (h : a < 2 ^ 31) : ¬ nI a = -1 := by
  intro e
  have z := congrArg Int32.toInt e
  rw [nI_toInt h, show (-1 : Int32).toInt = -1 from by decide] at z
  omega
theorem ms_m1lt : (-1 : Int32) < 0 := by decide
theorem ms_nlt0 {a : Nat} (h : a < 2 ^ 31) : ¬ nI a < 0 := nI_pos h
