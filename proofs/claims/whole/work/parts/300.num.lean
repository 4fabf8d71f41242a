/-! NUMBERS: an Int32, an Int64 by an integer; arithmetic without conditions, comparisons within the range -/
def iI (z : Int) : Int32 := Int32.ofInt z
def iL (z : Int) : Int64 := Int64.ofInt z
theorem iI_add (a b : Int) : iI a + iI b = iI (a + b) := (Int32.ofInt_add a b).symm
theorem iI_sub (a b : Int) : iI a - iI b = iI (a - b) := (Int32.ofInt_sub a b).symm
theorem iI_mul (a b : Int) : iI a * iI b = iI (a * b) := (Int32.ofInt_mul a b).symm
theorem iI_neg (a : Int) : -iI a = iI (-a) := (Int32.ofInt_neg a).symm
theorem iL_add (a b : Int) : iL a + iL b = iL (a + b) := (Int64.ofInt_add a b).symm
theorem iL_sub (a b : Int) : iL a - iL b = iL (a - b) := (Int64.ofInt_sub a b).symm
theorem iL_mul (a b : Int) : iL a * iL b = iL (a * b) := (Int64.ofInt_mul a b).symm
theorem iL_neg (a : Int) : -iL a = iL (-a) := (Int64.ofInt_neg a).symm
theorem iI_nat (n : Nat) : iI n = nI n := Int32.ofInt_eq_ofNat
theorem iI_toInt {a : Int} (h1 : -2147483648 ≤ a) (h2 : a < 2147483648) : (iI a).toInt = a := Int32.toInt_ofInt_of_le (by omega) (by omega)
theorem iL_toInt {a : Int} (h1 : -9223372036854775808 ≤ a) (h2 : a < 9223372036854775808) : (iL a).toInt = a := Int64.toInt_ofInt_of_le (by omega) (by omega)
theorem iI_of (x : Int32) : ∃ a : Int, x = iI a ∧ -2147483648 ≤ a ∧ a < 2147483648 := ⟨x.toInt, (Int32.ofInt_toInt x).symm, Int32.le_toInt x, Int32.toInt_lt x⟩
theorem iI_lt {a b : Int} (a1 : -2147483648 ≤ a) (a2 : a < 2147483648) (b1 : -2147483648 ≤ b) (b2 : b < 2147483648) : iI a < iI b ↔ a < b := by
  rw [Int32.lt_iff_toInt_lt, iI_toInt a1 a2, iI_toInt b1 b2]
theorem iI_le {a b : Int} (a1 : -2147483648 ≤ a) (a2 : a < 2147483648) (b1 : -2147483648 ≤ b) (b2 : b < 2147483648) : iI a ≤ iI b ↔ a ≤ b := by
  rw [Int32.le_iff_toInt_le, iI_toInt a1 a2, iI_toInt b1 b2]
theorem iI_eq {a b : Int} (a1 : -2147483648 ≤ a) (a2 : a < 2147483648) (b1 : -2147483648 ≤ b) (b2 : b < 2147483648) : iI a = iI b ↔ a = b := by
  rw [← Int32.toInt_inj, iI_toInt a1 a2, iI_toInt b1 b2]
theorem iL_lt {a b : Int} (a1 : -9223372036854775808 ≤ a) (a2 : a < 9223372036854775808) (b1 : -9223372036854775808 ≤ b) (b2 : b < 9223372036854775808) : iL a < iL b ↔ a < b := by
  rw [Int64.lt_iff_toInt_lt, iL_toInt a1 a2, iL_toInt b1 b2]
theorem iL_le {a b : Int} (a1 : -9223372036854775808 ≤ a) (a2 : a < 9223372036854775808) (b1 : -9223372036854775808 ≤ b) (b2 : b < 9223372036854775808) : iL a ≤ iL b ↔ a ≤ b := by
  rw [Int64.le_iff_toInt_le, iL_toInt a1 a2, iL_toInt b1 b2]
theorem iL_eq {a b : Int} (a1 : -9223372036854775808 ≤ a) (a2 : a < 9223372036854775808) (b1 : -9223372036854775808 ≤ b) (b2 : b < 9223372036854775808) : iL a = iL b ↔ a = b := by
  rw [← Int64.toInt_inj, iL_toInt a1 a2, iL_toInt b1 b2]
theorem iI_L {a : Int} (h1 : -2147483648 ≤ a) (h2 : a < 2147483648) : (iI a).toInt64 = iL a := by
  apply Int64.toInt_inj.mp
  rw [Int32.toInt_toInt64, iI_toInt h1 h2, iL_toInt (by omega) (by omega)]
theorem iL_I (a : Int) : (iL a).toInt32 = iI a := Int64.toInt32_ofInt
theorem nI_L {n : Nat} (h : n < 2147483648) : (nI n).toInt64 = iL n := by
  rw [← iI_nat, iI_L (by omega) (by omega)]
/-- small ints against a long bound -/
theorem toL_lt (x : Int32) (a : Int) (h1 : -9223372036854775808 ≤ a) (h2 : a < 9223372036854775808) : (x.toInt64 < iL a ↔ x.toInt < a) ∧ (iL a < x.toInt64 ↔ a < x.toInt) := by
  rw [Int64.lt_iff_toInt_lt, Int64.lt_iff_toInt_lt, Int32.toInt_toInt64, iL_toInt h1 h2]
  exact ⟨Iff.rfl, Iff.rfl⟩
theorem ib_nI {i n : Nat} (hi : i < 2147483648) : ib (nI i) n ↔ i < n := by
  unfold ib
  rw [nI_clamp (by omega)]
  constructor
  · intro h; omega
  · intro h h2
    rcases h2 with h2 | h2
    · exact nI_pos (by omega) h2
    · omega
/-- a test, and its two ways -/
theorem within_eq (x : Int32) {a b : Int} (a1 : -9223372036854775808 ≤ a) (a2 : a < 9223372036854775808) (b1 : -9223372036854775808 ≤ b) (b2 : b < 9223372036854775808) : f_mo_within x.toInt64 (iL a) (iL b) = if a ≤ x.toInt ∧ x.toInt ≤ b then 1 else 0 := by
  unfold f_mo_within
  have h1 := (toL_lt x a a1 a2).1
  have h2 := (toL_lt x b b1 b2).2
  by_cases p : x.toInt64 < iL a
  · rw [if_pos p, if_neg (by rw [h1] at p; omega)]
  · rw [if_neg p]
    by_cases q : iL b < x.toInt64
    · rw [if_pos q, if_neg (by rw [h2] at q; omega)]
    · rw [if_neg q, if_pos (by rw [h1] at p; rw [h2] at q; omega)]
theorem bind_some {α β : Type} (a : α) (f : α → Option β) : (some a).bind f = f a := rfl
theorem nm_eq {α β : Type} (x : α) (f : α → β) : nm x f = f x := rfl
theorem uI_1 (σ : Sg) (p k : Nat) (x : Int32) (q j : Nat) : (uI σ p k x).1 q j = if q = p ∧ j = k then x else σ.1 q j := by
  unfold uI upd
  by_cases h : q = p
  · subst h; simp
  · simp [h]
theorem uI_2 (σ : Sg) (p k : Nat) (x : Int32) : (uI σ p k x).2 = σ.2 := rfl
theorem uJ_1 (σ : Sg) (p k : Nat) (x : Int64) : (uJ σ p k x).1 = σ.1 := rfl
theorem uJ_2 (σ : Sg) (p k : Nat) (x : Int64) (q j : Nat) : (uJ σ p k x).2 q j = if q = p ∧ j = k then x else σ.2 q j := by
  unfold uJ vp_updL
  by_cases h : q = p
  · subst h; simp
  · simp [h]
