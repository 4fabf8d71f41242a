/-! THE STATIONS as integers: number, heights, missed, gone, back, error, speed -/
abbrev TS : Type := Nat × (Nat → Int) × (Nat → Bool) × (Nat → Int) × (Nat → Int) × (Nat → Int) × Int
def tN (T : TS) : Nat := T.1
def tH (T : TS) : Nat → Int := T.2.1
def tM (T : TS) : Nat → Bool := T.2.2.1
def tG (T : TS) : Nat → Int := T.2.2.2.1
def tB (T : TS) : Nat → Int := T.2.2.2.2.1
def tE (T : TS) : Nat → Int := T.2.2.2.2.2.1
def tS (T : TS) : Int := T.2.2.2.2.2.2
def lo (T : TS) (k : Nat) : Int := tS T * (tG T k - tE T k)
def li (T : TS) (k : Nat) : Int := tS T * (tG T k + tE T k)
def ri (T : TS) (k : Nat) : Int := tS T * (tB T k - tE T k)
def ro (T : TS) (k : Nat) : Int := tS T * (tB T k + tE T k)
/-- what a station is -/
def OkS (T : TS) (k : Nat) : Prop := (-200 ≤ tH T k ∧ tH T k ≤ 200) ∧ (-500 ≤ tG T k ∧ tG T k ≤ 500) ∧ (-500 ≤ tB T k ∧ tB T k ≤ 500) ∧ (0 ≤ tE T k ∧ tE T k ≤ 20) ∧ (tM T k = false → tG T k + 2 * tE T k < tB T k)
def Ok (T : TS) : Prop := tN T ≤ 8 ∧ (1 ≤ tS T ∧ tS T ≤ 20) ∧ (∀ k, k < tN T → OkS T k) ∧ ∀ j k, j < tN T → k < tN T → tH T j = tH T k → j = k
theorem mb {a b A B : Int} (a1 : -A ≤ a) (a2 : a ≤ A) (b1 : -B ≤ b) (b2 : b ≤ B) : -(A * B) ≤ a * b ∧ a * b ≤ A * B := by
  have h1 : 0 ≤ (A - a) * (B + b) := Int.mul_nonneg (by omega) (by omega)
  have h2 : 0 ≤ (A + a) * (B - b) := Int.mul_nonneg (by omega) (by omega)
  have h3 : 0 ≤ (A - a) * (B - b) := Int.mul_nonneg (by omega) (by omega)
  have h4 : 0 ≤ (A + a) * (B + b) := Int.mul_nonneg (by omega) (by omega)
  simp only [Int.sub_mul, Int.add_mul, Int.mul_sub, Int.mul_add] at h1 h2 h3 h4
  constructor <;> omega
theorem ends_b {T : TS} (h : Ok T) {k : Nat} (hk : k < tN T) : (-10400 ≤ lo T k ∧ lo T k ≤ 10400) ∧ (-10400 ≤ li T k ∧ li T k ≤ 10400) ∧ (-10400 ≤ ri T k ∧ ri T k ≤ 10400) ∧ (-10400 ≤ ro T k ∧ ro T k ≤ 10400) := by
  obtain ⟨-, ⟨s1, s2⟩, hs, -⟩ := h
  obtain ⟨-, hg, hb, he, -⟩ := hs k hk
  refine ⟨?_, ?_, ?_, ?_⟩
  · have := mb (a := tS T) (A := 20) (b := tG T k - tE T k) (B := 520) (by omega) (by omega) (by omega) (by omega)
    unfold lo; omega
  · have := mb (a := tS T) (A := 20) (b := tG T k + tE T k) (B := 520) (by omega) (by omega) (by omega) (by omega)
    unfold li; omega
  · have := mb (a := tS T) (A := 20) (b := tB T k - tE T k) (B := 520) (by omega) (by omega) (by omega) (by omega)
    unfold ri; omega
  · have := mb (a := tS T) (A := 20) (b := tB T k + tE T k) (B := 520) (by omega) (by omega) (by omega) (by omega)
    unfold ro; omega
theorem li_ri {T : TS} (h : Ok T) {k : Nat} (hk : k < tN T) (hm : tM T k = false) : li T k < ri T k := by
  obtain ⟨-, ⟨s1, s2⟩, hs, -⟩ := h
  obtain ⟨-, hg, hb, he, hl⟩ := hs k hk
  have h1 := hl hm
  have : 0 < tS T * ((tB T k - tE T k) - (tG T k + tE T k)) := Int.mul_pos (by omega) (by omega)
  rw [Int.mul_sub] at this
  unfold li ri
  omega
def b01 (b : Bool) : Int32 := if b = true then 1 else 0
theorem b01_0 (b : Bool) : b01 b = 0 ↔ b = false := by cases b <;> decide
theorem b01_and (b : Bool) : b01 b &&& 1 = b01 b := by cases b <;> decide
/-- the class's roster, the model's -/
def RX (T : TS) (σ : Sg) : Prop := σ.1 4 5 = nI (tN T) ∧ σ.1 4 6 = iI (tS T) ∧ ∀ k, k < tN T → σ.1 5 k = iI (tH T k) ∧ σ.1 6 k = b01 (tM T k) ∧ σ.1 7 k = iI (tG T k) ∧ σ.1 8 k = iI (tB T k) ∧ σ.1 9 k = iI (tE T k)
def RM (T : TS) (σ : Sg) : Prop := σ.1 20 2 = nI (tN T) ∧ σ.1 20 8 = iI (tS T) ∧ ∀ k, k < tN T → σ.1 22 k = iI (tH T k) ∧ σ.1 23 k = b01 (tM T k) ∧ σ.1 24 k = iI (tG T k) ∧ σ.1 25 k = iI (tB T k) ∧ σ.1 26 k = iI (tE T k)
theorem nlt0 {k : Nat} (h : k < 2147483648) : ¬ nI k < 0 := nI_pos (by omega)
theorem n8 {k : Nat} (h : k < 2147483648) : nI k < 8 ↔ k < 8 := nI_ltI (by omega) (by decide : 8 < 2 ^ 31)
theorem x_inner {T : TS} {σ : Sg} (hO : Ok T) (h : RX T σ) {k : Nat} (hk : k < tN T) : f_ro_inner σ (nI k) 0 = some (iI (li T k)) ∧ f_ro_inner σ (nI k) 1 = some (iI (-(ri T k))) := by
  have h8 : tN T ≤ 8 := hO.1
  obtain ⟨-, hs, hr⟩ := h
  obtain ⟨-, -, hg, hb, he⟩ := hr k hk
  have i1 : ib (nI k) 8 := (ib_nI (by omega)).mpr (by omega)
  have n1 : ¬ nI k < 0 := nlt0 (by omega)
  have n2 : nI k < 8 := (n8 (by omega)).mpr (by omega)
  have e10 : ¬ ((1 : Int32) = 0) := by decide
  unfold f_ro_inner
  simp only [n1, n2, if_pos i1, e10, if_true, if_false, nI_clamp (show k < 2 ^ 31 by omega), hs, hg, hb, he, iI_add, iI_sub, iI_neg, iI_mul, Int.neg_mul]
  exact ⟨rfl, rfl⟩
theorem x_outer {T : TS} {σ : Sg} (hO : Ok T) (h : RX T σ) {k : Nat} (hk : k < tN T) : f_ro_outer σ (nI k) 0 = some (iI (lo T k)) ∧ f_ro_outer σ (nI k) 1 = some (iI (-(ro T k))) := by
  have h8 : tN T ≤ 8 := hO.1
  obtain ⟨-, hs, hr⟩ := h
  obtain ⟨-, -, hg, hb, he⟩ := hr k hk
  have i1 : ib (nI k) 8 := (ib_nI (by omega)).mpr (by omega)
  have n1 : ¬ nI k < 0 := nlt0 (by omega)
  have n2 : nI k < 8 := (n8 (by omega)).mpr (by omega)
  have e10 : ¬ ((1 : Int32) = 0) := by decide
  unfold f_ro_outer
  simp only [n1, n2, if_pos i1, e10, if_true, if_false, nI_clamp (show k < 2 ^ 31 by omega), hs, hg, hb, he, iI_add, iI_sub, iI_neg, iI_mul, Int.neg_mul]
  exact ⟨rfl, rfl⟩
theorem m_bound {T : TS} {σ : Sg} (hO : Ok T) (h : RM T σ) {k : Nat} (hk : k < tN T) : f_mo_bound σ (nI k) 0 = some (iI (lo T k)) ∧ f_mo_bound σ (nI k) 1 = some (iI (li T k)) ∧ f_mo_bound σ (nI k) 2 = some (iI (ri T k)) ∧ f_mo_bound σ (nI k) 3 = some (iI (ro T k)) := by
  have h8 : tN T ≤ 8 := hO.1
  obtain ⟨-, hs, hr⟩ := h
  obtain ⟨-, -, hg, hb, he⟩ := hr k hk
  have i1 : ib (nI k) 8 := (ib_nI (by omega)).mpr (by omega)
  unfold f_mo_bound f_mo_bound_c20
  simp only [if_pos i1, nI_clamp (show k < 2 ^ 31 by omega), hs, hg, hb, he, iI_add, iI_sub, iI_mul]
  refine ⟨?_, ?_, ?_, ?_⟩
  · rw [if_neg (by decide), if_pos (by decide)]; rfl
  · rw [if_neg (by decide), if_neg (by decide)]; rfl
  · rw [if_pos (by decide), if_pos (by decide)]; rfl
  · rw [if_pos (by decide), if_neg (by decide)]; rfl
