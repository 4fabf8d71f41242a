/-! LOWEST TERMS -/
theorem iL_nat (n : Nat) : iL n = lN n := Int64.ofInt_eq_ofNat
def gd2 (t b : Int) : Nat := Nat.gcd b.natAbs t.natAbs
theorem gd2_pos {t b : Int} (hb : 1 ≤ b) : 0 < gd2 t b := Nat.gcd_pos_of_pos_left _ (by omega)
theorem gd2_le {t b : Int} (hb : 1 ≤ b) : gd2 t b ≤ b.natAbs := Nat.gcd_le_left _ (by omega)
def rt (t b : Int) : Int := t / (gd2 t b : Int)
def rb (t b : Int) : Int := b / (gd2 t b : Int)
theorem rt_mul (t b : Int) : (gd2 t b : Int) * rt t b = t := Int.mul_ediv_cancel' (Int.ofNat_dvd_left.mpr (Nat.gcd_dvd_right _ _))
theorem rb_mul (t b : Int) : (gd2 t b : Int) * rb t b = b := Int.mul_ediv_cancel' (Int.ofNat_dvd_left.mpr (Nat.gcd_dvd_left _ _))
theorem r_cop {t b : Int} (hb : 1 ≤ b) : Nat.gcd (rb t b).natAbs (rt t b).natAbs = 1 := by
  have hg := gd2_pos (t := t) hb
  have e1 : b.natAbs = gd2 t b * (rb t b).natAbs := by
    conv => lhs; rw [← rb_mul t b]
    rw [Int.natAbs_mul, Int.natAbs_natCast]
  have e2 : t.natAbs = gd2 t b * (rt t b).natAbs := by
    conv => lhs; rw [← rt_mul t b]
    rw [Int.natAbs_mul, Int.natAbs_natCast]
  have h : Nat.gcd (gd2 t b * (rb t b).natAbs) (gd2 t b * (rt t b).natAbs) = gd2 t b := by
    rw [← e1, ← e2]; rfl
  rw [Nat.gcd_mul_left] at h
  exact Nat.eq_of_mul_eq_mul_left hg (by rw [h, Nat.mul_one])
theorem rb_pos {t b : Int} (hb : 1 ≤ b) : 0 < rb t b := by
  have h := rb_mul t b
  have hg := gd2_pos (t := t) hb
  rcases Int.lt_or_le 0 (rb t b) with h1 | h1
  · exact h1
  · have : (gd2 t b : Int) * rb t b ≤ 0 := Int.mul_nonpos_of_nonneg_of_nonpos (by omega) h1
    omega
/-- equal fractions have the same lowest terms -/
theorem r_same {t b t' b' : Int} (hb : 1 ≤ b) (hb' : 1 ≤ b') (h : t * b' = t' * b) : rt t b = rt t' b' ∧ rb t b = rb t' b' := by
  have p := rb_pos (t := t) hb
  have p' := rb_pos (t := t') hb'
  have g := gd2_pos (t := t) hb
  have g' := gd2_pos (t := t') hb'
  have c := r_cop (t := t) hb
  have c' := r_cop (t := t') hb'
  have key : rt t b * rb t' b' = rt t' b' * rb t b := by
    have e : ((gd2 t b : Int) * (gd2 t' b' : Int)) * (rt t b * rb t' b') = ((gd2 t b : Int) * (gd2 t' b' : Int)) * (rt t' b' * rb t b) := by
      have e1 : ((gd2 t b : Int) * (gd2 t' b' : Int)) * (rt t b * rb t' b') = ((gd2 t b : Int) * rt t b) * ((gd2 t' b' : Int) * rb t' b') := by grind
      have e2 : ((gd2 t b : Int) * (gd2 t' b' : Int)) * (rt t' b' * rb t b) = ((gd2 t' b' : Int) * rt t' b') * ((gd2 t b : Int) * rb t b) := by grind
      rw [e1, e2, rt_mul, rb_mul, rt_mul, rb_mul, h]
    exact Int.eq_of_mul_eq_mul_left (by
      have : 0 < (gd2 t b : Int) * (gd2 t' b' : Int) := Int.mul_pos (by omega) (by omega)
      omega) e
  have kn : (rt t b).natAbs * (rb t' b').natAbs = (rt t' b').natAbs * (rb t b).natAbs := by
    rw [← Int.natAbs_mul, ← Int.natAbs_mul, key]
  have d1 : (rb t b).natAbs ∣ (rb t' b').natAbs := by
    have : (rb t b).natAbs ∣ (rt t b).natAbs * (rb t' b').natAbs := ⟨(rt t' b').natAbs, by rw [kn, Nat.mul_comm]⟩
    exact Nat.Coprime.dvd_of_dvd_mul_left c this
  have d2 : (rb t' b').natAbs ∣ (rb t b).natAbs := by
    have : (rb t' b').natAbs ∣ (rt t' b').natAbs * (rb t b).natAbs := ⟨(rt t b).natAbs, by rw [← kn, Nat.mul_comm]⟩
    exact Nat.Coprime.dvd_of_dvd_mul_left c' this
  have eb : rb t b = rb t' b' := by
    have := Nat.dvd_antisymm d1 d2
    omega
  refine ⟨?_, eb⟩
  rw [eb] at key
  exact Int.eq_of_mul_eq_mul_right (by omega) key
theorem div_ex {g u : Int} (g1 : 1 ≤ g) (g2 : g ≤ 400) (h1 : -8320000 ≤ g * u) (h2 : g * u ≤ 8320000) : iL (g * u) / iL g = iL u := by
  apply Int64.toInt_inj.mp
  have hg : iL g ≠ -1 := by
    rw [show (-1 : Int64) = iL (-1) from rfl]
    intro z
    have := (iL_eq (by omega) (by omega) (by omega) (by omega)).mp z
    omega
  have hu : -8320000 ≤ u ∧ u ≤ 8320000 := by
    rcases Int.lt_or_le u 0 with h | h
    · have : 0 ≤ (g - 1) * (-u) := Int.mul_nonneg (by omega) (by omega)
      rw [Int.sub_mul, Int.mul_neg] at this
      omega
    · have : 0 ≤ (g - 1) * u := Int.mul_nonneg (by omega) (by omega)
      rw [Int.sub_mul] at this
      omega
  rw [Int64.toInt_div_of_ne_right _ _ hg, iL_toInt (by omega) (by omega), iL_toInt (by omega) (by omega), iL_toInt (by omega) (by omega), Int.mul_tdiv_cancel_left _ (by omega)]
theorem mod_half {x y r : Nat} (hr : 0 < r) (hry : r < y) : 2 * (y % r) < y := by
  have h1 := Nat.mod_lt y hr
  have h2 : y % r ≤ y - r := by
    rw [Nat.mod_eq_sub_mod (by omega)]
    exact Nat.mod_le _ _
  omega
theorem lN0 {n : Nat} (h : n < 2 ^ 63) : lN n = 0 ↔ n = 0 := pk_lEQ (b := 0) h (by decide)
theorem m_gcd {N : Nat} : ∀ (k m x y : Nat), y < 2 ^ k → 2 * k < m → x < 2 ^ 40 → y < 2 ^ 40 → f_mo_common_c17 N m (lN x) (lN y) = some (lN (Nat.gcd y x)) := by
  intro k
  induction k with
  | zero =>
    intro m x y hy hm hx hy2
    have : y = 0 := by omega
    subst this
    obtain ⟨m1, rfl⟩ : ∃ m1, m = m1 + 1 := ⟨m - 1, by omega⟩
    show f_mo_common_c17_s N (f_mo_common_c17 N m1) (lN x) (lN 0) = _
    unfold f_mo_common_c17_s
    rw [if_pos (show lN 0 = 0 from rfl), Nat.gcd_zero_left]
  | succ k ih =>
    intro m x y hy hm hx hy2
    obtain ⟨m1, rfl⟩ : ∃ m1, m = m1 + 2 := ⟨m - 2, by omega⟩
    show f_mo_common_c17_s N (f_mo_common_c17 N (m1 + 1)) (lN x) (lN y) = _
    unfold f_mo_common_c17_s
    by_cases c : y = 0
    · subst c
      rw [if_pos (show lN 0 = 0 from rfl), Nat.gcd_zero_left]
    · have n1 : ¬ lN y = 0 := fun z => c ((lN0 (by omega)).mp z)
      have hr := Nat.mod_lt x (show y > 0 by omega)
      rw [if_neg n1, if_pos n1, pk_lRem (by omega) (by omega) (by omega), Nat.gcd_rec]
      generalize hr0 : x % y = r at *
      show f_mo_common_c17_s N (f_mo_common_c17 N m1) (lN y) (lN r) = _
      unfold f_mo_common_c17_s
      by_cases c2 : r = 0
      · subst c2
        rw [if_pos (show lN 0 = 0 from rfl), Nat.gcd_zero_left]
      · have n2 : ¬ lN r = 0 := fun z => c2 ((lN0 (by omega)).mp z)
        have hh := mod_half (x := x) (show 0 < r by omega) hr
        have hp : 2 ^ (k + 1) = 2 * 2 ^ k := by rw [Nat.pow_succ, Nat.mul_comm]
        rw [if_neg n2, if_pos n2, pk_lRem (by omega) (by omega) (by omega), ih m1 r (y % r) (by omega) (by omega) (by omega) (by omega), ← Nat.gcd_rec]
theorem x_gcd_18 {N : Nat} {σ : Sg} : ∀ (k m st x y : Nat), y < 2 ^ k → 2 * k < m → 2 * k + st < 100 → x < 2 ^ 40 → y < 2 ^ 40 → f_bo_divisor_18_c16 N m (lN x) (lN y) (nI st) σ = f_bo_divisor_18_c45 N (lN (Nat.gcd y x)) σ := by
  intro k
  induction k with
  | zero =>
    intro m st x y hy hm hst hx hy2
    have : y = 0 := by omega
    subst this
    obtain ⟨m1, rfl⟩ : ∃ m1, m = m1 + 1 := ⟨m - 1, by omega⟩
    show f_bo_divisor_18_c16_s N (f_bo_divisor_18_c16 N m1) (lN x) (lN 0) (nI st) σ = _
    unfold f_bo_divisor_18_c16_s
    rw [if_pos (show lN 0 = 0 from rfl), Nat.gcd_zero_left, ite_self]
  | succ k ih =>
    intro m st x y hy hm hst hx hy2
    obtain ⟨m1, rfl⟩ : ∃ m1, m = m1 + 2 := ⟨m - 2, by omega⟩
    show f_bo_divisor_18_c16_s N (f_bo_divisor_18_c16 N (m1 + 1)) (lN x) (lN y) (nI st) σ = _
    unfold f_bo_divisor_18_c16_s
    have s1 : ¬ ((100 : Int32) ≤ nI st) := by rw [show (100 : Int32) = nI 100 from rfl, nI_leI (by omega) (by omega)]; omega
    have s2 : ¬ ((100 : Int32) ≤ nI (st + 1)) := by rw [show (100 : Int32) = nI 100 from rfl, nI_leI (by omega) (by omega)]; omega
    rw [if_neg s1]
    by_cases c : y = 0
    · subst c
      rw [if_pos (show lN 0 = 0 from rfl), Nat.gcd_zero_left]
    · have n1 : ¬ lN y = 0 := fun z => c ((lN0 (by omega)).mp z)
      have hr := Nat.mod_lt x (show y > 0 by omega)
      rw [if_neg n1, if_pos n1, pk_lRem (by omega) (by omega) (by omega), Nat.gcd_rec, nI_1]
      generalize hr0 : x % y = r at *
      show f_bo_divisor_18_c16_s N (f_bo_divisor_18_c16 N m1) (lN y) (lN r) (nI (st + 1)) σ = _
      unfold f_bo_divisor_18_c16_s
      rw [if_neg s2]
      by_cases c2 : r = 0
      · subst c2
        rw [if_pos (show lN 0 = 0 from rfl), Nat.gcd_zero_left]
      · have n2 : ¬ lN r = 0 := fun z => c2 ((lN0 (by omega)).mp z)
        have hh := mod_half (x := x) (show 0 < r by omega) hr
        have hp : 2 ^ (k + 1) = 2 * 2 ^ k := by rw [Nat.pow_succ, Nat.mul_comm]
        rw [if_neg n2, if_pos n2, pk_lRem (by omega) (by omega) (by omega), nI_1, ih m1 (st + 1 + 1) r (y % r) (by omega) (by omega) (by omega) (by omega) (by omega), ← Nat.gcd_rec]
theorem x_div_18 {N : Nat} (hN : 600 ≤ N) {σ : Sg} {q : Int × Int} (h : BX 18 (1) (some q) σ) (hk : FRk (some q)) : f_bo_divisor_18 N σ = some (iL (gd2 q.1 q.2 : Int)) := by
  obtain ⟨⟨q1, q2⟩, q3, q4⟩ := hk q rfl
  have hg := gd2_pos (t := q.1) q3
  have hl := gd2_le (t := q.1) q3
  unfold f_bo_divisor_18
  rw [h.2.1, h.2.2]
  have ea : f_jm_abs_067f4 (iL (1 * q.1)) = lN q.1.natAbs := by
    unfold f_jm_abs_067f4
    rw [← iL_nat]
    have e : (0 : Int64) ≤ iL (1 * q.1) ↔ 0 ≤ 1 * q.1 := iL_le (a := 0) (by omega) (by omega) (by omega) (by omega)
    by_cases c : 0 ≤ 1 * q.1
    · rw [if_pos (e.mpr c)]; congr 1; omega
    · rw [if_neg (fun z => c (e.mp z)), iL_neg]; congr 1; omega
  have eb : iL q.2 = lN q.2.natAbs := by rw [← iL_nat]; congr 1; omega
  rw [ea, eb, show (0 : Int32) = nI 0 from rfl, x_gcd_18 9 N 0 _ _ (by omega) (by omega) (by omega) (by omega) (by omega)]
  unfold f_bo_divisor_18_c45
  have e : ¬ (lN (Nat.gcd q.2.natAbs q.1.natAbs) ≤ 0) := by
    rw [show (0 : Int64) = lN 0 from rfl, pk_lLE (by have : Nat.gcd q.2.natAbs q.1.natAbs = gd2 q.1 q.2 := rfl; omega) (by decide)]
    have : Nat.gcd q.2.natAbs q.1.natAbs = gd2 q.1 q.2 := rfl
    omega
  rw [if_neg e, iL_nat]
  rfl
theorem x_low_18 {N : Nat} (hN : 600 ≤ N) {σ : Sg} {q : Int × Int} (h : BX 18 (1) (some q) σ) (hk : FRk (some q)) : f_bo_lowestTop_18 N σ = some (iI (1 * rt q.1 q.2)) ∧ f_bo_lowestBottom_18 N σ = some (iI (rb q.1 q.2)) := by
  obtain ⟨⟨q1, q2⟩, q3, q4⟩ := hk q rfl
  have hg := gd2_pos (t := q.1) q3
  have hl := gd2_le (t := q.1) q3
  have n0 : ¬ iL (gd2 q.1 q.2 : Int) = 0 := fun z => by
    have := (iL_eq (b := 0) (by omega) (by omega) (by omega) (by omega)).mp z
    omega
  have m1 := rt_mul q.1 q.2
  have m2 := rb_mul q.1 q.2
  have e1 : 1 * q.1 = (gd2 q.1 q.2 : Int) * (1 * rt q.1 q.2) := by
    conv => lhs; rw [← m1]
    grind
  have e1' : iL (1 * q.1) / iL (gd2 q.1 q.2 : Int) = iL (1 * rt q.1 q.2) := by
    rw [e1]
    exact div_ex (by omega) (by omega) (by omega) (by omega)
  have e2' : iL q.2 / iL (gd2 q.1 q.2 : Int) = iL (rb q.1 q.2) := by
    have := div_ex (g := (gd2 q.1 q.2 : Int)) (u := rb q.1 q.2) (by omega) (by omega) (by omega) (by omega)
    rw [m2] at this
    exact this
  unfold f_bo_lowestTop_18 f_bo_lowestBottom_18
  rw [x_div_18 hN h hk, bind_some, bind_some, if_pos n0, if_pos n0, h.2.1, h.2.2, e1', e2', iL_I, iL_I]
  exact ⟨rfl, rfl⟩
theorem x_gcd_19 {N : Nat} {σ : Sg} : ∀ (k m st x y : Nat), y < 2 ^ k → 2 * k < m → 2 * k + st < 100 → x < 2 ^ 40 → y < 2 ^ 40 → f_bo_divisor_19_c16 N m (lN x) (lN y) (nI st) σ = f_bo_divisor_19_c45 N (lN (Nat.gcd y x)) σ := by
  intro k
  induction k with
  | zero =>
    intro m st x y hy hm hst hx hy2
    have : y = 0 := by omega
    subst this
    obtain ⟨m1, rfl⟩ : ∃ m1, m = m1 + 1 := ⟨m - 1, by omega⟩
    show f_bo_divisor_19_c16_s N (f_bo_divisor_19_c16 N m1) (lN x) (lN 0) (nI st) σ = _
    unfold f_bo_divisor_19_c16_s
    rw [if_pos (show lN 0 = 0 from rfl), Nat.gcd_zero_left, ite_self]
  | succ k ih =>
    intro m st x y hy hm hst hx hy2
    obtain ⟨m1, rfl⟩ : ∃ m1, m = m1 + 2 := ⟨m - 2, by omega⟩
    show f_bo_divisor_19_c16_s N (f_bo_divisor_19_c16 N (m1 + 1)) (lN x) (lN y) (nI st) σ = _
    unfold f_bo_divisor_19_c16_s
    have s1 : ¬ ((100 : Int32) ≤ nI st) := by rw [show (100 : Int32) = nI 100 from rfl, nI_leI (by omega) (by omega)]; omega
    have s2 : ¬ ((100 : Int32) ≤ nI (st + 1)) := by rw [show (100 : Int32) = nI 100 from rfl, nI_leI (by omega) (by omega)]; omega
    rw [if_neg s1]
    by_cases c : y = 0
    · subst c
      rw [if_pos (show lN 0 = 0 from rfl), Nat.gcd_zero_left]
    · have n1 : ¬ lN y = 0 := fun z => c ((lN0 (by omega)).mp z)
      have hr := Nat.mod_lt x (show y > 0 by omega)
      rw [if_neg n1, if_pos n1, pk_lRem (by omega) (by omega) (by omega), Nat.gcd_rec, nI_1]
      generalize hr0 : x % y = r at *
      show f_bo_divisor_19_c16_s N (f_bo_divisor_19_c16 N m1) (lN y) (lN r) (nI (st + 1)) σ = _
      unfold f_bo_divisor_19_c16_s
      rw [if_neg s2]
      by_cases c2 : r = 0
      · subst c2
        rw [if_pos (show lN 0 = 0 from rfl), Nat.gcd_zero_left]
      · have n2 : ¬ lN r = 0 := fun z => c2 ((lN0 (by omega)).mp z)
        have hh := mod_half (x := x) (show 0 < r by omega) hr
        have hp : 2 ^ (k + 1) = 2 * 2 ^ k := by rw [Nat.pow_succ, Nat.mul_comm]
        rw [if_neg n2, if_pos n2, pk_lRem (by omega) (by omega) (by omega), nI_1, ih m1 (st + 1 + 1) r (y % r) (by omega) (by omega) (by omega) (by omega) (by omega), ← Nat.gcd_rec]
theorem x_div_19 {N : Nat} (hN : 600 ≤ N) {σ : Sg} {q : Int × Int} (h : BX 19 (-1) (some q) σ) (hk : FRk (some q)) : f_bo_divisor_19 N σ = some (iL (gd2 q.1 q.2 : Int)) := by
  obtain ⟨⟨q1, q2⟩, q3, q4⟩ := hk q rfl
  have hg := gd2_pos (t := q.1) q3
  have hl := gd2_le (t := q.1) q3
  unfold f_bo_divisor_19
  rw [h.2.1, h.2.2]
  have ea : f_jm_abs_067f4 (iL (-1 * q.1)) = lN q.1.natAbs := by
    unfold f_jm_abs_067f4
    rw [← iL_nat]
    have e : (0 : Int64) ≤ iL (-1 * q.1) ↔ 0 ≤ -1 * q.1 := iL_le (a := 0) (by omega) (by omega) (by omega) (by omega)
    by_cases c : 0 ≤ -1 * q.1
    · rw [if_pos (e.mpr c)]; congr 1; omega
    · rw [if_neg (fun z => c (e.mp z)), iL_neg]; congr 1; omega
  have eb : iL q.2 = lN q.2.natAbs := by rw [← iL_nat]; congr 1; omega
  rw [ea, eb, show (0 : Int32) = nI 0 from rfl, x_gcd_19 9 N 0 _ _ (by omega) (by omega) (by omega) (by omega) (by omega)]
  unfold f_bo_divisor_19_c45
  have e : ¬ (lN (Nat.gcd q.2.natAbs q.1.natAbs) ≤ 0) := by
    rw [show (0 : Int64) = lN 0 from rfl, pk_lLE (by have : Nat.gcd q.2.natAbs q.1.natAbs = gd2 q.1 q.2 := rfl; omega) (by decide)]
    have : Nat.gcd q.2.natAbs q.1.natAbs = gd2 q.1 q.2 := rfl
    omega
  rw [if_neg e, iL_nat]
  rfl
theorem x_low_19 {N : Nat} (hN : 600 ≤ N) {σ : Sg} {q : Int × Int} (h : BX 19 (-1) (some q) σ) (hk : FRk (some q)) : f_bo_lowestTop_19 N σ = some (iI (-1 * rt q.1 q.2)) ∧ f_bo_lowestBottom_19 N σ = some (iI (rb q.1 q.2)) := by
  obtain ⟨⟨q1, q2⟩, q3, q4⟩ := hk q rfl
  have hg := gd2_pos (t := q.1) q3
  have hl := gd2_le (t := q.1) q3
  have n0 : ¬ iL (gd2 q.1 q.2 : Int) = 0 := fun z => by
    have := (iL_eq (b := 0) (by omega) (by omega) (by omega) (by omega)).mp z
    omega
  have m1 := rt_mul q.1 q.2
  have m2 := rb_mul q.1 q.2
  have e1 : -1 * q.1 = (gd2 q.1 q.2 : Int) * (-1 * rt q.1 q.2) := by
    conv => lhs; rw [← m1]
    grind
  have e1' : iL (-1 * q.1) / iL (gd2 q.1 q.2 : Int) = iL (-1 * rt q.1 q.2) := by
    rw [e1]
    exact div_ex (by omega) (by omega) (by omega) (by omega)
  have e2' : iL q.2 / iL (gd2 q.1 q.2 : Int) = iL (rb q.1 q.2) := by
    have := div_ex (g := (gd2 q.1 q.2 : Int)) (u := rb q.1 q.2) (by omega) (by omega) (by omega) (by omega)
    rw [m2] at this
    exact this
  unfold f_bo_lowestTop_19 f_bo_lowestBottom_19
  rw [x_div_19 hN h hk, bind_some, bind_some, if_pos n0, if_pos n0, h.2.1, h.2.2, e1', e2', iL_I, iL_I]
  exact ⟨rfl, rfl⟩
theorem m_told {N : Nat} (hN : 600 ≤ N) {σ : Sg} {q : Int × Int} (h : BM (some q) σ) (hk : FRk (some q)) (a : Int32) : f_mo_told N σ a = some (if a = 0 then iI (rt q.1 q.2) else iI (rb q.1 q.2)) := by
  obtain ⟨⟨q1, q2⟩, q3, q4⟩ := hk q rfl
  have hg := gd2_pos (t := q.1) q3
  have hl := gd2_le (t := q.1) q3
  have n0 : ¬ iL (gd2 q.1 q.2 : Int) = 0 := fun z => by
    have := (iL_eq (b := 0) (by omega) (by omega) (by omega) (by omega)).mp z
    omega
  have m1 := rt_mul q.1 q.2
  have m2 := rb_mul q.1 q.2
  have e1' : iL q.1 / iL (gd2 q.1 q.2 : Int) = iL (rt q.1 q.2) := by
    have := div_ex (g := (gd2 q.1 q.2 : Int)) (u := rt q.1 q.2) (by omega) (by omega) (by omega) (by omega)
    rw [m1] at this
    exact this
  have e2' : iL q.2 / iL (gd2 q.1 q.2 : Int) = iL (rb q.1 q.2) := by
    have := div_ex (g := (gd2 q.1 q.2 : Int)) (u := rb q.1 q.2) (by omega) (by omega) (by omega) (by omega)
    rw [m2] at this
    exact this
  have eb : iL q.2 = lN q.2.natAbs := by rw [← iL_nat]; congr 1; omega
  have ec : f_mo_common N (iL q.1) (iL q.2) = some (iL (gd2 q.1 q.2 : Int)) := by
    unfold f_mo_common
    have e : (0 : Int64) ≤ iL q.1 ↔ 0 ≤ q.1 := iL_le (a := 0) (by omega) (by omega) (by omega) (by omega)
    have fin : f_mo_common_c17 N N (lN q.1.natAbs) (lN q.2.natAbs) = some (iL (gd2 q.1 q.2 : Int)) := by
      rw [m_gcd 9 N _ _ (by omega) (by omega) (by omega) (by omega), iL_nat]
      rfl
    by_cases c : 0 ≤ q.1
    · rw [if_pos (e.mpr c), eb, show iL q.1 = lN q.1.natAbs by rw [← iL_nat]; congr 1; omega, fin]
    · rw [if_neg (fun z => c (e.mp z)), eb, iL_neg, show iL (-q.1) = lN q.1.natAbs by rw [← iL_nat]; congr 1; omega, fin]
  unfold f_mo_told
  rw [h.2.1, h.2.2, ec, bind_some, if_pos n0, if_pos n0, e1', e2', iL_I, iL_I]
  split <;> rfl
