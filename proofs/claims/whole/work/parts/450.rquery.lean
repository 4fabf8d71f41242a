/-! REACH and the most that LASTS -/
theorem div_uq {a d q : Int} (hd : 0 < d) (h1 : d * q ≤ a) (h2 : a < d * q + d) : a / d = q := by
  have e1 : q ≤ a / d := Int.le_ediv_of_mul_le hd (by rw [Int.mul_comm]; exact h1)
  have e2 : a / d < q + 1 := Int.ediv_lt_of_lt_mul hd (by rw [Int.add_mul, Int.one_mul, Int.mul_comm]; exact h2)
  omega
theorem div_nn {x d : Int} (hx : 0 ≤ x) (hd : 1 ≤ d) (h1 : x < 9223372036854775808) (h2 : d < 9223372036854775808) : iL x / iL d = iL (x / d) := by
  obtain ⟨a, rfl⟩ := Int.eq_ofNat_of_zero_le hx
  obtain ⟨b, rfl⟩ := Int.eq_ofNat_of_zero_le (show 0 ≤ d by omega)
  rw [iL_nat, iL_nat, pk_lDiv (by omega) (by omega) (by omega), ← iL_nat]
  rfl
theorem tdiv_neg {y d : Int} (hy : 0 ≤ y) (hd : 1 ≤ d) (h1 : y < 9223372036854775808) (h2 : d < 9223372036854775808) : iL (-y) / iL d = iL (-(y / d)) := by
  apply Int64.toInt_inj.mp
  have hq : 0 ≤ y / d := Int.ediv_nonneg hy (by omega)
  have hq2 : y / d ≤ y := Int.ediv_le_self d hy
  have hg : iL d ≠ -1 := by
    rw [show (-1 : Int64) = iL (-1) from rfl]
    intro z
    have := (iL_eq (by omega) (by omega) (by omega) (by omega)).mp z
    omega
  rw [Int64.toInt_div_of_ne_right _ _ hg, iL_toInt (by omega) (by omega), iL_toInt (by omega) (by omega), iL_toInt (by omega) (by omega), Int.neg_tdiv, Int.tdiv_eq_ediv_of_nonneg hy]
theorem xor_sg {a d : Int} (a1 : -9223372036854775808 ≤ a) (a2 : a < 9223372036854775808) (hd : 0 ≤ d) (h2 : d < 9223372036854775808) : (0 : Int64) ≤ (iL a ^^^ iL d) ↔ 0 ≤ a := by
  have nn : ∀ z : Int64, (0 : Int64) ≤ z ↔ z.toBitVec.msb = false := fun z => by
    rw [Int64.le_iff_toInt_le, Int64.toInt_zero, BitVec.msb_eq_toInt, decide_eq_false_iff_not]
    show 0 ≤ z.toBitVec.toInt ↔ _
    omega
  have m1 : (iL d).toBitVec.msb = false := (nn (iL d)).mp (by rw [Int64.le_iff_toInt_le, Int64.toInt_zero, iL_toInt (by omega) (by omega)]; exact hd)
  rw [nn, Int64.toBitVec_xor, BitVec.msb_xor, m1, Bool.xor_false, ← nn, Int64.le_iff_toInt_le, Int64.toInt_zero, iL_toInt a1 a2]
theorem fdiv_eq {x d : Int} (x1 : -4611686018427387904 ≤ x) (x2 : x < 4611686018427387904) (hd : 1 ≤ d) (h2 : d < 4611686018427387904) : f_jm_floorDiv_f86c9 (iL x) (iL d) = some (iL (x / d)) := by
  have n0 : ¬ iL d = 0 := fun z => by
    have := (iL_eq (b := 0) (by omega) (by omega) (by omega) (by omega)).mp z
    omega
  unfold f_jm_floorDiv_f86c9
  rw [if_pos n0]
  have xs := xor_sg (a := x) (d := d) (by omega) (by omega) (by omega) (by omega)
  by_cases c : 0 ≤ x
  · rw [if_pos (xs.mpr c), div_nn c hd (by omega) (by omega)]
  · rw [if_neg (fun z => c (xs.mp z))]
    obtain ⟨y, rfl⟩ : ∃ y, x = -y := ⟨-x, by omega⟩
    have hy : 0 ≤ y := by omega
    rw [tdiv_neg hy hd (by omega) (by omega)]
    have hq : 0 ≤ y / d := Int.ediv_nonneg hy (by omega)
    have hq2 : y / d ≤ y := Int.ediv_le_self d hy
    have e1 := Int.mul_ediv_add_emod y d
    have r1 := Int.emod_nonneg y (show d ≠ 0 by omega)
    have r2 := Int.emod_lt_of_pos y (show 0 < d by omega)
    have em : -(y / d) * d = -(d * (y / d)) := by rw [Int.neg_mul, Int.mul_comm]
    rw [iL_mul, em]
    have q : iL (-(d * (y / d))) = iL (-y) ↔ -(d * (y / d)) = -y := iL_eq (by omega) (by omega) (by omega) (by omega)
    by_cases c2 : -(d * (y / d)) = -y
    · rw [if_pos (q.mpr c2)]
      congr 2
      exact (div_uq (by omega) (by rw [Int.mul_neg]; omega) (by rw [Int.mul_neg]; omega)).symm
    · rw [if_neg (fun z => c2 (q.mp z)), show (1 : Int64) = iL 1 from rfl, iL_sub]
      congr 2
      exact (div_uq (by omega) (by rw [Int.mul_sub, Int.mul_neg, Int.mul_one]; omega) (by rw [Int.mul_sub, Int.mul_neg, Int.mul_one]; omega)).symm
theorem ceil_eq {x d : Int} (hd : 0 < d) : -((-x) / d) = (x + d - 1) / d := by
  have e1 := Int.mul_ediv_add_emod (x + d - 1) d
  have r1 := Int.emod_nonneg (x + d - 1) (show d ≠ 0 by omega)
  have r2 := Int.emod_lt_of_pos (x + d - 1) hd
  have : (-x) / d = -((x + d - 1) / d) := div_uq hd (by rw [Int.mul_neg]; omega) (by rw [Int.mul_neg]; omega)
  rw [this, Int.neg_neg]
/-- the span of the class -/
def FSp (a b : Sg) : Prop := ∀ p, p ≠ 17 → p ≠ 18 → p ≠ 19 → b.1 p = a.1 p ∧ b.2 p = a.2 p
theorem FSp.rf (a : Sg) : FSp a a := fun _ _ _ _ => ⟨rfl, rfl⟩
theorem FSp.tr {a b c : Sg} (h1 : FSp a b) (h2 : FSp b c) : FSp a c := fun p x y z => ⟨(h2 p x y z).1.trans (h1 p x y z).1, (h2 p x y z).2.trans (h1 p x y z).2⟩
theorem FSp.xq {T : TS} {a b : Sg} (h : FSp a b) (hq : XQ T a) : XQ T b := by
  obtain ⟨hO, hR, hw, hK⟩ := hq
  have g : ∀ p, p < 17 → b.1 p = a.1 p := fun p hp => (h p (by omega) (by omega) (by omega)).1
  refine ⟨hO, ?_, ?_, ?_⟩
  · unfold RX
    rw [g 4 (by decide), g 5 (by decide), g 6 (by decide), g 7 (by decide), g 8 (by decide), g 9 (by decide)]
    exact hR
  · rw [g 10 (by decide)]; exact hw
  · unfold KX
    rw [g 12 (by decide), g 15 (by decide), g 16 (by decide)]
    exact hK
def SX (ol or_ : FR) (out : Prop) (σ : Sg) : Prop := BX 18 1 ol σ ∧ BX 19 (-1) or_ σ ∧ σ.1 17 2 = fl out
theorem BX.keep {p q k : Nat} {s : Int} {o : FR} {σ : Sg} {x : Int32} (h : BX p s o σ) (hp : p ≠ q) : BX p s o (uI σ q k x) := by
  unfold BX at h ⊢
  have e : (uI σ q k x).1 p = σ.1 p := by funext j; rw [uI_1, if_neg (fun z => hp z.1)]
  rw [e, uI_2]
  exact h
theorem BX.fp {p q : Nat} {s : Int} {o : FR} {a b : Sg} (h : BX p s o a) (hf : FP q a b) (hp : p ≠ q) : BX p s o b := by
  unfold BX at h ⊢
  rw [(hf p hp).1, (hf p hp).2]
  exact h
theorem sx_out {ol or_ : FR} {σ : Sg} {out : Prop} (h1 : BX 18 1 ol σ) (h2 : BX 19 (-1) or_ σ) {x : Int32} (hx : x = fl out) : SX ol or_ out (uI σ 17 2 x) := ⟨h1.keep (by decide), h2.keep (by decide), by rw [uI_1, if_pos ⟨rfl, rfl⟩, hx]⟩
theorem fsp_out {a b : Sg} (h : FSp a b) (x : Int32) : FSp a (uI b 17 2 x) := fun p p1 p2 p3 => ⟨by
  rw [show (uI b 17 2 x).1 p = b.1 p by funext j; rw [uI_1, if_neg (fun z => p1 z.1)]]
  exact (h p p1 p2 p3).1, (h p p1 p2 p3).2⟩
noncomputable def rchL (T : TS) (h : Int) : FR := rOu upG T lo li h (tN T) 0 none
noncomputable def rchR (T : TS) (h : Int) : FR := rOu upL T ro ri h (tN T) 0 none
theorem rchL_k {T : TS} (hO : Ok T) {h : Int} (h1 : -200 ≤ h) (h2 : h ≤ 200) : FRk (rchL T h) := rOu_k_upG hO (bds_lo hO) (bds_li hO) h1 h2 _ _ _ (by omega) frk_0
theorem rchR_k {T : TS} (hO : Ok T) {h : Int} (h1 : -200 ≤ h) (h2 : h ≤ 200) : FRk (rchR T h) := rOu_k_upL hO (bds_ro hO) (bds_ri hO) h1 h2 _ _ _ (by omega) frk_0
/-- both bounds leave nothing -/
def crossed (l r : FR) : Prop := ∃ p q, l = some p ∧ r = some q ∧ q.1 * p.2 < p.1 * q.2
def outR (T : TS) (h : Int) : Prop := brd T h ∨ crossed (rchL T h) (rchR T h)
theorem x_reached {T : TS} {σ : Sg} (hO : Ok T) (hR : RX T σ) {N : Nat} (hN : 600 ≤ N) {h : Int} (h1 : -200 ≤ h) (h2 : h ≤ 200) : ∃ σ', f_sp_measureReached N σ (iI h) = some σ' ∧ FSp σ σ' ∧ SX (rchL T h) (rchR T h) (outR T h) σ' := by
  obtain ⟨σ1, e1, F1, B1⟩ := x_bind_18 hO hR hN h1 h2
  obtain ⟨σ2, e2, F2, B2⟩ := x_bind_19 hO (F1.rx (by decide) hR) hN h1 h2
  have hX := F2.rx (by decide) (F1.rx (by decide) hR)
  have B1' : BX 18 1 (rchL T h) σ2 := BX.fp B1 F2 (by decide)
  have B2' : BX 19 (-1) (rchR T h) σ2 := B2
  have F : FSp σ σ2 := fun p p1 p2 p3 => ⟨(F2 p p3).1.trans (F1 p p2).1, (F2 p p3).2.trans (F1 p p2).2⟩
  have kl := rchL_k hO h1 h2
  have kr := rchR_k hO h1 h2
  unfold f_sp_measureReached
  rw [e1, bind_some, e2, bind_some, x_bar hO hX hN h1 h2, bind_some]
  by_cases cb : brd T h
  · rw [fl_t cb, if_neg (by decide)]
    exact ⟨_, rfl, fsp_out F _, sx_out B1' B2' (fl_t (p := outR T h) (Or.inl cb)).symm⟩
  · rw [fl_f cb, if_pos rfl]
    unfold f_sp_isBoundless f_sp_lengthTop
    cases hl : rchL T h with
    | none =>
      rw [hl] at B1'
      rw [B1'.1, if_neg (show ¬ ((1 : Int32) = 0) by decide), if_neg (show ¬ ((1 : Int32) = 0) by decide)]
      refine ⟨_, rfl, fsp_out F _, sx_out B1' B2' (fl_f (p := outR T h) ?_).symm⟩
      rintro (z | ⟨p, q, a, b, c⟩)
      · exact cb z
      · rw [hl] at a; cases a
    | some p =>
      rw [hl] at B1' kl
      cases hr : rchR T h with
      | none =>
        rw [hr] at B2'
        rw [B1'.1, B2'.1, if_pos rfl, if_neg (show ¬ ((1 : Int32) = 0) by decide), if_neg (show ¬ ((1 : Int32) = 0) by decide)]
        refine ⟨_, rfl, fsp_out F _, sx_out B1' B2' (fl_f (p := outR T h) ?_).symm⟩
        rintro (z | ⟨p, q, a, b, c⟩)
        · exact cb z
        · rw [hr] at b; cases b
      | some q =>
        rw [hr] at B2' kr
        obtain ⟨⟨p1, p2⟩, p3, p4⟩ := kl p rfl
        obtain ⟨⟨q1, q2⟩, q3, q4⟩ := kr q rfl
        have m1 := pb p1 p2 q3 q4
        have m2 := pb q1 q2 p3 p4
        rw [B1'.1, B1'.2.1, B1'.2.2, B2'.1, B2'.2.1, B2'.2.2, if_pos rfl, if_pos rfl, if_pos rfl, iL_mul, iL_mul, iL_add, iL_neg]
        have ee : -(1 * p.1 * q.2 + -1 * q.1 * p.2) = q.1 * p.2 - p.1 * q.2 := by grind
        rw [ee]
        have qc : (0 : Int64) ≤ iL (q.1 * p.2 - p.1 * q.2) ↔ 0 ≤ q.1 * p.2 - p.1 * q.2 := iL_le (a := 0) (by omega) (by omega) (by omega) (by omega)
        by_cases c : 0 ≤ q.1 * p.2 - p.1 * q.2
        · rw [if_pos (qc.mpr c)]
          refine ⟨_, rfl, fsp_out F _, sx_out B1' B2' (fl_f (p := outR T h) ?_).symm⟩
          rintro (z | ⟨p', q', a, b, c'⟩)
          · exact cb z
          · rw [hl] at a; rw [hr] at b
            cases a; cases b
            omega
        · rw [if_neg (fun z => c (qc.mp z))]
          exact ⟨_, rfl, fsp_out F _, sx_out B1' B2' (fl_t (p := outR T h) (Or.inr ⟨p, q, hl, hr, by omega⟩)).symm⟩
noncomputable def telF (ol or_ : FR) (out : Prop) (a b : Int32) : Int32 := if fl out = 0 then (match (if a = 0 then ol else or_) with | none => -100000001 | some q => if b = 1 then iI (rb q.1 q.2) else iI (rt q.1 q.2)) else -100000006
theorem x_tell {ol or_ : FR} {out : Prop} {σ : Sg} (h : SX ol or_ out σ) (kl : FRk ol) (kr : FRk or_) {N : Nat} (hN : 600 ≤ N) (a b : Int32) : f_sp_tell N σ a b = some (telF ol or_ out a b) := by
  obtain ⟨B1, B2, ho⟩ := h
  unfold f_sp_tell telF
  rw [ho]
  by_cases c : fl out = 0
  · rw [if_pos c, if_pos c]
    by_cases ca : a = 0
    · rw [if_pos ca, if_pos ca]
      unfold f_sp_tell_c25_1
      cases ol with
      | none =>
        rw [B1.1, if_neg (by decide)]
      | some q =>
        obtain ⟨l1, l2⟩ := x_low_18 hN B1 kl
        rw [B1.1, if_pos rfl, l1, l2, bind_some, bind_some, if_pos ca, Int.one_mul]
        show _ = some (if b = 1 then iI (rb q.1 q.2) else iI (rt q.1 q.2))
        split <;> rfl
    · rw [if_neg ca, if_neg ca]
      unfold f_sp_tell_c25
      cases or_ with
      | none =>
        rw [B2.1, if_neg (by decide)]
      | some q =>
        obtain ⟨l1, l2⟩ := x_low_19 hN B2 kr
        rw [B2.1, if_pos rfl, l1, l2, bind_some, bind_some, bind_some, if_neg ca, iI_neg, show -(-1 * rt q.1 q.2) = rt q.1 q.2 by omega]
        show _ = some (if b = 1 then iI (rb q.1 q.2) else iI (rt q.1 q.2))
        split <;> rfl
  · rw [if_neg c, if_neg c]
/-- is it out, in the model -/
theorem m_isOut {T : TS} {σ : Sg} (hO : Ok T) (hR : RM T σ) {N : Nat} (hN : 600 ≤ N) {h : Int} (h1 : -200 ≤ h) (h2 : h ≤ 200) : ∃ σ', f_mo_isOut N σ (iI h) = some (fl (outR T h), σ') ∧ FMb σ σ' := by
  have kl := rchL_k hO h1 h2
  have kr := rchR_k hO h1 h2
  unfold f_mo_isOut
  rw [m_bar hO hR hN h1 h2, bind_some]
  by_cases cb : brd T h
  · rw [fl_t cb, if_neg (by decide), fl_t (p := outR T h) (Or.inl cb)]
    exact ⟨σ, rfl, FMb.rf σ⟩
  · rw [fl_f cb, if_pos rfl]
    obtain ⟨σ1, e1, F1, B1⟩ := m_reach_0 hO hR hN h1 h2
    obtain ⟨σ2, e2, F2, B2⟩ := m_reach_1 hO (F1.1.rm hR) hN h1 h2
    have B1' : BM (rchL T h) σ1 := B1
    have B2' : BM (rchR T h) σ2 := B2
    refine ⟨σ2, ?_, F1.tr F2⟩
    unfold f_mo_leaves
    rw [e1, bind_some, e2, bind_some]
    cases hl : rchL T h with
    | none =>
      rw [hl] at B1'
      rw [B1'.1, if_pos rfl, bind_some, if_neg (show ¬ ((1 : Int32) = 0) by decide), fl_f (p := outR T h)]
      rintro (z | ⟨p, q, a, b, c⟩)
      · exact cb z
      · rw [hl] at a; cases a
    | some p =>
      rw [hl] at B1' kl
      rw [B1'.1, if_neg (show ¬ ((1 : Int32) = 0) by decide)]
      cases hr : rchR T h with
      | none =>
        rw [hr] at B2'
        rw [B2'.1, if_pos rfl, bind_some, if_neg (show ¬ ((1 : Int32) = 0) by decide), fl_f (p := outR T h)]
        rintro (z | ⟨p, q, a, b, c⟩)
        · exact cb z
        · rw [hr] at b; cases b
      | some q =>
        rw [hr] at B2' kr
        obtain ⟨⟨p1, p2⟩, p3, p4⟩ := kl p rfl
        obtain ⟨⟨q1, q2⟩, q3, q4⟩ := kr q rfl
        have m1 := pb p1 p2 q3 q4
        have m2 := pb q1 q2 p3 p4
        rw [B2'.1, if_neg (show ¬ ((1 : Int32) = 0) by decide), B1'.2.1, B1'.2.2, B2'.2.1, B2'.2.2, iL_mul, iL_mul]
        have qc : iL (q.1 * p.2) < iL (p.1 * q.2) ↔ q.1 * p.2 < p.1 * q.2 := iL_lt (by omega) (by omega) (by omega) (by omega)
        by_cases c : q.1 * p.2 < p.1 * q.2
        · rw [if_pos (qc.mpr c), bind_some, if_pos rfl, fl_t (p := outR T h) (Or.inr ⟨p, q, hl, hr, c⟩)]
        · rw [if_neg (fun z => c (qc.mp z)), bind_some, if_neg (show ¬ ((1 : Int32) = 0) by decide), fl_f (p := outR T h)]
          rintro (z | ⟨p', q', a, b, c'⟩)
          · exact cb z
          · rw [hl] at a; rw [hr] at b
            cases a; cases b
            exact c c'
theorem m_reachNow {T : TS} {σ : Sg} (hO : Ok T) (hR : RM T σ) {N : Nat} (hN : 600 ≤ N) {h : Int} (h1 : -200 ≤ h) (h2 : h ≤ 200) {a b : Int32} (ha : a = 0 ∨ a = 1) (hb : b = 0 ∨ b = 1) : ∃ σ', f_mo_reachNow N σ (iI h) a b = some (telF (rchL T h) (rchR T h) (outR T h) a b, σ') ∧ FMb σ σ' := by
  obtain ⟨σ1, e1, F1⟩ := m_isOut hO hR hN h1 h2
  unfold f_mo_reachNow telF
  rw [e1, bind_some]
  show ∃ σ', (if fl (outR T h) = 0 then _ else _) = _ ∧ _
  by_cases c : fl (outR T h) = 0
  · rw [if_pos c, if_pos c]
    have fin : ∀ (o : FR) (σ2 : Sg), FMb σ σ2 → BM o σ2 → FRk o → ∃ σ', (if σ2.1 20 21 = 0 then some (-100000001, σ2) else (f_mo_told N σ2 b).bind fun q3 => some (q3, σ2)) = some ((match o with | none => -100000001 | some q => if b = 1 then iI (rb q.1 q.2) else iI (rt q.1 q.2)), σ') ∧ FMb σ σ' := fun o σ2 F2 B2 k2 => by
      cases o with
      | none =>
        rw [B2.1, if_pos rfl]
        exact ⟨σ2, rfl, F2⟩
      | some q =>
        rw [B2.1, if_neg (by decide), m_told hN B2 k2 b, bind_some]
        refine ⟨σ2, ?_, F2⟩
        rcases hb with rfl | rfl <;> rfl
    rcases ha with rfl | rfl
    · obtain ⟨σ2, e2, F2, B2⟩ := m_reach_0 hO (F1.1.rm hR) hN h1 h2
      rw [e2, bind_some, if_pos rfl]
      exact fin _ σ2 (F1.tr F2) B2 (rchL_k hO h1 h2)
    · obtain ⟨σ2, e2, F2, B2⟩ := m_reach_1 hO (F1.1.rm hR) hN h1 h2
      rw [e2, bind_some, if_neg (show ¬ ((1 : Int32) = 0) by decide)]
      exact fin _ σ2 (F1.tr F2) B2 (rchR_k hO h1 h2)
  · rw [if_neg c, if_neg c]
    exact ⟨σ1, rfl, F1⟩
