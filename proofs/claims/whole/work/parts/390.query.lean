/-! ANSWERS that change nothing: kernel, corner, station, at, count, fits, wrong -/
def XQ (T : TS) (σ : Sg) : Prop := Ok T ∧ RX T σ ∧ σ.1 10 2 = nI (wr T) ∧ KX (PL T) (cN (PL T)) σ
theorem wr_255 {T : TS} (hO : Ok T) : wr T < 256 := by
  have h1 := wr_lt (T := T)
  have h2 := p2_le (tN T) (by have := hO.1; omega)
  omega
theorem x_allFit {T : TS} {σ : Sg} (h : XQ T σ) : f_ss_allFit σ = fl (wr T = 0) := by
  have h1 := wr_255 h.1
  unfold f_ss_allFit
  rw [h.2.2.1]
  have q : nI (wr T) = 0 ↔ wr T = 0 := nI_eq (b := 0) (by omega) (by omega)
  by_cases c : wr T = 0
  · rw [if_pos (q.mpr c), fl_t c]
  · rw [if_neg (fun z => c (q.mp z)), fl_f c]
theorem x_fits {T : TS} {σ : Sg} (h : XQ T σ) : f_ss_fits σ = fl (wr T = 0) := by
  unfold f_ss_fits
  rw [x_allFit h]
  by_cases c : wr T = 0
  · rw [fl_t c, if_neg (by decide)]
  · rw [fl_f c, if_pos rfl]
theorem m_fits {T : TS} {σ : Sg} (hO : Ok T) (h : RM T σ) {N : Nat} (hN : 600 ≤ N) : f_mo_fits N σ = some (fl (wr T = 0)) := by
  unfold f_mo_fits
  rw [mfit_eq hO h hN, bind_some]
  by_cases c : wr T = 0
  · rw [fl_t c, if_neg (by decide)]
  · rw [fl_f c, if_pos rfl]
theorem m_wrong {T : TS} {σ : Sg} (hO : Ok T) (h : RM T σ) {N : Nat} (hN : 600 ≤ N) : f_mo_wrong N σ = some (nI (wr T)) := by
  unfold f_mo_wrong
  rw [mwrong_eq hO h hN, bind_some]
/-- KERNEL -/
noncomputable def wdv (P : Pts) : Int32 := if 3 ≤ cN P then (wdG P (cN P) (cN P - 1) 1 (wdq P (cN P) 0)).toInt32 else 0
noncomputable def kv (T : TS) (a : Int32) : Int32 := if a = 0 then nI (cN (PL T)) else if a = 1 then iI (arG (PL T) (cN (PL T)) (cN (PL T)) 0 0) else if a = 2 then iI (lgO (PL T) (cN (PL T)) 0 0) else wdv (PL T)
noncomputable def kerR (T : TS) (a : Int32) : Int32 := if a < 0 then -100000003 else if a ≤ 3 then (if fl (wr T = 0) = 0 then -100000004 else kv T a) else -100000003
theorem c_16 {T : TS} (hO : Ok T) : cN (PL T) ≤ 16 := by
  have h16 := PL_16 hO
  rcases PL_even (T := T) (tN T) with h | h
  · rw [cN_0 (P := PL T) h]; omega
  · have := (cN_ok (PL_ok hO h)).2.1
    omega
theorem x_kern {T : TS} {σ : Sg} (h : XQ T σ) {N : Nat} (hN : 600 ≤ N) (a : Int32) : f_ss_kernel N σ a = some (kerR T a) := by
  have h16 := c_16 h.1
  have hl := PL_16 h.1
  have hK := h.2.2.2
  unfold f_ss_kernel kerR kv
  rw [x_allFit h, x_area hK h16 hN, hK.1]
  have e2 : f_hu_longestSquare N σ = some (iI (lgO (PL T) (cN (PL T)) 0 0)) := by
    unfold f_hu_longestSquare
    rcases PL_even (T := T) (tN T) with h0 | h0
    · obtain ⟨N1, rfl⟩ : ∃ N1, N = N1 + 1 := ⟨N - 1, by omega⟩
      show f_hu_longestSquare_c4_s (N1 + 1) (f_hu_longestSquare_c4 (N1 + 1) N1) 0 0 σ = _
      unfold f_hu_longestSquare_c4_s
      rw [hK.1, cN_0 (P := PL T) h0, if_pos (by decide)]
      rfl
    · rw [show f_hu_longestSquare_c4 N N 0 0 σ = f_hu_longestSquare_c4 N N (iI 0) (nI 0) σ from rfl, x_long_out (PL_ok h.1 h0) hN hK h16 N 0 0 (by omega) (by omega) (by omega) (by omega)]
      rfl
  have e3 : f_hu_leastWidthSquare N σ = some (wdv (PL T)) := by
    unfold f_hu_leastWidthSquare wdv
    rw [hK.1]
    have q : (3 : Int32) ≤ nI (cN (PL T)) ↔ 3 ≤ cN (PL T) := nI_leI (a := 3) (by omega) (by omega)
    by_cases c : 3 ≤ cN (PL T)
    · rw [if_pos (q.mpr c), if_pos c]
      have h0 : 2 ≤ (PL T).length := by
        rcases PL_even (T := T) (tN T) with h0 | h0
        · rw [cN_0 (P := PL T) h0] at c; omega
        · exact h0
      have hP := PL_ok h.1 h0
      rw [show (0 : Int32) = nI 0 from rfl, x_width hP hl hN hK (by omega), bind_some, show (1 : Int32) = nI 1 from rfl, x_wide_loop hP hl hN hK N 1 _ (by omega) (by omega)]
    · rw [if_neg (fun z => c (q.mp z)), if_neg c]
  rw [e2, e3, bind_some, bind_some, bind_some]
  (repeat' split) <;> rfl
theorem m_kernNow {T : TS} {σ : Sg} (hO : Ok T) (hR : RM T σ) {N : Nat} (hN : 600 ≤ N) (a : Int32) : ∃ σ', f_mo_kernelNow N σ a = some (kv T a, σ') ∧ FMb σ σ' ∧ MA (PL T) σ' ∧ KM (PL T) (cN (PL T)) σ' := by
  have h16 := c_16 hO
  have hl := PL_16 hO
  obtain ⟨σ1, e1, F1, A1, K1⟩ := mcor_eq hO hR hN
  refine ⟨σ1, ?_, F1, A1, K1⟩
  unfold f_mo_kernelNow kv
  rw [e1, bind_some, K1.1]
  have ea : f_mo_area N σ1 = some (iL (arG (PL T) (cN (PL T)) (cN (PL T)) 0 0)) := by
    rcases PL_even (T := T) (tN T) with h0 | h0
    · have c0 := cN_0 (P := PL T) h0
      unfold f_mo_area
      obtain ⟨N1, rfl⟩ : ∃ N1, N = N1 + 1 := ⟨N - 1, by omega⟩
      show f_mo_area_c4_s (N1 + 1) (f_mo_area_c4 (N1 + 1) N1) 0 2 σ1 = _
      unfold f_mo_area_c4_s
      rw [K1.1, c0, if_pos (by decide)]
      rfl
    · have hP := PL_ok hO h0
      rw [m_area hP hl (cN_ok hP).2.1 (c_ge2 hP) A1 K1 hN, ar_all _ (c_ge2 hP)]
  have e2 : f_mo_longest N σ1 = some (iL (lgO (PL T) (cN (PL T)) 0 0)) := by
    unfold f_mo_longest
    rcases PL_even (T := T) (tN T) with h0 | h0
    · obtain ⟨N1, rfl⟩ : ∃ N1, N = N1 + 1 := ⟨N - 1, by omega⟩
      show f_mo_longest_c4_s (N1 + 1) (f_mo_longest_c4 (N1 + 1) N1) 0 0 σ1 = _
      unfold f_mo_longest_c4_s
      rw [K1.1, cN_0 (P := PL T) h0, if_pos (by decide)]
      rfl
    · have hP := PL_ok hO h0
      rw [show f_mo_longest_c4 N N 0 0 σ1 = f_mo_longest_c4 N N (iL 0) (nI 0) σ1 from rfl, m_long_out hP hl (cN_ok hP).2.1 hN A1 K1 N 0 0 (by omega) (by omega) (by omega) (by omega)]
      rfl
  have e3 : ∃ w, f_mo_wide N σ1 = some w ∧ w.toInt32 = wdv (PL T) := by
    unfold f_mo_wide wdv
    rw [K1.1]
    have q : (3 : Int32) ≤ nI (cN (PL T)) ↔ 3 ≤ cN (PL T) := nI_leI (a := 3) (by omega) (by omega)
    by_cases c : 3 ≤ cN (PL T)
    · rw [if_pos (q.mpr c), if_pos c]
      have h0 : 2 ≤ (PL T).length := by
        rcases PL_even (T := T) (tN T) with h0 | h0
        · rw [cN_0 (P := PL T) h0] at c; omega
        · exact h0
      have hP := PL_ok hO h0
      rw [show (0 : Int32) = nI 0 from rfl, m_width hP hl hN A1 K1 (by omega), bind_some, show (1 : Int32) = nI 1 from rfl, m_wide_loop hP hl hN A1 K1 N 1 _ (by omega) (by omega)]
      exact ⟨_, rfl, rfl⟩
    · rw [if_neg (fun z => c (q.mp z)), if_neg c]
      exact ⟨_, rfl, rfl⟩
  obtain ⟨w, ew, hw⟩ := e3
  rw [ea, e2, ew, bind_some, bind_some, bind_some, iL_I, iL_I, hw]
  (repeat' split) <;> rfl
theorem w03 (a : Int32) (k : Int) (hk0 : 0 ≤ k) (hk : k < 1000) : (f_mo_within a.toInt64 0 (iL k) = 0) ↔ (a < 0 ∨ ¬ a ≤ iI k) := by
  rw [show (0 : Int64) = iL 0 from rfl, within_eq a (by omega) (by omega) (by omega) (by omega), Int32.lt_iff_toInt_lt, Int32.le_iff_toInt_le, iI_toInt (by omega) (by omega), Int32.toInt_zero]
  by_cases c : 0 ≤ a.toInt ∧ a.toInt ≤ k
  · rw [if_pos c]
    constructor
    · intro h; exact absurd h (by decide)
    · intro h; omega
  · rw [if_neg c]
    constructor
    · intro _; omega
    · intro _; rfl
theorem m_kern {T : TS} {σ : Sg} (hO : Ok T) (hR : RM T σ) {N : Nat} (hN : 600 ≤ N) (a : Int32) : ∃ σ', f_mo_kernel N σ a = some (kerR T a, σ') ∧ FMb σ σ' := by
  have q := w03 a 3 (by omega) (by omega)
  unfold f_mo_kernel kerR
  rw [mfit_eq hO hR hN, bind_some]
  by_cases c : f_mo_within a.toInt64 0 3 = 0
  · rw [if_pos c]
    refine ⟨σ, ?_, FMb.rf σ⟩
    rcases q.mp c with h | h
    · rw [if_pos h]
    · rw [if_neg (show ¬ a ≤ 3 from h), ite_self]
  · rw [if_neg c]
    have c' : ¬ (a < 0 ∨ ¬ a ≤ iI 3) := fun z => c (q.mpr z)
    have h1 : ¬ a < 0 := fun z => c' (Or.inl z)
    have h2 : a ≤ 3 := Classical.not_not.mp (fun z => c' (Or.inr z))
    rw [if_neg h1, if_pos h2]
    by_cases d : fl (wr T = 0) = 0
    · rw [if_pos d, if_pos d]
      exact ⟨σ, rfl, FMb.rf σ⟩
    · rw [if_neg d, if_neg d]
      obtain ⟨σ1, e1, F1, -, -⟩ := m_kernNow hO hR hN a
      rw [e1, bind_some]
      exact ⟨σ1, rfl, F1⟩
/-- CORNER -/
noncomputable def corR (T : TS) (a b : Int32) : Int32 := if b = 0 ∨ b = 1 then (if fl (wr T = 0) = 0 then -100000004 else if a < 0 then -100000002 else if a < nI (cN (PL T)) then (if b = 0 then iI (gX (PL T) (itr (PL T) a.toNatClampNeg)) else iI (gY (PL T) (itr (PL T) a.toNatClampNeg))) else -100000002) else -100000003
theorem in_of {a : Int32} {n : Nat} (hn : n < 2147483648) (h1 : ¬ a < 0) (h2 : a < nI n) : ∃ k, k < n ∧ a = nI k := by
  rcases pk_ix a (n := n) (by omega) with h | h | h
  · exact absurd h h1
  · exfalso
    simp only [Int32.lt_iff_toInt_lt, Int32.le_iff_toInt_le] at h h2
    omega
  · exact h
theorem isBit_eq (b : Int32) : f_ss_isBit b = 0 ↔ ¬ (b = 0 ∨ b = 1) := by
  unfold f_ss_isBit
  by_cases h0 : b = 0
  · subst h0; simp
  · by_cases h1 : b = 1
    · subst h1; simp
    · simp [h0, h1]
theorem x_corner {T : TS} {σ : Sg} (h : XQ T σ) (a b : Int32) : f_ss_corner σ a b = some (corR T a b) := by
  have h16 := c_16 h.1
  have hK := h.2.2.2
  unfold f_ss_corner corR
  rw [x_allFit h, hK.1]
  by_cases c0 : b = 0 ∨ b = 1
  · rw [if_neg (fun z => (isBit_eq b).mp z c0), if_pos c0]
    by_cases c1 : fl (wr T = 0) = 0
    · rw [if_pos c1, if_pos c1]
    · rw [if_neg c1, if_neg c1]
      by_cases c2 : a < 0
      · rw [if_pos c2, if_pos c2]
      · rw [if_neg c2, if_neg c2]
        by_cases c3 : a < nI (cN (PL T))
        · rw [if_pos c3, if_pos c3]
          obtain ⟨k, hk, rfl⟩ := in_of (by omega) c2 c3
          have i1 : ib (nI k) 16 := (ib_nI (by omega)).mpr (by omega)
          rw [if_pos i1, if_pos i1, nI_clamp (show k < 2 ^ 31 by omega), (hK.2 k hk).1, (hK.2 k hk).2]
          split <;> rfl
        · rw [if_neg c3, if_neg c3]
  · rw [if_pos ((isBit_eq b).mpr c0), if_neg c0]
theorem bit01 (b : Int32) : (b < 0 ∨ ¬ b ≤ iI 1) ↔ ¬ (b = 0 ∨ b = 1) := by
  rw [Int32.lt_iff_toInt_lt, Int32.le_iff_toInt_le, iI_toInt (by omega) (by omega), Int32.toInt_zero, ← Int32.toInt_inj, ← Int32.toInt_inj, Int32.toInt_zero, show (1 : Int32).toInt = 1 from rfl]
  omega
theorem m_corner {T : TS} {σ : Sg} (hO : Ok T) (hR : RM T σ) {N : Nat} (hN : 600 ≤ N) (a b : Int32) : ∃ σ', f_mo_corner N σ a b = some (corR T a b, σ') ∧ FMb σ σ' := by
  have h16 := c_16 hO
  have hl := PL_16 hO
  have q := w03 b 1 (by omega) (by omega)
  unfold f_mo_corner corR
  rw [mfit_eq hO hR hN, bind_some]
  by_cases c0 : b = 0 ∨ b = 1
  · have c0' : ¬ f_mo_within b.toInt64 0 1 = 0 := fun z => (bit01 b).mp (q.mp z) c0
    rw [if_neg c0', if_pos c0]
    by_cases c1 : fl (wr T = 0) = 0
    · rw [if_pos c1, if_pos c1]
      exact ⟨σ, rfl, FMb.rf σ⟩
    · rw [if_neg c1, if_neg c1]
      obtain ⟨σ1, e1, F1, A1, K1⟩ := mcor_eq hO hR hN
      unfold f_mo_cornerNow
      rw [e1, bind_some, K1.1]
      have ew : (nI (cN (PL T)) - 1).toInt64 = iL ((cN (PL T) : Int) - 1) := by
        rw [← iI_nat, show (1 : Int32) = iI 1 from rfl, iI_sub, iI_L (by omega) (by omega)]
      rw [ew, show (0 : Int64) = iL 0 from rfl, within_eq a (by omega) (by omega) (by omega) (by omega)]
      by_cases c2 : a < 0
      · rw [if_pos c2]
        have : ¬ (0 ≤ a.toInt ∧ a.toInt ≤ (cN (PL T) : Int) - 1) := by
          rw [Int32.lt_iff_toInt_lt, Int32.toInt_zero] at c2; omega
        rw [if_neg this, if_pos rfl, bind_some]
        exact ⟨σ1, rfl, F1⟩
      · rw [if_neg c2]
        by_cases c3 : a < nI (cN (PL T))
        · rw [if_pos c3]
          obtain ⟨k, hk, rfl⟩ := in_of (by omega) c2 c3
          have : 0 ≤ (nI k).toInt ∧ (nI k).toInt ≤ (cN (PL T) : Int) - 1 := by
            rw [nI_toInt (by omega)]; omega
          have hP : OkP (PL T) := by
            rcases PL_even (T := T) (tN T) with h0 | h0
            · rw [cN_0 (P := PL T) h0] at hk; omega
            · exact PL_ok hO h0
          have lk := itr_lt hP k
          have bk := hP.2.2 _ lk
          have i1 : ib (nI k) 17 := (ib_nI (by omega)).mpr (by omega)
          have i2 : ib (nI (itr (PL T) k)) 16 := (ib_nI (by omega)).mpr (by omega)
          rw [if_pos this, if_neg (by decide), if_pos i1, if_pos i1, nI_clamp (show k < 2 ^ 31 by omega), K1.2 k hk, if_pos i2, if_pos i2, nI_clamp (show itr (PL T) k < 2 ^ 31 by omega), (A1.2 _ lk).1, (A1.2 _ lk).2, iL_I, iL_I]
          by_cases c4 : b = 0
          · rw [if_pos c4, if_pos c4, bind_some]
            exact ⟨σ1, rfl, F1⟩
          · rw [if_neg c4, if_neg c4, bind_some]
            exact ⟨σ1, rfl, F1⟩
        · rw [if_neg c3]
          have : ¬ (0 ≤ a.toInt ∧ a.toInt ≤ (cN (PL T) : Int) - 1) := by
            rw [Int32.lt_iff_toInt_lt, nI_toInt (by omega)] at c3; omega
          rw [if_neg this, if_pos rfl, bind_some]
          exact ⟨σ1, rfl, F1⟩
  · have c0' : f_mo_within b.toInt64 0 1 = 0 := q.mpr ((bit01 b).mpr c0)
    rw [if_pos c0', if_neg c0]
    exact ⟨σ, rfl, FMb.rf σ⟩
