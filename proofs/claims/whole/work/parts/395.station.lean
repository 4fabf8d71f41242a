/-! STATION, AT, COUNT -/
/-- what station tells of a station -/
noncomputable def sv (T : TS) (k : Nat) (w : Int32) : Int32 := if w = 0 then iI (tH T k) else if w = 1 then b01 (tM T k) else if tM T k = true then -100000001 else if w = 2 then iI (tG T k) else if w = 3 then iI (tB T k) else if w = 4 then iI (tE T k) else if w = 5 then iI (lo T k) else if w = 6 then iI (li T k) else if w = 7 then iI (ri T k) else iI (ro T k)
theorem x_has {T : TS} {σ : Sg} (hO : Ok T) (h : RX T σ) (a : Int32) : f_ro_has σ a = fl (∃ k, k < tN T ∧ a = nI k) := by
  have h8 := hO.1
  unfold f_ro_has
  rw [h.1]
  rcases pk_ix a (n := tN T) (by omega) with h1 | h1 | ⟨k, hk, rfl⟩
  · rw [if_pos h1, fl_f]
    rintro ⟨k, hk, rfl⟩
    exact nI_pos (by omega) h1
  · have hn : ¬ ∃ k, k < tN T ∧ a = nI k := by
      rintro ⟨k, hk, rfl⟩
      have := (nI_leI (a := tN T) (b := k) (by omega) (by omega)).mp h1
      omega
    rw [fl_f hn]
    by_cases c : a < 0
    · rw [if_pos c]
    · rw [if_neg c, if_pos h1]
  · have q1 : ¬ nI k < 0 := nI_pos (by omega)
    have q2 : ¬ nI (tN T) ≤ nI k := by rw [nI_leI (by omega) (by omega)]; omega
    have q3 : ¬ (8 : Int32) ≤ nI k := by rw [show (8 : Int32) = nI 8 from rfl, nI_leI (by omega) (by omega)]; omega
    rw [if_neg q1, if_neg q2, if_neg q3, fl_t ⟨k, hk, rfl⟩]
theorem m_isSt {T : TS} {σ : Sg} (hO : Ok T) (h : RM T σ) (a : Int32) : f_mo_isStation σ a = some (fl (∃ k, k < tN T ∧ a = nI k)) := by
  have h8 := hO.1
  unfold f_mo_isStation
  have e : f_mo_within a.toInt64 0 ((σ.1 20 2) - 1).toInt64 = fl (∃ k, k < tN T ∧ a = nI k) := by
    rw [h.1, ← iI_nat, show (1 : Int32) = iI 1 from rfl, iI_sub, iI_L (by omega) (by omega), show (0 : Int64) = iL 0 from rfl, within_eq a (by omega) (by omega) (by omega) (by omega)]
    by_cases c : ∃ k, k < tN T ∧ a = nI k
    · rw [fl_t c]
      obtain ⟨k, hk, rfl⟩ := c
      rw [nI_toInt (by omega), if_pos (by omega)]
    · rw [fl_f c, if_neg]
      intro z
      refine c ⟨a.toInt.toNat, by omega, ?_⟩
      apply Int32.toInt_inj.mp
      rw [nI_toInt (by omega)]
      omega
  rw [e, if_pos (fl_01 _)]
theorem x_chord {T : TS} {σ : Sg} (hO : Ok T) (h : RX T σ) {k : Nat} (hk : k < tN T) (w : Int32) : f_ss_chordFact σ (nI k) w = some (if w = 2 then iI (tG T k) else if w = 3 then iI (tB T k) else if w = 4 then iI (tE T k) else if w = 5 then iI (lo T k) else if w = 6 then iI (li T k) else if w = 7 then iI (ri T k) else iI (ro T k)) := by
  have h8 := hO.1
  obtain ⟨a0, a1⟩ := x_inner hO h hk
  obtain ⟨b0, b1⟩ := x_outer hO h hk
  have i1 : ib (nI k) 8 := (ib_nI (by omega)).mpr (by omega)
  unfold f_ss_chordFact
  rw [a0, a1, b0, b1]
  simp only [if_pos i1, nI_clamp (show k < 2 ^ 31 by omega), (h.2.2 k hk).2.2.1, (h.2.2 k hk).2.2.2.1, (h.2.2 k hk).2.2.2.2, bind_some, iI_neg, Int.neg_neg]
  (repeat' split) <;> rfl
/-- station, for any arguments -/
noncomputable def staR (T : TS) (a w : Int32) : Int32 := if fl (∃ k, k < tN T ∧ a = nI k) = 0 then -100000002 else if w < 0 then -100000003 else if w ≤ 8 then sv T a.toNatClampNeg w else -100000003
theorem b01_eq (b : Bool) : (if b01 b = 0 then (some (0 : Int32)) else some 1) = some (b01 b) := by cases b <;> rfl
theorem x_station {T : TS} {σ : Sg} (hO : Ok T) (h : RX T σ) (a w : Int32) : f_ss_station σ a w = some (staR T a w) := by
  have h8 := hO.1
  unfold f_ss_station staR
  rw [x_has hO h]
  by_cases c0 : ∃ k, k < tN T ∧ a = nI k
  · have e10 : ¬ ((1 : Int32) = 0) := by decide
    rw [fl_t c0, if_neg e10, if_neg e10]
    obtain ⟨k, hk, rfl⟩ := c0
    have i1 : ib (nI k) 8 := (ib_nI (by omega)).mpr (by omega)
    by_cases c1 : w < 0
    · rw [if_pos c1, if_pos c1]
    · rw [if_neg c1, if_neg c1]
      by_cases c2 : w ≤ 8
      · rw [if_pos c2, if_pos c2]
        unfold sv
        simp only [if_pos i1, nI_clamp (show k < 2 ^ 31 by omega), (h.2.2 k hk).1, (h.2.2 k hk).2.1, b01_eq, x_chord hO h hk, bind_some]
        by_cases c3 : w = 0
        · rw [if_pos c3, if_pos c3]
        · rw [if_neg c3, if_neg c3]
          by_cases c4 : w = 1
          · rw [if_pos c4, if_pos c4]
          · rw [if_neg c4, if_neg c4]
            cases tM T k <;> rfl
      · rw [if_neg c2, if_neg c2]
  · rw [fl_f c0, if_pos rfl, if_pos rfl]
theorem w_sub {w : Int32} {a : Int} (h : w = iI a) : w - 5 = iI (a - 5) := by rw [h, show (5 : Int32) = iI 5 from rfl, iI_sub]
theorem m_stNow {T : TS} {σ : Sg} (hO : Ok T) (h : RM T σ) {k : Nat} (hk : k < tN T) {w : Int32} (h1 : ¬ w < 0) (h2 : w ≤ 8) : f_mo_stationNow σ (nI k) w = some (sv T k w) := by
  have h8 := hO.1
  have i1 : ib (nI k) 8 := (ib_nI (by omega)).mpr (by omega)
  obtain ⟨b0, b1, b2, b3⟩ := m_bound hO h hk
  unfold f_mo_stationNow sv
  simp only [if_pos i1, nI_clamp (show k < 2 ^ 31 by omega), (h.2.2 k hk).1, (h.2.2 k hk).2.1, (h.2.2 k hk).2.2.1, (h.2.2 k hk).2.2.2.1, (h.2.2 k hk).2.2.2.2, b01_eq]
  by_cases c3 : w = 0
  · rw [if_pos c3, if_pos c3]
  · rw [if_neg c3, if_neg c3]
    by_cases c4 : w = 1
    · rw [if_pos c4, if_pos c4]
    · rw [if_neg c4, if_neg c4]
      cases hm : tM T k with
      | true => rfl
      | false =>
        rw [if_pos (show b01 false = 0 from rfl), if_neg (show ¬ (false = true) by decide)]
        obtain ⟨j, hj, rfl⟩ : ∃ j, j < 9 ∧ w = nI j := by
          rcases pk_ix w (n := 9) (by omega) with h | h | h
          · exact absurd h h1
          · exfalso
            rw [Int32.le_iff_toInt_le] at h h2
            have : (nI 9).toInt = 9 := rfl
            have : (8 : Int32).toInt = 8 := rfl
            omega
          · exact h
        match j, hj with
        | 0, _ => exact absurd rfl c3
        | 1, _ => exact absurd rfl c4
        | 2, _ => rfl
        | 3, _ => rfl
        | 4, _ => rfl
        | 5, _ =>
          rw [if_neg (by decide), if_neg (by decide), if_neg (by decide), if_neg (by decide), if_neg (by decide), if_neg (by decide), if_pos (by decide), show nI 5 - 5 = 0 from rfl, b0, bind_some]
        | 6, _ =>
          rw [if_neg (by decide), if_neg (by decide), if_neg (by decide), if_neg (by decide), if_neg (by decide), if_neg (by decide), if_neg (by decide), if_pos (by decide), show nI 6 - 5 = 1 from rfl, b1, bind_some]
        | 7, _ =>
          rw [if_neg (by decide), if_neg (by decide), if_neg (by decide), if_neg (by decide), if_neg (by decide), if_neg (by decide), if_neg (by decide), if_neg (by decide), if_pos (by decide), show nI 7 - 5 = 2 from rfl, b2, bind_some]
        | 8, _ =>
          rw [if_neg (by decide), if_neg (by decide), if_neg (by decide), if_neg (by decide), if_neg (by decide), if_neg (by decide), if_neg (by decide), if_neg (by decide), if_neg (by decide), show nI 8 - 5 = 3 from rfl, b3, bind_some]
        | j + 9, hj => omega
theorem m_station {T : TS} {σ : Sg} (hO : Ok T) (h : RM T σ) (a w : Int32) : f_mo_station σ a w = some (staR T a w) := by
  have h8 := hO.1
  have q := w03 w 8 (by omega) (by omega)
  unfold f_mo_station staR
  rw [m_isSt hO h, bind_some]
  by_cases c0 : ∃ k, k < tN T ∧ a = nI k
  · have e10 : ¬ ((1 : Int32) = 0) := by decide
    rw [fl_t c0, if_neg e10, if_neg e10]
    obtain ⟨k, hk, rfl⟩ := c0
    by_cases c : f_mo_within w.toInt64 0 8 = 0
    · rw [if_pos c]
      rcases q.mp c with h | h
      · rw [if_pos h]
      · rw [if_neg (show ¬ w ≤ 8 from h), ite_self]
    · have c' : ¬ (w < 0 ∨ ¬ w ≤ iI 8) := fun z => c (q.mpr z)
      have h1 : ¬ w < 0 := fun z => c' (Or.inl z)
      have h2 : w ≤ 8 := Classical.not_not.mp (fun z => c' (Or.inr z))
      rw [if_neg c, if_neg h1, if_pos h2, m_stNow hO h hk h1 h2, bind_some, nI_clamp (by omega)]
  · rw [fl_f c0, if_pos rfl, if_pos rfl]
/-- AT: the number of a height -/
noncomputable def fnd (T : TS) (a : Int32) : Option Nat := @dite (Option Nat) (∃ k, k < tN T ∧ a = iI (tH T k)) (Classical.propDecidable _) (fun h => some (Classical.choose h)) (fun _ => none)
theorem fnd_some {T : TS} (hO : Ok T) {a : Int32} {k : Nat} (hk : k < tN T) (ha : a = iI (tH T k)) : fnd T a = some k := by
  have h : ∃ k, k < tN T ∧ a = iI (tH T k) := ⟨k, hk, ha⟩
  unfold fnd
  rw [dif_pos h]
  have hs := Classical.choose_spec h
  have o1 := (hO.2.2.1 k hk).1
  have o2 := (hO.2.2.1 _ hs.1).1
  have e := (iI_eq (a := tH T (Classical.choose h)) (b := tH T k) (by omega) (by omega) (by omega) (by omega)).mp (hs.2.symm.trans ha)
  exact congrArg some (hO.2.2.2 _ _ hs.1 hk e)
theorem fnd_none {T : TS} {a : Int32} (h : ¬ ∃ k, k < tN T ∧ a = iI (tH T k)) : fnd T a = none := by
  unfold fnd
  rw [dif_neg h]
theorem x_find_loop {T : TS} {σ : Sg} (hO : Ok T) (h : RX T σ) {N : Nat} (a : Int32) : ∀ (m k : Nat), k ≤ tN T → tN T - k < m → (∀ j, j < k → ¬ a = iI (tH T j)) → f_ro_find_c2 N m a (nI k) σ = some (match fnd T a with | some k => nI k | none => -1) := by
  have h8 := hO.1
  intro m
  induction m with
  | zero => intro k h1 h2; omega
  | succ m ih =>
    intro k hk hm hb
    show f_ro_find_c2_s N (f_ro_find_c2 N m) a (nI k) σ = _
    unfold f_ro_find_c2_s
    have q0 : nI (tN T) ≤ nI k ↔ tN T ≤ k := nI_leI (by omega) (by omega)
    by_cases c0 : tN T ≤ k
    · rw [h.1, if_pos (q0.mpr c0), fnd_none (fun ⟨j, hj, e⟩ => hb j (by omega) e)]
    · have i1 : ib (nI k) 8 := (ib_nI (by omega)).mpr (by omega)
      rw [h.1, if_neg (fun z => c0 (q0.mp z)), if_pos i1, nI_clamp (show k < 2 ^ 31 by omega), (h.2.2 k (by omega)).1]
      by_cases c1 : iI (tH T k) = a
      · rw [if_pos c1, fnd_some hO (by omega : k < tN T) c1.symm]
      · rw [if_neg c1, nI_1]
        exact ih (k + 1) (by omega) (by omega) (fun j hj e => by
          rcases Nat.lt_or_ge j k with h3 | h3
          · exact hb j h3 e
          · have : j = k := by omega
            subst this
            exact c1 e.symm)
theorem x_find {T : TS} {σ : Sg} (hO : Ok T) (h : RX T σ) {N : Nat} (hN : 600 ≤ N) (a : Int32) : f_ro_find N σ a = some (match fnd T a with | some k => nI k | none => -1) := by
  have h8 := hO.1
  unfold f_ro_find
  rw [show (0 : Int32) = nI 0 from rfl]
  exact x_find_loop hO h a N 0 (by omega) (by omega) (fun j hj => by omega)
theorem m_find_loop {T : TS} {σ : Sg} (hO : Ok T) (h : RM T σ) {N : Nat} (a : Int32) : ∀ (m k : Nat) (t : Int32), k ≤ tN T → tN T - k < m → (t = if (∃ j, j < k ∧ a = iI (tH T j)) then (match fnd T a with | some k => nI k | none => -100000001) else -100000001) → f_mo_findStation_c5 N m a t (nI k) σ = some (match fnd T a with | some k => nI k | none => -100000001) := by
  have h8 := hO.1
  intro m
  induction m with
  | zero => intro k t h1 h2; omega
  | succ m ih =>
    intro k t hk hm ht
    show f_mo_findStation_c5_s N (f_mo_findStation_c5 N m) a t (nI k) σ = _
    unfold f_mo_findStation_c5_s
    have q0 : nI (tN T) ≤ nI k ↔ tN T ≤ k := nI_leI (by omega) (by omega)
    by_cases c0 : tN T ≤ k
    · rw [h.1, if_pos (q0.mpr c0), ht]
      by_cases c1 : ∃ j, j < k ∧ a = iI (tH T j)
      · rw [if_pos c1]
      · rw [if_neg c1, fnd_none (fun ⟨j, hj, e⟩ => c1 ⟨j, by omega, e⟩)]
    · have i1 : ib (nI k) 8 := (ib_nI (by omega)).mpr (by omega)
      rw [h.1, if_neg (fun z => c0 (q0.mp z)), if_pos i1, nI_clamp (show k < 2 ^ 31 by omega), (h.2.2 k (by omega)).1, nI_1]
      by_cases c1 : iI (tH T k) = a
      · rw [if_pos c1]
        refine ih (k + 1) _ (by omega) (by omega) ?_
        rw [if_pos ⟨k, by omega, c1.symm⟩, fnd_some hO (by omega : k < tN T) c1.symm]
      · rw [if_neg c1]
        refine ih (k + 1) _ (by omega) (by omega) ?_
        rw [ht]
        have : (∃ j, j < k ∧ a = iI (tH T j)) ↔ (∃ j, j < k + 1 ∧ a = iI (tH T j)) := by
          constructor
          · rintro ⟨j, hj, e⟩; exact ⟨j, by omega, e⟩
          · rintro ⟨j, hj, e⟩
            rcases Nat.lt_or_ge j k with h3 | h3
            · exact ⟨j, h3, e⟩
            · have : j = k := by omega
              subst this
              exact absurd e.symm c1
        simp only [this]
