/-! AT, COUNT, whether there is a chord -/
theorem m_find {T : TS} {σ : Sg} (hO : Ok T) (h : RM T σ) {N : Nat} (hN : 600 ≤ N) (a : Int32) : f_mo_findStation N σ a = some (match fnd T a with | some k => nI k | none => -100000001) := by
  have h8 := hO.1
  unfold f_mo_findStation
  rw [show (0 : Int32) = nI 0 from rfl]
  refine m_find_loop hO h a N 0 _ (by omega) (by omega) ?_
  rw [if_neg (fun ⟨j, hj, _⟩ => by omega)]
theorem fnd_lt {T : TS} (hO : Ok T) {a : Int32} {k : Nat} (h : fnd T a = some k) : k < tN T := by
  rcases Classical.em (∃ k, k < tN T ∧ a = iI (tH T k)) with h1 | h1
  · obtain ⟨j, hj, e⟩ := h1
    rw [fnd_some hO hj e] at h
    cases h
    exact hj
  · rw [fnd_none h1] at h; cases h
noncomputable def atR (T : TS) (a : Int32) : Int32 := if a < -200 then -100000003 else if 200 < a then -100000003 else (match fnd T a with | some k => nI k | none => -100000001)
theorem isH_eq (a : Int32) : f_ss_isHeight a = 0 ↔ (a < -200 ∨ 200 < a) := by
  unfold f_ss_isHeight
  by_cases h1 : a < -200
  · simp [h1]
  · by_cases h2 : 200 < a
    · simp [h1, h2]
    · simp [h1, h2]
theorem wH_eq (a : Int32) : f_mo_within a.toInt64 (-200) 200 = 0 ↔ (a < -200 ∨ 200 < a) := by
  rw [show (-200 : Int64) = iL (-200) from rfl, show (200 : Int64) = iL 200 from rfl, within_eq a (by omega) (by omega) (by omega) (by omega), Int32.lt_iff_toInt_lt, Int32.lt_iff_toInt_lt, show (-200 : Int32).toInt = -200 from rfl, show (200 : Int32).toInt = 200 from rfl]
  by_cases c : -200 ≤ a.toInt ∧ a.toInt ≤ 200
  · rw [if_pos c]
    constructor
    · intro h; exact absurd h (by decide)
    · intro h; omega
  · rw [if_neg c]
    constructor
    · intro _; omega
    · intro _; rfl
theorem atR_out {T : TS} {a : Int32} (h : a < -200 ∨ 200 < a) : atR T a = -100000003 := by
  unfold atR
  rcases h with h | h
  · rw [if_pos h]
  · rw [if_pos h, ite_self]
theorem atR_in {T : TS} {a : Int32} (h : ¬ (a < -200 ∨ 200 < a)) : atR T a = (match fnd T a with | some k => nI k | none => -100000001) := by
  unfold atR
  rw [if_neg (fun z => h (Or.inl z)), if_neg (fun z => h (Or.inr z))]
theorem x_at {T : TS} {σ : Sg} (hO : Ok T) (h : RX T σ) {N : Nat} (hN : 600 ≤ N) (a : Int32) : f_ss_at N σ a = some (atR T a) := by
  have h8 := hO.1
  unfold f_ss_at
  by_cases c : a < -200 ∨ 200 < a
  · rw [if_pos ((isH_eq a).mpr c), atR_out c]
  · rw [if_neg (fun z => c ((isH_eq a).mp z)), atR_in c, x_find hO h hN, bind_some]
    cases hf : fnd T a with
    | none => rfl
    | some k =>
      have := fnd_lt hO hf
      show (if 0 ≤ nI k then some (nI k) else some (-100000001)) = some (nI k)
      rw [if_pos (nI_pos' (by omega))]
theorem m_at {T : TS} {σ : Sg} (hO : Ok T) (h : RM T σ) {N : Nat} (hN : 600 ≤ N) (a : Int32) : f_mo_at N σ a = some (atR T a) := by
  unfold f_mo_at
  by_cases c : a < -200 ∨ 200 < a
  · rw [if_pos ((wH_eq a).mpr c), atR_out c]
  · rw [if_neg (fun z => c ((wH_eq a).mp z)), atR_in c, m_find hO h hN, bind_some]
/-- how many missed -/
def msN (T : TS) : Nat → Nat
  | 0 => 0
  | s + 1 => msN T s + (if tM T s = true then 1 else 0)
theorem msN_le (T : TS) : ∀ s, msN T s ≤ s
  | 0 => Nat.le_refl _
  | s + 1 => by
    have := msN_le T s
    unfold msN
    split <;> omega
theorem x_miss_loop {T : TS} {σ : Sg} (hO : Ok T) (h : RX T σ) {N : Nat} : ∀ (m k : Nat), k ≤ tN T → tN T - k < m → f_ro_missCount_c4 N m (nI (msN T k)) (nI k) σ = some (nI (msN T (tN T))) := by
  have h8 := hO.1
  intro m
  induction m with
  | zero => intro k h1 h2; omega
  | succ m ih =>
    intro k hk hm
    show f_ro_missCount_c4_s N (f_ro_missCount_c4 N m) (nI (msN T k)) (nI k) σ = _
    unfold f_ro_missCount_c4_s
    have q0 : nI (tN T) ≤ nI k ↔ tN T ≤ k := nI_leI (by omega) (by omega)
    by_cases c0 : tN T ≤ k
    · have : k = tN T := by omega
      rw [h.1, if_pos (q0.mpr c0), this]
    · have i1 : ib (nI k) 8 := (ib_nI (by omega)).mpr (by omega)
      rw [h.1, if_neg (fun z => c0 (q0.mp z)), if_pos i1, nI_clamp (show k < 2 ^ 31 by omega), (h.2.2 k (by omega)).2.1, nI_1, nI_1]
      have := ih (k + 1) (by omega) (by omega)
      by_cases c1 : tM T k = false
      · rw [if_pos ((b01_0 _).mpr c1)]
        have e : msN T (k + 1) = msN T k := by
          conv => lhs; unfold msN
          rw [if_neg (by rw [c1]; decide), Nat.add_zero]
        rw [e] at this
        exact this
      · rw [if_neg (fun z => c1 ((b01_0 _).mp z))]
        have e : msN T (k + 1) = msN T k + 1 := by
          conv => lhs; unfold msN
          rw [if_pos (by simpa using c1)]
        rw [e] at this
        exact this
theorem x_miss {T : TS} {σ : Sg} (hO : Ok T) (h : RX T σ) {N : Nat} (hN : 600 ≤ N) : f_ro_missCount N σ = some (nI (msN T (tN T))) := by
  have h8 := hO.1
  unfold f_ro_missCount
  exact x_miss_loop hO h N 0 (by omega) (by omega)
theorem m_hits_loop {T : TS} {σ : Sg} (hO : Ok T) (h : RM T σ) {N : Nat} : ∀ (m k : Nat), k ≤ tN T → tN T - k < m → f_mo_hits_c4 N m (nI (k - msN T k)) (nI k) σ = some (nI (tN T - msN T (tN T))) := by
  have h8 := hO.1
  intro m
  induction m with
  | zero => intro k h1 h2; omega
  | succ m ih =>
    intro k hk hm
    show f_mo_hits_c4_s N (f_mo_hits_c4 N m) (nI (k - msN T k)) (nI k) σ = _
    unfold f_mo_hits_c4_s
    have q0 : nI (tN T) ≤ nI k ↔ tN T ≤ k := nI_leI (by omega) (by omega)
    have hle := msN_le T k
    by_cases c0 : tN T ≤ k
    · have : k = tN T := by omega
      rw [h.1, if_pos (q0.mpr c0), this]
    · have i1 : ib (nI k) 8 := (ib_nI (by omega)).mpr (by omega)
      rw [h.1, if_neg (fun z => c0 (q0.mp z)), if_pos i1, nI_clamp (show k < 2 ^ 31 by omega), (h.2.2 k (by omega)).2.1, nI_1, nI_1, Int32.add_zero]
      have := ih (k + 1) (by omega) (by omega)
      by_cases c1 : tM T k = false
      · rw [if_pos ((b01_0 _).mpr c1)]
        have e : msN T (k + 1) = msN T k := by
          conv => lhs; unfold msN
          rw [if_neg (by rw [c1]; decide), Nat.add_zero]
        rw [e, show k + 1 - msN T k = k - msN T k + 1 by omega] at this
        exact this
      · rw [if_neg (fun z => c1 ((b01_0 _).mp z))]
        have e : msN T (k + 1) = msN T k + 1 := by
          conv => lhs; unfold msN
          rw [if_pos (by simpa using c1)]
        rw [e, show k + 1 - (msN T k + 1) = k - msN T k by omega] at this
        exact this
theorem m_hits {T : TS} {σ : Sg} (hO : Ok T) (h : RM T σ) {N : Nat} (hN : 600 ≤ N) : f_mo_hits N σ = some (nI (tN T - msN T (tN T))) := by
  have h8 := hO.1
  unfold f_mo_hits
  exact m_hits_loop hO h N 0 (by omega) (by omega)
/-- some station did not miss -/
def chd (T : TS) : Prop := msN T (tN T) < tN T
theorem x_chd {T : TS} {σ : Sg} (hO : Ok T) (h : RX T σ) {N : Nat} (hN : 600 ≤ N) : f_ro_hasChord N σ = some (fl (chd T)) := by
  have h8 := hO.1
  have hle := msN_le T (tN T)
  unfold f_ro_hasChord
  rw [x_miss hO h hN, bind_some, h.1]
  have q0 : nI (tN T) ≤ nI (msN T (tN T)) ↔ tN T ≤ msN T (tN T) := nI_leI (by omega) (by omega)
  by_cases c : tN T ≤ msN T (tN T)
  · rw [if_pos (q0.mpr c), fl_f (p := chd T) (by unfold chd; omega)]
  · rw [if_neg (fun z => c (q0.mp z)), fl_t (p := chd T) (by unfold chd; omega)]
theorem m_can {T : TS} {σ : Sg} (hO : Ok T) (h : RM T σ) {N : Nat} (hN : 600 ≤ N) : f_mo_canReach N σ = some (fl (chd T ∧ wr T = 0)) := by
  have h8 := hO.1
  have hle := msN_le T (tN T)
  unfold f_mo_canReach
  rw [m_hits hO h hN, bind_some, mfit_eq hO h hN, bind_some]
  have q0 : nI (tN T - msN T (tN T)) ≤ 0 ↔ tN T - msN T (tN T) ≤ 0 := nI_leI (b := 0) (by omega) (by omega)
  by_cases c : tN T - msN T (tN T) ≤ 0
  · rw [if_pos (q0.mpr c), fl_f (p := chd T ∧ wr T = 0) (by unfold chd; omega)]
  · rw [if_neg (fun z => c (q0.mp z))]
    by_cases d : wr T = 0
    · rw [fl_t d, if_neg (by decide), fl_t (p := chd T ∧ wr T = 0) ⟨by unfold chd; omega, d⟩]
    · rw [fl_f d, if_pos rfl, fl_f (p := chd T ∧ wr T = 0) (fun z => d z.2)]
/-- COUNT -/
noncomputable def cntR (T : TS) (pl : Nat) (ca we : Int32) (a : Int32) : Int32 := if a = 0 then nI (tN T) else if a = 1 then nI (msN T (tN T)) else if a = 2 then nI pl else if a = 3 then iI (tS T) else if a = 4 then ca else if a = 5 then we else -100000003
theorem x_count {T : TS} {σ : Sg} (hO : Ok T) (h : RX T σ) {N : Nat} (hN : 600 ≤ N) (a : Int32) {pl : Nat} (hp : σ.1 0 6 = nI pl) : f_ss_count N σ a = some (cntR T pl (σ.1 0 7) (σ.1 0 8) a) := by
  unfold f_ss_count cntR
  rw [x_miss hO h hN, bind_some, h.1, h.2.1, hp]
  (repeat' split) <;> rfl
theorem m_howMany {T : TS} {σ : Sg} (hO : Ok T) (h : RM T σ) {N : Nat} (hN : 600 ≤ N) (a : Int32) {pl : Nat} (hp : σ.1 20 0 = nI pl) : f_mo_howMany N σ a = some (cntR T pl (σ.1 20 9) (σ.1 20 10) a) := by
  have h8 := hO.1
  have hle := msN_le T (tN T)
  unfold f_mo_howMany cntR
  rw [m_hits hO h hN, bind_some, h.1, h.2.1, hp, pk_sub (by omega), show tN T - (tN T - msN T (tN T)) = msN T (tN T) by omega]
  (repeat' split) <;> rfl
theorem m_count {T : TS} {σ : Sg} (hO : Ok T) (h : RM T σ) {N : Nat} (hN : 600 ≤ N) (a : Int32) {pl : Nat} (hp : σ.1 20 0 = nI pl) : f_mo_count N σ a = some (cntR T pl (σ.1 20 9) (σ.1 20 10) a) := by
  unfold f_mo_count
  rw [m_howMany hO h hN a hp, bind_some]
