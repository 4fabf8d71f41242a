/-! the REACH query, and the most that it LASTS -/
noncomputable def reaR (T : TS) (a b c : Int32) : Int32 := if a < -200 ∨ 200 < a then -100000003 else if b = 0 ∨ b = 1 then (if c = 0 ∨ c = 1 then (if fl (wr T = 0) = 0 then -100000004 else if fl (chd T) = 0 then -100000004 else telF (rchL T a.toInt) (rchR T a.toInt) (outR T a.toInt) b c) else -100000003) else -100000003
theorem h_in {a : Int32} (h : ¬ (a < -200 ∨ 200 < a)) : a = iI a.toInt ∧ -200 ≤ a.toInt ∧ a.toInt ≤ 200 := by
  obtain ⟨x, rfl, h1, h2⟩ := iI_of a
  have q1 : iI x < -200 ↔ x < -200 := by
    rw [show (-200 : Int32) = iI (-200) from rfl]
    exact iI_lt h1 h2 (by omega) (by omega)
  have q2 : (200 : Int32) < iI x ↔ 200 < x := iI_lt (a := 200) (by omega) (by omega) h1 h2
  rw [q1, q2] at h
  rw [iI_toInt h1 h2]
  exact ⟨rfl, by omega, by omega⟩
theorem x_reach {T : TS} {σ : Sg} (h : XQ T σ) {N : Nat} (hN : 600 ≤ N) (a b c : Int32) : ∃ σ', f_ss_reach N σ a b c = some (reaR T a b c, σ') ∧ FSp σ σ' := by
  have ha := x_allFit h
  obtain ⟨hO, hR, hw, hK⟩ := h
  unfold f_ss_reach reaR
  by_cases c1 : a < -200 ∨ 200 < a
  · rw [if_pos ((isH_eq a).mpr c1), if_pos c1]; exact ⟨σ, rfl, FSp.rf σ⟩
  · rw [if_neg (fun z => c1 ((isH_eq a).mp z)), if_neg c1]
    by_cases c2 : b = 0 ∨ b = 1
    · rw [if_neg (fun z => (isBit_eq b).mp z c2), if_pos c2]
      by_cases c3 : c = 0 ∨ c = 1
      · rw [if_neg (fun z => (isBit_eq c).mp z c3), if_pos c3, ha]
        by_cases c4 : fl (wr T = 0) = 0
        · rw [if_pos c4, if_pos c4]; exact ⟨σ, rfl, FSp.rf σ⟩
        · rw [if_neg c4, if_neg c4, x_chd hO hR hN, bind_some]
          by_cases c5 : fl (chd T) = 0
          · rw [if_pos c5, if_pos c5]; exact ⟨σ, rfl, FSp.rf σ⟩
          · rw [if_neg c5, if_neg c5]
            obtain ⟨e, h1, h2⟩ := h_in c1
            obtain ⟨σ1, e1, F1, S1⟩ := x_reached hO hR hN h1 h2
            rw [← e] at e1
            rw [e1, bind_some, x_tell S1 (rchL_k hO h1 h2) (rchR_k hO h1 h2) hN, bind_some]
            exact ⟨σ1, rfl, F1⟩
      · rw [if_pos ((isBit_eq c).mpr c3), if_neg c3]; exact ⟨σ, rfl, FSp.rf σ⟩
    · rw [if_pos ((isBit_eq b).mpr c2), if_neg c2]; exact ⟨σ, rfl, FSp.rf σ⟩
theorem wb_eq (b : Int32) : f_mo_within b.toInt64 0 1 = 0 ↔ ¬ (b = 0 ∨ b = 1) := (w03 b 1 (by omega) (by omega)).trans (bit01 b)
theorem ask_eq (a b c : Int32) : f_mo_isAsk a b c = 0 ↔ ¬ (¬ (a < -200 ∨ 200 < a) ∧ (b = 0 ∨ b = 1) ∧ (c = 0 ∨ c = 1)) := by
  unfold f_mo_isAsk
  by_cases c1 : a < -200 ∨ 200 < a
  · rw [if_pos ((wH_eq a).mpr c1)]
    exact ⟨fun _ z => z.1 c1, fun _ => rfl⟩
  · rw [if_neg (fun z => c1 ((wH_eq a).mp z))]
    by_cases c2 : b = 0 ∨ b = 1
    · rw [if_neg (fun z => (wb_eq b).mp z c2)]
      by_cases c3 : c = 0 ∨ c = 1
      · rw [if_neg (fun z => (wb_eq c).mp z c3)]
        exact ⟨fun z => absurd z (by decide), fun z => absurd ⟨c1, c2, c3⟩ z⟩
      · rw [if_pos ((wb_eq c).mpr c3)]
        exact ⟨fun _ z => c3 z.2.2, fun _ => rfl⟩
    · rw [if_pos ((wb_eq b).mpr c2)]
      exact ⟨fun _ z => c2 z.2.1, fun _ => rfl⟩
theorem can_0 (T : TS) : fl (chd T ∧ wr T = 0) = 0 ↔ (fl (wr T = 0) = 0 ∨ fl (chd T) = 0) := by
  rw [fl_0, fl_0, fl_0]
  constructor
  · intro z
    by_cases c : wr T = 0
    · exact Or.inr (fun y => z ⟨y, c⟩)
    · exact Or.inl c
  · rintro (z | z) ⟨x, y⟩
    · exact z y
    · exact z x
theorem m_reach {T : TS} {σ : Sg} (hO : Ok T) (hR : RM T σ) {N : Nat} (hN : 600 ≤ N) (a b c : Int32) : ∃ σ', f_mo_reach N σ a b c = some (reaR T a b c, σ') ∧ FMb σ σ' := by
  unfold f_mo_reach reaR
  have qa := ask_eq a b c
  by_cases c1 : a < -200 ∨ 200 < a
  · rw [if_pos (qa.mpr (fun z => z.1 c1)), if_pos c1]; exact ⟨σ, rfl, FMb.rf σ⟩
  · rw [if_neg c1]
    by_cases c2 : b = 0 ∨ b = 1
    · rw [if_pos c2]
      by_cases c3 : c = 0 ∨ c = 1
      · rw [if_pos c3, if_neg (fun z => qa.mp z ⟨c1, c2, c3⟩), m_can hO hR hN, bind_some]
        by_cases c4 : fl (wr T = 0) = 0
        · rw [if_pos ((can_0 T).mpr (Or.inl c4)), if_pos c4]; exact ⟨σ, rfl, FMb.rf σ⟩
        · rw [if_neg c4]
          by_cases c5 : fl (chd T) = 0
          · rw [if_pos ((can_0 T).mpr (Or.inr c5)), if_pos c5]; exact ⟨σ, rfl, FMb.rf σ⟩
          · rw [if_neg (fun z => ((can_0 T).mp z).elim c4 c5), if_neg c5]
            obtain ⟨e, h1, h2⟩ := h_in c1
            obtain ⟨σ1, e1, F1⟩ := m_reachNow hO hR hN h1 h2 c2 c3
            rw [← e] at e1
            rw [e1, bind_some]
            exact ⟨σ1, rfl, F1⟩
      · rw [if_neg c3, if_pos (qa.mpr (fun z => c3 z.2.2))]; exact ⟨σ, rfl, FMb.rf σ⟩
    · rw [if_neg c2, if_pos (qa.mpr (fun z => c2 z.2.1))]; exact ⟨σ, rfl, FMb.rf σ⟩
def mst (s : Int) (p q : Int × Int) : Int := (q.1 * p.2 - p.1 * q.2 + p.2 * q.2 * s - 1) / (p.2 * q.2 * s)
noncomputable def mstR (T : TS) (h : Int) : Int32 := if fl (outR T h) = 0 then (match rchL T h with | none => -100000001 | some p => (match rchR T h with | none => -100000001 | some q => iI (mst (tS T) p q))) else 0
theorem den_b {a b s : Int} (a1 : 1 ≤ a) (a2 : a ≤ 400) (b1 : 1 ≤ b) (b2 : b ≤ 400) (s1 : 1 ≤ s) (s2 : s ≤ 20) : 1 ≤ a * b * s ∧ a * b * s ≤ 3200000 := by
  have m1 := mb (A := 400) (B := 400) (a := a) (b := b) (by omega) a2 (by omega) b2
  have m2 : 0 < a * b := Int.mul_pos (by omega) (by omega)
  have m3 := mb (A := 160000) (B := 20) (a := a * b) (b := s) (by omega) (by omega) (by omega) s2
  have m4 : 0 < a * b * s := Int.mul_pos m2 (by omega)
  omega
theorem not_crossed {T : TS} {h : Int} (c : fl (outR T h) = 0) {p q : Int × Int} (hl : rchL T h = some p) (hr : rchR T h = some q) : 0 ≤ q.1 * p.2 - p.1 * q.2 := by
  have := fl_0.mp c
  have z : ¬ q.1 * p.2 < p.1 * q.2 := fun z => this (Or.inr ⟨p, q, hl, hr, z⟩)
  omega
theorem x_most {T : TS} {σ : Sg} (hO : Ok T) {h : Int} (h1 : -200 ≤ h) (h2 : h ≤ 200) (hS : SX (rchL T h) (rchR T h) (outR T h) σ) : f_sp_ticksUp σ (iI (tS T)) = some (mstR T h) := by
  obtain ⟨B1, B2, ho⟩ := hS
  have kl := rchL_k hO h1 h2
  have kr := rchR_k hO h1 h2
  have e10 : ¬ ((1 : Int32) = 0) := by decide
  unfold f_sp_ticksUp mstR
  rw [ho]
  by_cases c : fl (outR T h) = 0
  · rw [if_pos c, if_pos c]
    unfold f_sp_isBoundless f_sp_lengthTop f_sp_lengthBottom
    cases hl : rchL T h with
    | none =>
      rw [hl] at B1
      rw [B1.1, if_neg e10, if_neg e10]
    | some p =>
      cases hr : rchR T h with
      | none =>
        rw [hr] at B2
        rw [hl] at B1
        rw [B1.1, B2.1, if_pos rfl, if_neg e10, if_neg e10]
      | some q =>
        have nn := not_crossed c hl hr
        rw [hr] at B2 kr
        rw [hl] at B1 kl
        obtain ⟨⟨p1, p2⟩, p3, p4⟩ := kl p rfl
        obtain ⟨⟨q1, q2⟩, q3, q4⟩ := kr q rfl
        have m1 := pb p1 p2 q3 q4
        have m2 := pb q1 q2 p3 p4
        have db := den_b p3 p4 q3 q4 hO.2.1.1 hO.2.1.2
        have hs := hO.2.1
        rw [B1.1, B2.1, if_pos rfl, if_pos rfl, if_pos rfl, B1.2.1, B1.2.2, B2.2.1, B2.2.2, iI_L (by omega) (by omega), iL_mul, iL_mul, iL_mul, iL_mul, iL_add, iL_neg, iL_neg]
        have q0 : (0 : Int64) < iL (p.2 * q.2 * tS T) ↔ 0 < p.2 * q.2 * tS T := iL_lt (a := 0) (by omega) (by omega) (by omega) (by omega)
        have ee : - -(1 * p.1 * q.2 + -1 * q.1 * p.2) = -(q.1 * p.2 - p.1 * q.2) := by grind
        rw [if_pos (q0.mpr (by omega)), ee, fdiv_eq (by omega) (by omega) (by omega) (by omega), bind_some, iL_neg, iL_I, ceil_eq (by omega)]
        rfl
  · rw [if_neg c, if_neg c]
theorem m_most {T : TS} {σ : Sg} (hO : Ok T) (hR : RM T σ) {N : Nat} (hN : 600 ≤ N) {h : Int} (h1 : -200 ≤ h) (h2 : h ≤ 200) : ∃ σ', f_mo_mostNow N σ (iI h) = some (mstR T h, σ') ∧ FMb σ σ' := by
  have kl := rchL_k hO h1 h2
  have kr := rchR_k hO h1 h2
  have e10 : ¬ ((1 : Int32) = 0) := by decide
  obtain ⟨σ1, e1, F1⟩ := m_isOut hO hR hN h1 h2
  unfold f_mo_mostNow mstR
  rw [e1, bind_some]
  show ∃ σ', (if fl (outR T h) = 0 then _ else _) = _ ∧ _
  by_cases c : fl (outR T h) = 0
  · rw [if_pos c, if_pos c]
    obtain ⟨σ2, e2, F2, B2⟩ := m_reach_0 hO (F1.1.rm hR) hN h1 h2
    obtain ⟨σ3, e3, F3, B3⟩ := m_reach_1 hO (F2.1.rm (F1.1.rm hR)) hN h1 h2
    have R3 := F3.1.rm (F2.1.rm (F1.1.rm hR))
    have B2' : BM (rchL T h) σ2 := B2
    have B3' : BM (rchR T h) σ3 := B3
    refine ⟨σ3, ?_, (F1.tr F2).tr F3⟩
    rw [e2, bind_some, e3, bind_some]
    cases hl : rchL T h with
    | none =>
      rw [hl] at B2'
      rw [B2'.1, if_pos rfl]
    | some p =>
      cases hr : rchR T h with
      | none =>
        rw [hr] at B3'
        rw [hl] at B2'
        rw [B2'.1, B3'.1, if_neg e10, if_pos rfl]
      | some q =>
        have nn := not_crossed c hl hr
        rw [hr] at B3' kr
        rw [hl] at B2' kl
        obtain ⟨⟨p1, p2⟩, p3, p4⟩ := kl p rfl
        obtain ⟨⟨q1, q2⟩, q3, q4⟩ := kr q rfl
        have m1 := pb p1 p2 q3 q4
        have m2 := pb q1 q2 p3 p4
        have db := den_b p3 p4 q3 q4 hO.2.1.1 hO.2.1.2
        have hs := hO.2.1
        have ec : q.2 * p.2 * tS T = p.2 * q.2 * tS T := by grind
        rw [B2'.1, B3'.1, if_neg e10, if_neg e10, B2'.2.1, B2'.2.2, B3'.2.1, B3'.2.2, R3.2.1, iI_L (by omega) (by omega), iL_mul, iL_mul, iL_mul, iL_mul, iL_sub, iL_add, show (1 : Int64) = iL 1 from rfl, iL_sub, ec]
        have n0 : ¬ iL (p.2 * q.2 * tS T) = 0 := fun z => by
          have := (iL_eq (b := 0) (by omega) (by omega) (by omega) (by omega)).mp z
          omega
        rw [if_pos n0, div_nn (by omega) (by omega) (by omega) (by omega), iL_I]
        rfl
  · rw [if_neg c, if_neg c]
    exact ⟨σ1, rfl, F1⟩
