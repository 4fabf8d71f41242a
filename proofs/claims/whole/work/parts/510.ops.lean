/-! what the two objects hold, and the calls that change it -/
def XI (T : TS) (pg : Nat → Int32) (pl : Nat) (ca we : Int32) (σ : Sg) : Prop := XQ T σ ∧ PGx pg pl σ ∧ σ.1 0 7 = ca ∧ σ.1 0 8 = we
def MI (T : TS) (pg : Nat → Int32) (pl : Nat) (ca we : Int32) (σ : Sg) : Prop := RM T σ ∧ PGm pg pl σ ∧ σ.1 20 9 = ca ∧ σ.1 20 10 = we
/-- the class leaves the model alone; the model leaves the class alone -/
def FX (a b : Sg) : Prop := ∀ p, 20 ≤ p → b.1 p = a.1 p ∧ b.2 p = a.2 p
def FL (a b : Sg) : Prop := ∀ p, p < 20 → b.1 p = a.1 p ∧ b.2 p = a.2 p
theorem FX.rf (a : Sg) : FX a a := fun _ _ => ⟨rfl, rfl⟩
theorem FL.rf (a : Sg) : FL a a := fun _ _ => ⟨rfl, rfl⟩
theorem FX.tr {a b c : Sg} (h1 : FX a b) (h2 : FX b c) : FX a c := fun p hp => ⟨(h2 p hp).1.trans (h1 p hp).1, (h2 p hp).2.trans (h1 p hp).2⟩
theorem FL.tr {a b c : Sg} (h1 : FL a b) (h2 : FL b c) : FL a c := fun p hp => ⟨(h2 p hp).1.trans (h1 p hp).1, (h2 p hp).2.trans (h1 p hp).2⟩
theorem FX.upI (σ : Sg) {p : Nat} (k : Nat) (x : Int32) (h : p < 20) : FX σ (uI σ p k x) := fun q hq => ⟨by funext j; rw [uI_1, if_neg (by omega)], rfl⟩
theorem FL.upI (σ : Sg) {p : Nat} (k : Nat) (x : Int32) (h : 20 ≤ p) : FL σ (uI σ p k x) := fun q hq => ⟨by funext j; rw [uI_1, if_neg (by omega)], rfl⟩
theorem FMc.fl {a b : Sg} (h : FMc a b) : FL a b := h.1
theorem FSp.fx {a b : Sg} (h : FSp a b) : FX a b := fun p hp => h p (by omega) (by omega) (by omega)
theorem F23.fx {a b : Sg} (h : F23 a b) : FX a b := fun p hp => ⟨h.1 p (by omega) (by omega), by rw [h.2]⟩
theorem XI.cg {T : TS} {pg : Nat → Int32} {pl : Nat} {ca we : Int32} {a b : Sg} (h : XI T pg pl ca we a) (g : ∀ p, p < 17 → p ≠ 2 → p ≠ 3 → b.1 p = a.1 p) : XI T pg pl ca we b := by
  obtain ⟨⟨hO, hR, hw, hK⟩, hP, h7, h8⟩ := h
  have g0 := g 0 (by decide) (by decide) (by decide)
  have g1 := g 1 (by decide) (by decide) (by decide)
  refine ⟨⟨hO, ?_, ?_, ?_⟩, ?_, ?_, ?_⟩
  · unfold RX
    rw [g 4 (by decide) (by decide) (by decide), g 5 (by decide) (by decide) (by decide), g 6 (by decide) (by decide) (by decide), g 7 (by decide) (by decide) (by decide), g 8 (by decide) (by decide) (by decide), g 9 (by decide) (by decide) (by decide)]
    exact hR
  · rw [g 10 (by decide) (by decide) (by decide)]; exact hw
  · unfold KX
    rw [g 12 (by decide) (by decide) (by decide), g 15 (by decide) (by decide) (by decide), g 16 (by decide) (by decide) (by decide)]
    exact hK
  · unfold PGx
    rw [g0, g1]
    exact hP
  · rw [g0]; exact h7
  · rw [g0]; exact h8
theorem XI.fl {T : TS} {pg : Nat → Int32} {pl : Nat} {ca we : Int32} {a b : Sg} (h : XI T pg pl ca we a) (f : FL a b) : XI T pg pl ca we b := h.cg (fun p hp _ _ => (f p (by omega)).1)
theorem XI.fsp {T : TS} {pg : Nat → Int32} {pl : Nat} {ca we : Int32} {a b : Sg} (h : XI T pg pl ca we a) (f : FSp a b) : XI T pg pl ca we b := h.cg (fun p hp _ _ => (f p (by omega) (by omega) (by omega)).1)
theorem XI.f23 {T : TS} {pg : Nat → Int32} {pl : Nat} {ca we : Int32} {a b : Sg} (h : XI T pg pl ca we a) (f : F23 a b) : XI T pg pl ca we b := h.cg (fun p _ h2 h3 => f.1 p h2 h3)
theorem MI.fx {T : TS} {pg : Nat → Int32} {pl : Nat} {ca we : Int32} {a b : Sg} (h : MI T pg pl ca we a) (f : FX a b) : MI T pg pl ca we b := by
  obtain ⟨hR, hP, h9, h10⟩ := h
  have g := fun p hp => (f p hp).1
  refine ⟨?_, ?_, ?_, ?_⟩
  · unfold RM
    rw [g 20 (by decide), g 22 (by decide), g 23 (by decide), g 24 (by decide), g 25 (by decide), g 26 (by decide)]
    exact hR
  · unfold PGm
    rw [g 20 (by decide), g 21 (by decide)]
    exact hP
  · rw [g 20 (by decide)]; exact h9
  · rw [g 20 (by decide)]; exact h10
theorem MI.fmc {T : TS} {pg : Nat → Int32} {pl : Nat} {ca we : Int32} {a b : Sg} (h : MI T pg pl ca we a) (f : FMc a b) : MI T pg pl ca we b := by
  obtain ⟨hR, hP, h9, h10⟩ := h
  exact ⟨f.rm hR, hP.fmc f, f.2.2.2.2.2.1.trans h9, f.2.2.2.2.2.2.trans h10⟩
/-- the class changes the roll and what follows from it -/
def FC (a b : Sg) : Prop := (∀ p, (p < 4 ∨ 16 < p) → b.1 p = a.1 p) ∧ b.2 = a.2
theorem FC.rf (a : Sg) : FC a a := ⟨fun _ _ => rfl, rfl⟩
theorem FC.tr {a b c : Sg} (h1 : FC a b) (h2 : FC b c) : FC a c := ⟨fun p hp => (h2.1 p hp).trans (h1.1 p hp), h2.2.trans h1.2⟩
theorem FC.upI (σ : Sg) {p : Nat} (k : Nat) (x : Int32) (h1 : 4 ≤ p) (h2 : p ≤ 16) : FC σ (uI σ p k x) := ⟨fun q hq => by funext j; rw [uI_1, if_neg (by omega)], rfl⟩
theorem FC.fx {a b : Sg} (h : FC a b) : FX a b := fun p hp => ⟨h.1 p (by omega), by rw [h.2]⟩
theorem x_settle {T : TS} {σ : Sg} (hO : Ok T) (hR : RX T σ) {N : Nat} (hN : 600 ≤ N) : ∃ σ', f_ss_settle N σ = some σ' ∧ FC σ σ' ∧ XQ T σ' := by
  obtain ⟨σ1, e1, F1, w1⟩ := judge_eq hO hR hN
  obtain ⟨σ2, e2, F2, K2⟩ := wrap_eq hO (F1.rx hR) hN
  unfold f_ss_settle
  rw [e1, bind_some, e2, bind_some]
  refine ⟨σ2, rfl, ⟨fun p hp => (F2.1 p (by omega)).trans (F1.1 p (by omega) (by omega)), F2.2.trans F1.2⟩, hO, F2.rx (F1.rx hR), ?_, K2⟩
  rw [F2.1 10 (by decide)]; exact w1
theorem XQ.lo {T : TS} {a b : Sg} (hq : XQ T a) (g : ∀ p, 4 ≤ p → p < 17 → b.1 p = a.1 p) : XQ T b := by
  obtain ⟨hO, hR, hw, hK⟩ := hq
  refine ⟨hO, ?_, ?_, ?_⟩
  · unfold RX
    rw [g 4 (by decide) (by decide), g 5 (by decide) (by decide), g 6 (by decide) (by decide), g 7 (by decide) (by decide), g 8 (by decide) (by decide), g 9 (by decide) (by decide)]
    exact hR
  · rw [g 10 (by decide) (by decide)]; exact hw
  · unfold KX
    rw [g 12 (by decide) (by decide), g 15 (by decide) (by decide), g 16 (by decide) (by decide)]
    exact hK
/-! LETTER and BLANK -/
def letR (pl : Nat) (a : Int32) : Int32 := if a < 32 ∨ 126 < a then -100000003 else if pl = 24 then -100000005 else nI (pl + 1)
abbrev letOk (pl : Nat) (a : Int32) : Prop := ¬ (a < 32 ∨ 126 < a) ∧ pl ≠ 24
def letG (pg : Nat → Int32) (pl : Nat) (a : Int32) : Nat → Int32 := if letOk pl a then (fun k => if k = pl then a else pg k) else pg
def letL (pl : Nat) (a : Int32) : Nat := if letOk pl a then pl + 1 else pl
theorem nle126 {a : Int32} {b : Int} (h1 : -2147483648 ≤ b) (h2 : b < 2147483648) : a ≤ iI b ↔ ¬ iI b < a := by
  obtain ⟨x, rfl, x1, x2⟩ := iI_of a
  rw [iI_le x1 x2 h1 h2, iI_lt h1 h2 x1 x2]
  omega
theorem x_letter {T : TS} {pg : Nat → Int32} {pl : Nat} {ca we : Int32} {σ : Sg} (h : XI T pg pl ca we σ) (a : Int32) : ∃ σ', f_ss_letter σ a = some (letR pl a, σ') ∧ FX σ σ' ∧ XI T (letG pg pl a) (letL pl a) ca we σ' := by
  obtain ⟨hq, ⟨h24, hp, hg⟩, h7, h8⟩ := id h
  unfold f_ss_letter letR letG letL
  have q0 : ¬ nI pl < 0 := nlt0 (by omega)
  have q24 : nI pl < 24 ↔ pl < 24 := nI_ltI (b := 24) (by omega) (by omega)
  have q126 : a ≤ 126 ↔ ¬ 126 < a := nle126 (b := 126) (by omega) (by omega)
  rw [hp, if_neg q0]
  by_cases c1 : a < 32
  · have n : ¬ letOk pl a := fun z => z.1 (Or.inl c1)
    rw [if_pos c1, if_pos (Or.inl c1), if_neg n, if_neg n]
    exact ⟨σ, rfl, FX.rf σ, h⟩
  · rw [if_neg c1]
    by_cases c2 : 126 < a
    · have n : ¬ letOk pl a := fun z => z.1 (Or.inr c2)
      rw [if_neg (fun z => q126.mp z c2), if_pos (Or.inr c2), if_neg n, if_neg n]
      exact ⟨σ, rfl, FX.rf σ, h⟩
    · rw [if_pos (q126.mpr c2), if_neg (show ¬ (a < 32 ∨ 126 < a) from fun z => z.elim c1 c2)]
      by_cases c3 : pl = 24
      · have n : ¬ letOk pl a := fun z => z.2 c3
        rw [if_neg (fun z => by have := q24.mp z; omega), if_pos c3, if_neg n, if_neg n]
        exact ⟨σ, rfl, FX.rf σ, h⟩
      · have y : letOk pl a := ⟨fun z => z.elim c1 c2, c3⟩
        rw [if_pos (q24.mpr (by omega)), if_neg c3, if_pos y, if_pos y, if_pos ((ib_nI (by omega)).mpr (by omega)), nI_clamp (show pl < 2 ^ 31 by omega), nm_eq, nm_eq]
        have e6 : (uI σ 1 pl a).1 0 6 = nI pl := by rw [uI_1, if_neg (by omega), hp]
        rw [e6, nI_1]
        refine ⟨uI (uI σ 1 pl a) 0 6 (nI (pl + 1)), ?_, (FX.upI σ _ _ (by omega)).tr (FX.upI _ _ _ (by omega)), ?_⟩
        · rw [uI_1, if_pos ⟨rfl, rfl⟩]
        · refine ⟨hq.lo (fun p h1 h2 => by funext j; rw [uI_1, if_neg (by omega), uI_1, if_neg (by omega)]), ⟨by omega, ?_, ?_⟩, ?_, ?_⟩
          · rw [uI_1, if_pos ⟨rfl, rfl⟩]
          · intro k hk
            rw [uI_1, if_neg (by omega), uI_1]
            show _ = if k = pl then a else pg k
            by_cases ck : k = pl
            · rw [if_pos ⟨rfl, ck⟩, if_pos ck]
            · rw [if_neg (fun z => ck z.2), if_neg ck, hg k (by omega)]
          · rw [uI_1, if_neg (by omega), uI_1, if_neg (by omega)]; exact h7
          · rw [uI_1, if_neg (by omega), uI_1, if_neg (by omega)]; exact h8
theorem w32 (a : Int32) {x y : Int} (x1 : -2147483648 ≤ x) (x2 : x < 2147483648) (y1 : -2147483648 ≤ y) (y2 : y < 2147483648) : f_mo_within a.toInt64 (iL x) (iL y) = 0 ↔ (a < iI x ∨ iI y < a) := by
  rw [within_eq a (by omega) (by omega) (by omega) (by omega)]
  obtain ⟨z, rfl, h1, h2⟩ := iI_of a
  rw [iI_lt h1 h2 x1 x2, iI_lt y1 y2 h1 h2, iI_toInt h1 h2]
  split
  · exact ⟨fun z => absurd z (by decide), fun z => by omega⟩
  · exact ⟨fun _ => by omega, fun _ => rfl⟩
theorem m_letter {T : TS} {pg : Nat → Int32} {pl : Nat} {ca we : Int32} {σ : Sg} (h : MI T pg pl ca we σ) (a : Int32) : ∃ σ', f_mo_letter σ a = some (letR pl a, σ') ∧ FL σ σ' ∧ MI T (letG pg pl a) (letL pl a) ca we σ' := by
  obtain ⟨hR, ⟨h24, hp, hg⟩, h9, h10⟩ := id h
  unfold f_mo_letter letR letG letL
  have qw : f_mo_within a.toInt64 32 126 = 0 ↔ (a < 32 ∨ 126 < a) := w32 a (x := 32) (y := 126) (by omega) (by omega) (by omega) (by omega)
  have q24 : nI pl = 24 ↔ pl = 24 := nI_eq (b := 24) (by omega) (by omega)
  rw [hp]
  by_cases c1 : a < 32 ∨ 126 < a
  · have n : ¬ letOk pl a := fun z => z.1 c1
    rw [if_pos (qw.mpr c1), if_pos c1, if_neg n, if_neg n]
    exact ⟨σ, rfl, FL.rf σ, h⟩
  · rw [if_neg (fun z => c1 (qw.mp z)), if_neg c1]
    by_cases c3 : pl = 24
    · have n : ¬ letOk pl a := fun z => z.2 c3
      rw [if_pos (q24.mpr c3), if_pos c3, if_neg n, if_neg n]
      exact ⟨σ, rfl, FL.rf σ, h⟩
    · have y : letOk pl a := ⟨c1, c3⟩
      rw [if_neg (fun z => c3 (q24.mp z)), if_neg c3, if_pos y, if_pos y, if_pos ((ib_nI (by omega)).mpr (by omega)), nI_clamp (show pl < 2 ^ 31 by omega), nm_eq, nm_eq]
      have e6 : (uI σ 21 pl a).1 20 0 = nI pl := by rw [uI_1, if_neg (by omega), hp]
      rw [e6, nI_1]
      have g : ∀ p, p ≠ 20 → p ≠ 21 → (uI (uI σ 21 pl a) 20 0 (nI (pl + 1))).1 p = σ.1 p := fun p h1 h2 => by
        funext j
        rw [uI_1, if_neg (by omega), uI_1, if_neg (by omega)]
      have g2 : ∀ j, j ≠ 0 → (uI (uI σ 21 pl a) 20 0 (nI (pl + 1))).1 20 j = σ.1 20 j := fun j hj => by
        rw [uI_1, if_neg (by omega), uI_1, if_neg (by omega)]
      refine ⟨uI (uI σ 21 pl a) 20 0 (nI (pl + 1)), ?_, (FL.upI σ _ _ (by omega)).tr (FL.upI _ _ _ (by omega)), ?_, ⟨by omega, ?_, ?_⟩, ?_, ?_⟩
      · rw [uI_1, if_pos ⟨rfl, rfl⟩]
      · unfold RM
        rw [g2 2 (by decide), g2 8 (by decide), g 22 (by decide) (by decide), g 23 (by decide) (by decide), g 24 (by decide) (by decide), g 25 (by decide) (by decide), g 26 (by decide) (by decide)]
        exact hR
      · rw [uI_1, if_pos ⟨rfl, rfl⟩]
      · intro k hk
        rw [uI_1, if_neg (by omega), uI_1]
        show _ = if k = pl then a else pg k
        by_cases ck : k = pl
        · rw [if_pos ⟨rfl, ck⟩, if_pos ck]
        · rw [if_neg (fun z => ck z.2), if_neg ck, hg k (by omega)]
      · rw [g2 9 (by decide)]; exact h9
      · rw [g2 10 (by decide)]; exact h10
theorem x_blank {T : TS} {pg : Nat → Int32} {pl : Nat} {ca we : Int32} {σ : Sg} (h : XI T pg pl ca we σ) : ∃ σ', f_ss_blank σ = (nI pl, σ') ∧ FX σ σ' ∧ XI T pg 0 ca we σ' := by
  obtain ⟨hq, ⟨h24, hp, hg⟩, h7, h8⟩ := h
  unfold f_ss_blank
  rw [nm_eq, hp]
  refine ⟨_, rfl, FX.upI σ _ _ (by omega), hq.lo (fun p h1 h2 => by funext j; rw [uI_1, if_neg (by omega)]), ⟨by omega, ?_, fun k hk => by omega⟩, ?_, ?_⟩
  · rw [uI_1, if_pos ⟨rfl, rfl⟩]; rfl
  · rw [uI_1, if_neg (by omega)]; exact h7
  · rw [uI_1, if_neg (by omega)]; exact h8
theorem m_blank {T : TS} {pg : Nat → Int32} {pl : Nat} {ca we : Int32} {σ : Sg} (h : MI T pg pl ca we σ) : ∃ σ', f_mo_blank σ = (nI pl, σ') ∧ FL σ σ' ∧ MI T pg 0 ca we σ' := by
  obtain ⟨hR, ⟨h24, hp, hg⟩, h9, h10⟩ := h
  unfold f_mo_blank
  rw [nm_eq, hp]
  have g : ∀ p, p ≠ 20 → (uI σ 20 0 0).1 p = σ.1 p := fun p h1 => by
    funext j
    rw [uI_1, if_neg (by omega)]
  have g2 : ∀ j, j ≠ 0 → (uI σ 20 0 0).1 20 j = σ.1 20 j := fun j hj => by
    rw [uI_1, if_neg (by omega)]
  refine ⟨_, rfl, FL.upI σ _ _ (by omega), ?_, ⟨by omega, ?_, fun k hk => by omega⟩, ?_, ?_⟩
  · unfold RM
    rw [g2 2 (by decide), g2 8 (by decide), g 22 (by decide), g 23 (by decide), g 24 (by decide), g 25 (by decide), g 26 (by decide)]
    exact hR
  · rw [uI_1, if_pos ⟨rfl, rfl⟩]; rfl
  · rw [g2 9 (by decide)]; exact h9
  · rw [g2 10 (by decide)]; exact h10
/-! SPEED -/
def spT (T : TS) (s : Int) : TS := (tN T, tH T, tM T, tG T, tB T, tE T, s)
def spR (T : TS) (a : Int32) : Int32 := if a < 1 ∨ 20 < a then -100000003 else iI (tS T)
def spd (T : TS) (a : Int32) : TS := if a < 1 ∨ 20 < a then T else spT T a.toInt
theorem sp_in {a : Int32} (h : ¬ (a < 1 ∨ 20 < a)) : a = iI a.toInt ∧ 1 ≤ a.toInt ∧ a.toInt ≤ 20 := by
  obtain ⟨x, rfl, h1, h2⟩ := iI_of a
  have q1 : iI x < 1 ↔ x < 1 := iI_lt (b := 1) h1 h2 (by omega) (by omega)
  have q2 : (20 : Int32) < iI x ↔ 20 < x := iI_lt (a := 20) (by omega) (by omega) h1 h2
  rw [q1, q2] at h
  rw [iI_toInt h1 h2]
  exact ⟨rfl, by omega, by omega⟩
theorem ok_sp {T : TS} (hO : Ok T) {s : Int} (h1 : 1 ≤ s) (h2 : s ≤ 20) : Ok (spT T s) := ⟨hO.1, ⟨h1, h2⟩, hO.2.2.1, hO.2.2.2⟩
theorem x_speed {T : TS} {pg : Nat → Int32} {pl : Nat} {ca we : Int32} {σ : Sg} (h : XI T pg pl ca we σ) {N : Nat} (hN : 600 ≤ N) (a : Int32) : ∃ σ', f_ss_speed N σ a = some (spR T a, σ') ∧ FX σ σ' ∧ XI (spd T a) pg pl ca we σ' := by
  obtain ⟨⟨hO, hR, hw, hK⟩, hp, h7, h8⟩ := id h
  unfold f_ss_speed spR spd
  have q20 : a ≤ 20 ↔ ¬ 20 < a := nle126 (b := 20) (by omega) (by omega)
  by_cases c : a < 1 ∨ 20 < a
  · rw [if_pos c, if_pos c]
    refine ⟨σ, ?_, FX.rf σ, h⟩
    by_cases c1 : a < 1
    · rw [if_pos c1]
    · rw [if_neg c1, if_neg (fun z => q20.mp z (c.resolve_left c1))]
  · rw [if_neg c, if_neg c, if_neg (fun z => c (Or.inl z)), if_pos (q20.mpr (fun z => c (Or.inr z))), nm_eq]
    obtain ⟨ea, a1, a2⟩ := sp_in c
    have hR2 : RX (spT T a.toInt) (uI σ 4 6 a) := by
      refine ⟨?_, ?_, fun k hk => ?_⟩
      · rw [uI_1, if_neg (by omega)]; exact hR.1
      · rw [uI_1, if_pos ⟨rfl, rfl⟩]; exact ea
      · have := hR.2.2 k hk
        have g : ∀ p, p ≠ 4 → (uI σ 4 6 a).1 p = σ.1 p := fun p h1 => by
          funext j
          rw [uI_1, if_neg (by omega)]
        rw [g 5 (by decide), g 6 (by decide), g 7 (by decide), g 8 (by decide), g 9 (by decide)]
        exact this
    obtain ⟨σ2, e2, F2, Q2⟩ := x_settle (ok_sp hO a1 a2) hR2 hN
    rw [e2, bind_some, hR.2.1]
    have FF : FC σ σ2 := (FC.upI σ 6 a (by omega) (by omega)).tr F2
    refine ⟨σ2, rfl, FF.fx, Q2, ?_, ?_, ?_⟩
    · unfold PGx
      rw [FF.1 0 (by omega), FF.1 1 (by omega)]
      exact hp
    · rw [FF.1 0 (by omega)]; exact h7
    · rw [FF.1 0 (by omega)]; exact h8
theorem m_speed {T : TS} {pg : Nat → Int32} {pl : Nat} {ca we : Int32} {σ : Sg} (h : MI T pg pl ca we σ) (a : Int32) : ∃ σ', f_mo_speed σ a = (spR T a, σ') ∧ FL σ σ' ∧ MI (spd T a) pg pl ca we σ' := by
  obtain ⟨hR, ⟨h24, hp, hg⟩, h9, h10⟩ := id h
  unfold f_mo_speed spR spd
  have qw : f_mo_within a.toInt64 1 20 = 0 ↔ (a < 1 ∨ 20 < a) := w32 a (x := 1) (y := 20) (by omega) (by omega) (by omega) (by omega)
  by_cases c : a < 1 ∨ 20 < a
  · rw [if_pos (qw.mpr c), if_pos c, if_pos c]
    exact ⟨σ, rfl, FL.rf σ, h⟩
  · rw [if_neg (fun z => c (qw.mp z)), if_neg c, if_neg c, nm_eq, hR.2.1]
    obtain ⟨ea, a1, a2⟩ := sp_in c
    have g : ∀ p, p ≠ 20 → (uI σ 20 8 a).1 p = σ.1 p := fun p h1 => by
      funext j
      rw [uI_1, if_neg (by omega)]
    have g2 : ∀ j, j ≠ 8 → (uI σ 20 8 a).1 20 j = σ.1 20 j := fun j hj => by
      rw [uI_1, if_neg (by omega)]
    refine ⟨_, rfl, FL.upI σ _ _ (by omega), ?_, ⟨h24, ?_, ?_⟩, ?_, ?_⟩
    · refine ⟨?_, ?_, ?_⟩
      · rw [g2 2 (by decide)]; exact hR.1
      · rw [uI_1, if_pos ⟨rfl, rfl⟩]; exact ea
      · rw [g 22 (by decide), g 23 (by decide), g 24 (by decide), g 25 (by decide), g 26 (by decide)]
        exact hR.2.2
    · rw [g2 0 (by decide)]; exact hp
    · rw [g 21 (by decide)]; exact hg
    · rw [g2 9 (by decide)]; exact h9
    · rw [g2 10 (by decide)]; exact h10
/-! ERROR -/
def erT (T : TS) (k : Nat) (e : Int) : TS := (tN T, tH T, tM T, tG T, tB T, up1 (tE T) k e, tS T)
noncomputable def erOk (T : TS) (a b : Int32) : Prop := (∃ k, k < tN T ∧ a = nI k) ∧ ¬ (b < 0 ∨ 20 < b) ∧ tM T a.toNatClampNeg = false ∧ tG T a.toNatClampNeg + 2 * b.toInt < tB T a.toNatClampNeg
noncomputable def erR (T : TS) (a b : Int32) : Int32 := if fl (∃ k, k < tN T ∧ a = nI k) = 0 then -100000002 else if b < 0 ∨ 20 < b then -100000003 else if fl (erOk T a b) = 0 then -100000004 else iI (tE T a.toNatClampNeg)
noncomputable def erD (T : TS) (a b : Int32) : TS := if fl (erOk T a b) = 0 then T else erT T a.toNatClampNeg b.toInt
theorem er_in {a : Int32} (h : ¬ (a < 0 ∨ 20 < a)) : a = iI a.toInt ∧ 0 ≤ a.toInt ∧ a.toInt ≤ 20 := by
  obtain ⟨x, rfl, h1, h2⟩ := iI_of a
  have q1 : iI x < 0 ↔ x < 0 := iI_lt (b := 0) h1 h2 (by omega) (by omega)
  have q2 : (20 : Int32) < iI x ↔ 20 < x := iI_lt (a := 20) (by omega) (by omega) h1 h2
  rw [q1, q2] at h
  rw [iI_toInt h1 h2]
  exact ⟨rfl, by omega, by omega⟩
theorem ok_er {T : TS} (hO : Ok T) {k : Nat} {e : Int} (h0 : 0 ≤ e) (h20 : e ≤ 20) (hb : tG T k + 2 * e < tB T k) : Ok (erT T k e) := by
  refine ⟨hO.1, hO.2.1, fun j hj => ?_, hO.2.2.2⟩
  obtain ⟨a1, a2, a3, a4, a5⟩ := hO.2.2.1 j hj
  refine ⟨a1, a2, a3, ?_, ?_⟩
  · show 0 ≤ up1 (tE T) k e j ∧ up1 (tE T) k e j ≤ 20
    unfold up1
    split
    · exact ⟨h0, h20⟩
    · exact a4
  · show tM T j = false → tG T j + 2 * up1 (tE T) k e j < tB T j
    intro z
    unfold up1
    split
    · rename_i ej
      rw [ej]; exact hb
    · exact a5 z
theorem x_error {T : TS} {pg : Nat → Int32} {pl : Nat} {ca we : Int32} {σ : Sg} (h : XI T pg pl ca we σ) {N : Nat} (hN : 600 ≤ N) (a b : Int32) : ∃ σ', f_ss_error N σ a b = some (erR T a b, σ') ∧ FX σ σ' ∧ XI (erD T a b) pg pl ca we σ' := by
  obtain ⟨⟨hO, hR, hw, hK⟩, hp, h7, h8⟩ := id h
  have h8' := hO.1
  unfold f_ss_error erR erD
  have q20 : b ≤ 20 ↔ ¬ 20 < b := nle126 (b := 20) (by omega) (by omega)
  rw [x_has hO hR]
  by_cases c0 : ∃ k, k < tN T ∧ a = nI k
  · rw [fl_t c0, if_neg (show ¬ ((1 : Int32) = 0) by decide), if_neg (show ¬ ((1 : Int32) = 0) by decide)]
    by_cases c : b < 0 ∨ 20 < b
    · rw [if_pos c, fl_f (p := erOk T a b) (fun z => z.2.1 c), if_pos rfl]
      refine ⟨σ, ?_, FX.rf σ, h⟩
      by_cases c1 : b < 0
      · rw [if_pos c1]
      · rw [if_neg c1, if_neg (fun z => q20.mp z (c.resolve_left c1))]
    · rw [if_neg c, if_neg (fun z => c (Or.inl z)), if_pos (q20.mpr (fun z => c (Or.inr z)))]
      obtain ⟨k, hk, rfl⟩ := c0
      obtain ⟨eb, b1, b2⟩ := er_in c
      have ck : (nI k).toNatClampNeg = k := nI_clamp (show k < 2 ^ 31 by omega)
      have o := hO.2.2.1 k hk
      rw [if_pos ((ib_nI (by omega)).mpr (by omega)), ck, (hR.2.2 k hk).2.1, (hR.2.2 k hk).2.2.1, (hR.2.2 k hk).2.2.2.1, (hR.2.2 k hk).2.2.2.2]
      by_cases c2 : tM T k = false
      · rw [if_pos ((b01_0 _).mpr c2)]
        have qg : f_ss_isBackGreat (iI (tG T k)) (iI (tB T k)) b = 0 ↔ tB T k ≤ tG T k + 2 * b.toInt := by
          unfold f_ss_isBackGreat
          have q : iI (tB T k) ≤ iI (tG T k) + 2 * b ↔ tB T k ≤ tG T k + 2 * b.toInt := by
            rw [show (2 : Int32) * b = iI (2 * b.toInt) by rw [← iI_mul, ← eb]; rfl, iI_add]
            exact iI_le (by have := o.2.1; have := o.2.2.1; omega) (by have := o.2.1; have := o.2.2.1; omega) (by have := o.2.1; have := o.2.2.1; omega) (by have := o.2.1; have := o.2.2.1; omega)
          by_cases y : tB T k ≤ tG T k + 2 * b.toInt
          · rw [if_pos (q.mpr y)]; exact ⟨fun _ => y, fun _ => rfl⟩
          · rw [if_neg (fun z => y (q.mp z))]; exact ⟨fun z => absurd z (by decide), fun z => absurd z y⟩
        by_cases c3 : tB T k ≤ tG T k + 2 * b.toInt
        · rw [if_pos (qg.mpr c3), fl_f (p := erOk T (nI k) b) (fun z => by have := z.2.2.2; rw [ck] at this; omega), if_pos rfl, if_pos rfl]
          exact ⟨σ, rfl, FX.rf σ, h⟩
        · rw [if_neg (fun z => c3 (qg.mp z)), fl_t (p := erOk T (nI k) b) ⟨⟨k, hk, rfl⟩, c, by rw [ck]; exact c2, by rw [ck]; omega⟩, if_neg (show ¬ ((1 : Int32) = 0) by decide), if_neg (show ¬ ((1 : Int32) = 0) by decide), nm_eq]
          have hR2 : RX (erT T k b.toInt) (uI σ 9 k b) := by
            refine ⟨?_, ?_, fun j hj => ?_⟩
            · rw [uI_1, if_neg (by omega)]; exact hR.1
            · rw [uI_1, if_neg (by omega)]; exact hR.2.1
            · obtain ⟨a1, a2, a3, a4, a5⟩ := hR.2.2 j hj
              refine ⟨?_, ?_, ?_, ?_, ?_⟩
              · rw [uI_1, if_neg (by omega)]; exact a1
              · rw [uI_1, if_neg (by omega)]; exact a2
              · rw [uI_1, if_neg (by omega)]; exact a3
              · rw [uI_1, if_neg (by omega)]; exact a4
              · rw [uI_1]
                show _ = iI (up1 (tE T) k b.toInt j)
                unfold up1
                by_cases cj : j = k
                · rw [if_pos ⟨rfl, cj⟩, if_pos cj]; exact eb
                · rw [if_neg (fun z => cj z.2), if_neg cj]; exact a5
          obtain ⟨σ2, e2, F2, Q2⟩ := x_settle (ok_er hO b1 b2 (by omega)) hR2 hN
          rw [e2, bind_some]
          have FF : FC σ σ2 := (FC.upI σ k b (by omega) (by omega)).tr F2
          refine ⟨σ2, rfl, FF.fx, Q2, ?_, ?_, ?_⟩
          · unfold PGx
            rw [FF.1 0 (by omega), FF.1 1 (by omega)]
            exact hp
          · rw [FF.1 0 (by omega)]; exact h7
          · rw [FF.1 0 (by omega)]; exact h8
      · rw [if_neg (fun z => c2 ((b01_0 _).mp z)), fl_f (p := erOk T (nI k) b) (fun z => c2 (by have := z.2.2.1; rw [ck] at this; exact this)), if_pos rfl, if_pos rfl]
        exact ⟨σ, rfl, FX.rf σ, h⟩
  · rw [fl_f c0, if_pos rfl, if_pos rfl, fl_f (p := erOk T a b) (fun z => c0 z.1), if_pos rfl]
    exact ⟨σ, rfl, FX.rf σ, h⟩
theorem m_error {T : TS} {pg : Nat → Int32} {pl : Nat} {ca we : Int32} {σ : Sg} (hO : Ok T) (h : MI T pg pl ca we σ) (a b : Int32) : ∃ σ', f_mo_error σ a b = some (erR T a b, σ') ∧ FL σ σ' ∧ MI (erD T a b) pg pl ca we σ' := by
  obtain ⟨hR, ⟨h24, hp, hg⟩, h9, h10⟩ := id h
  have h8' := hO.1
  unfold f_mo_error erR erD
  rw [m_isSt hO hR, bind_some]
  have qw : f_mo_within b.toInt64 0 20 = 0 ↔ (b < 0 ∨ 20 < b) := w32 b (x := 0) (y := 20) (by omega) (by omega) (by omega) (by omega)
  by_cases c0 : ∃ k, k < tN T ∧ a = nI k
  · rw [fl_t c0, if_neg (show ¬ ((1 : Int32) = 0) by decide), if_neg (show ¬ ((1 : Int32) = 0) by decide)]
    by_cases c : b < 0 ∨ 20 < b
    · rw [if_pos (qw.mpr c), if_pos c, fl_f (p := erOk T a b) (fun z => z.2.1 c), if_pos rfl]
      exact ⟨σ, rfl, FL.rf σ, h⟩
    · rw [if_neg (fun z => c (qw.mp z)), if_neg c]
      obtain ⟨k, hk, rfl⟩ := c0
      obtain ⟨eb, b1, b2⟩ := er_in c
      have ck : (nI k).toNatClampNeg = k := nI_clamp (show k < 2 ^ 31 by omega)
      have o := hO.2.2.1 k hk
      rw [if_pos ((ib_nI (by omega)).mpr (by omega)), ck, (hR.2.2 k hk).2.1, (hR.2.2 k hk).2.2.1, (hR.2.2 k hk).2.2.2.1, (hR.2.2 k hk).2.2.2.2]
      by_cases c2 : tM T k = false
      · rw [if_pos ((b01_0 _).mpr c2)]
        have q : iI (tG T k) + 2 * b < iI (tB T k) ↔ tG T k + 2 * b.toInt < tB T k := by
          rw [show (2 : Int32) * b = iI (2 * b.toInt) by rw [← iI_mul, ← eb]; rfl, iI_add]
          exact iI_lt (by have := o.2.1; have := o.2.2.1; omega) (by have := o.2.1; have := o.2.2.1; omega) (by have := o.2.1; have := o.2.2.1; omega) (by have := o.2.1; have := o.2.2.1; omega)
        by_cases c3 : tG T k + 2 * b.toInt < tB T k
        · rw [if_pos (q.mpr c3), fl_t (p := erOk T (nI k) b) ⟨⟨k, hk, rfl⟩, c, by rw [ck]; exact c2, by rw [ck]; omega⟩, if_neg (show ¬ ((1 : Int32) = 0) by decide), if_neg (show ¬ ((1 : Int32) = 0) by decide), nm_eq]
          have g : ∀ p, p ≠ 26 → (uI σ 26 k b).1 p = σ.1 p := fun p h1 => by
            funext j
            rw [uI_1, if_neg (by omega)]
          refine ⟨_, rfl, FL.upI σ _ _ (by omega), ⟨?_, ?_, fun j hj => ?_⟩, ⟨h24, ?_, ?_⟩, ?_, ?_⟩
          · rw [g 20 (by decide)]; exact hR.1
          · rw [g 20 (by decide)]; exact hR.2.1
          · obtain ⟨a1, a2, a3, a4, a5⟩ := hR.2.2 j hj
            rw [g 22 (by decide), g 23 (by decide), g 24 (by decide), g 25 (by decide)]
            refine ⟨a1, a2, a3, a4, ?_⟩
            rw [uI_1]
            show _ = iI (up1 (tE T) k b.toInt j)
            unfold up1
            by_cases cj : j = k
            · rw [if_pos ⟨rfl, cj⟩, if_pos cj]; exact eb
            · rw [if_neg (fun z => cj z.2), if_neg cj]; exact a5
          · rw [g 20 (by decide)]; exact hp
          · rw [g 21 (by decide)]; exact hg
          · rw [g 20 (by decide)]; exact h9
          · rw [g 20 (by decide)]; exact h10
        · rw [if_neg (fun z => c3 (q.mp z)), fl_f (p := erOk T (nI k) b) (fun z => by have := z.2.2.2; rw [ck] at this; omega), if_pos rfl, if_pos rfl]
          exact ⟨σ, rfl, FL.rf σ, h⟩
      · rw [if_neg (fun z => c2 ((b01_0 _).mp z)), fl_f (p := erOk T (nI k) b) (fun z => c2 (by have := z.2.2.1; rw [ck] at this; exact this)), if_pos rfl, if_pos rfl]
        exact ⟨σ, rfl, FL.rf σ, h⟩
  · rw [fl_f c0, if_pos rfl, if_pos rfl, fl_f (p := erOk T a b) (fun z => c0 z.1), if_pos rfl]
    exact ⟨σ, rfl, FL.rf σ, h⟩
