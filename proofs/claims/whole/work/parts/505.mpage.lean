/-! the PAGE in the model -/
def MS (s : PS) (σ : Sg) : Prop := σ.1 20 11 = nI (pW s) ∧ σ.1 20 13 = nI (pD s) ∧ σ.1 20 14 = b01 (pG s) ∧ σ.1 20 15 = b01 (pX s) ∧ ∀ j, j ≤ pW s → σ.1 27 j = iI (pV s j)
theorem uI20 (σ : Sg) (k : Nat) (x : Int32) (j : Nat) : (uI σ 20 k x).1 20 j = (if j = k then x else σ.1 20 j) ∧ (uI σ 20 k x).1 27 = σ.1 27 := ⟨by simp [uI_1], by funext i; simp [uI_1]⟩
theorem uI27 (σ : Sg) (k : Nat) (x : Int32) (j : Nat) : (uI σ 27 k x).1 27 j = (if j = k then x else σ.1 27 j) ∧ (uI σ 27 k x).1 20 = σ.1 20 := ⟨by simp [uI_1], by funext i; simp [uI_1]⟩
theorem m_fig {s : PS} {σ : Sg} (hP : PI s) (hd : pD s ≤ 24) (hx : pX s = false) (h : MS s σ) {a : Int} (a1 : 0 ≤ a) (a2 : a ≤ 9) : ∃ σ', f_mo_takesFigure σ (iI a) = some (stR (stpF s a), σ') ∧ FMb σ σ' ∧ MS (stS s (stpF s a)) σ' := by
  obtain ⟨h1, h2, h3, h4, h5, h6, h7⟩ := hP
  have hh := h
  obtain ⟨k1, k2, k3, k4, k5⟩ := h
  have lb := lmt_b (pW s)
  have iw : ib (nI (pW s)) 4 := (ib_nI (by omega)).mpr (by omega)
  have cw : (nI (pW s)).toNatClampNeg = pW s := nI_clamp (show pW s < 2 ^ 31 by omega)
  have el : f_mo_mostOf σ = iI (lmt (pW s)) := by
    unfold f_mo_mostOf lmt
    have q1 : nI (pW s) = 0 ↔ pW s = 0 := nI_eq (b := 0) (by omega) (by omega)
    have q2 : nI (pW s) = 3 ↔ pW s = 3 := nI_eq (b := 3) (by omega) (by omega)
    simp only [k1, q1, q2]
    (repeat' split) <;> rfl
  have qd : nI (pD s) = 0 ↔ pD s = 0 := nD0 (by omega)
  have qa : (0 : Int32) < iI a ↔ 0 < a := iI_lt (a := 0) (by omega) (by omega) (by omega) (by omega)
  have qv : iI (pV s (pW s)) ≤ 0 ↔ pV s (pW s) ≤ 0 := iI_le (b := 0) (by omega) (by omega) (by omega) (by omega)
  have qw3 : (3 : Int32) ≤ nI (pW s) ↔ 3 ≤ pW s := nI_leI (a := 3) (by omega) (by omega)
  have ev : (10 : Int32) * iI (pV s (pW s)) + iI a = iI (10 * pV s (pW s) + a) := by
    rw [show (10 : Int32) = iI 10 from rfl, iI_mul, iI_add]
  have ql : iI (lmt (pW s)) < iI (10 * pV s (pW s) + a) ↔ lmt (pW s) < 10 * pV s (pW s) + a := iI_lt (by omega) (by omega) (by omega) (by omega)
  have e10 : ¬ ((1 : Int32) = 0) := by decide
  have rej : stpF s a = none → ∃ σ', f_mo_takesFigure_c81 (iI a) σ = some (stR (stpF s a), σ') ∧ FMb σ σ' ∧ MS (stS s (stpF s a)) σ' := fun es => by
    rw [es]
    exact ⟨σ, rfl, FMb.rf σ, hh⟩
  have no : stpF s a = none → ∃ σ', f_mo_takesFigure_c51 (iI a) 0 σ = some (stR (stpF s a), σ') ∧ FMb σ σ' ∧ MS (stS s (stpF s a)) σ' := fun es => by
    unfold f_mo_takesFigure_c51
    rw [if_pos rfl]
    exact rej es
  have yes : ¬ (pD s = 0 ∧ a = 0 ∧ (pG s = true ∨ pW s = 3)) → ¬ (0 < pD s ∧ pV s (pW s) = 0) → ∃ σ', f_mo_takesFigure_c51 (iI a) 1 σ = some (stR (stpF s a), σ') ∧ FMb σ σ' ∧ MS (stS s (stpF s a)) σ' := fun n1 n2 => by
    unfold f_mo_takesFigure_c51
    rw [if_neg e10, k1, if_pos iw, el, cw, k5 _ (Nat.le_refl _), ev]
    by_cases c : lmt (pW s) < 10 * pV s (pW s) + a
    · rw [if_pos (ql.mpr c)]
      exact rej (by unfold stpF; rw [if_pos (Or.inr (Or.inr c))])
    · rw [if_neg (fun z => c (ql.mp z))]
      have es : stpF s a = some (pW s, pD s + 1, pG s, false, up1 (pV s) (pW s) (10 * pV s (pW s) + a)) := by
        unfold stpF
        rw [if_neg]
        rintro (z | z | z)
        · exact n1 z
        · exact n2 z
        · exact c z
      rw [es]
      unfold f_mo_takesFigure_c82
      rw [if_neg e10, k1, if_pos iw, cw, k5 _ (Nat.le_refl _), ev, nm_eq, nm_eq, if_pos (Or.inr rfl)]
      refine ⟨_, rfl, (FMb.upI σ _ (Or.inr (by omega))).tr (FMb.upI _ _ (Or.inl (by omega))), ?_, ?_, ?_, ?_, ?_⟩
      · rw [(uI20 _ _ _ _).1, if_neg (by decide), (uI27 _ _ _ 0).2, k1]; rfl
      · rw [(uI20 _ _ _ _).1, if_pos rfl, (uI27 _ _ _ 0).2, k2, nI_1]; rfl
      · rw [(uI20 _ _ _ _).1, if_neg (by decide), (uI27 _ _ _ 0).2, k3]; rfl
      · rw [(uI20 _ _ _ _).1, if_neg (by decide), (uI27 _ _ _ 0).2, k4, hx]; rfl
      · intro j hj
        have hj' : j ≤ pW s := hj
        rw [(uI20 _ _ _ 0).2, (uI27 _ _ _ _).1]
        show _ = iI (up1 (pV s) (pW s) (10 * pV s (pW s) + a) j)
        unfold up1
        by_cases c : j = pW s
        · rw [if_pos c, if_pos c]
        · rw [if_neg c, if_neg c, k5 j hj']
  unfold f_mo_takesFigure
  rw [k1, k2, k3, if_pos iw, cw, k5 _ (Nat.le_refl _)]
  by_cases c1 : pD s = 0
  · rw [if_pos (qd.mpr c1)]
    by_cases c2 : 0 < a
    · rw [if_pos (qa.mpr c2)]
      exact yes (fun z => by omega) (fun z => by omega)
    · rw [if_neg (fun z => c2 (qa.mp z))]
      by_cases c3 : pG s = true
      · rw [if_neg (fun z => by rw [b01_0, c3] at z; cases z)]
        exact no (by unfold stpF; rw [if_pos (Or.inl ⟨c1, by omega, Or.inl c3⟩)])
      · rw [if_pos ((b01_0 _).mpr (by simpa using c3))]
        by_cases c4 : 3 ≤ pW s
        · rw [if_pos (qw3.mpr c4)]
          exact no (by unfold stpF; rw [if_pos (Or.inl ⟨c1, by omega, Or.inr (by omega)⟩)])
        · rw [if_neg (fun z => c4 (qw3.mp z))]
          exact yes (fun z => z.2.2.elim c3 (fun y => by omega)) (fun z => by omega)
  · rw [if_neg (fun z => c1 (qd.mp z))]
    by_cases c2 : pV s (pW s) ≤ 0
    · rw [if_pos (qv.mpr c2)]
      exact no (by unfold stpF; rw [if_pos (Or.inr (Or.inl ⟨by omega, by omega⟩))])
    · rw [if_neg (fun z => c2 (qv.mp z))]
      exact yes (fun z => c1 z.1) (fun z => by omega)
theorem m_goes {s : PS} {σ : Sg} (hP : PI s) (hw : pW s ≤ 2) (hx : pX s = false) (h : MS s σ) : ∃ σ', f_mo_goesTo σ (nI (pW s) + 1) = some (1, σ') ∧ FMb σ σ' ∧ MS (pW s + 1, 0, false, false, up1 (pV s) (pW s) (sgn s (pW s))) σ' := by
  obtain ⟨h1, h2, h3, h4, h5, h6, h7⟩ := hP
  obtain ⟨k1, k2, k3, k4, k5⟩ := h
  have iw : ib (nI (pW s)) 4 := (ib_nI (by omega)).mpr (by omega)
  have iw1 : ib (nI (pW s + 1)) 4 := (ib_nI (by omega)).mpr (by omega)
  have cw : (nI (pW s)).toNatClampNeg = pW s := nI_clamp (show pW s < 2 ^ 31 by omega)
  have cw1 : (nI (pW s + 1)).toNatClampNeg = pW s + 1 := nI_clamp (show pW s + 1 < 2 ^ 31 by omega)
  have fin : ∀ x : Int32, x = iI (sgn s (pW s)) → ∃ σ', f_mo_goesTo_c37 (nI (pW s + 1)) (nI (pW s)) x σ = some (1, σ') ∧ FMb σ σ' ∧ MS (pW s + 1, 0, false, false, up1 (pV s) (pW s) (sgn s (pW s))) σ' := fun x ex => by
    unfold f_mo_goesTo_c37
    rw [if_pos iw, nm_eq, nm_eq, if_pos iw1, cw, cw1, nm_eq, nm_eq, nm_eq]
    refine ⟨_, rfl, ((((FMb.upI σ _ (Or.inr (by omega))).tr (FMb.upI _ _ (Or.inl (by omega)))).tr (FMb.upI _ _ (Or.inr (by omega)))).tr (FMb.upI _ _ (Or.inl (by omega)))).tr (FMb.upI _ _ (Or.inl (by omega))), ?_, ?_, ?_, ?_, ?_⟩
    · rw [(uI20 _ _ _ _).1, if_neg (by decide), (uI20 _ _ _ _).1, if_neg (by decide), (uI27 _ _ _ 0).2, (uI20 _ _ _ _).1, if_pos rfl]; rfl
    · rw [(uI20 _ _ _ _).1, if_neg (by decide), (uI20 _ _ _ _).1, if_pos rfl]; rfl
    · rw [(uI20 _ _ _ _).1, if_pos rfl]; rfl
    · rw [(uI20 _ _ _ _).1, if_neg (by decide), (uI20 _ _ _ _).1, if_neg (by decide), (uI27 _ _ _ 0).2, (uI20 _ _ _ _).1, if_neg (by decide), (uI27 _ _ _ 0).2, k4, hx]; rfl
    · intro j hj
      have hj' : j ≤ pW s + 1 := hj
      rw [(uI20 _ _ _ 0).2, (uI20 _ _ _ 0).2, (uI27 _ _ _ _).1, (uI20 _ _ _ 0).2, (uI27 _ _ _ _).1]
      show _ = iI (up1 (pV s) (pW s) (sgn s (pW s)) j)
      unfold up1
      by_cases c : j = pW s + 1
      · rw [if_pos c, if_neg (by omega), h4 j (by omega)]; rfl
      · rw [if_neg c]
        by_cases c2 : j = pW s
        · rw [if_pos c2, if_pos c2, ex]
        · rw [if_neg c2, if_neg c2, k5 j (by omega)]
  unfold f_mo_goesTo
  rw [k1, k3, if_pos iw, if_pos iw, cw, k5 _ (Nat.le_refl _), nI_1]
  by_cases cg : pG s = true
  · rw [if_neg (fun z => by rw [b01_0, cg] at z; cases z), iI_neg]
    exact fin _ (by unfold sgn; rw [if_pos ⟨rfl, cg⟩])
  · rw [if_pos ((b01_0 _).mpr (by simpa using cg))]
    exact fin _ (by unfold sgn; rw [if_neg (fun z => cg z.2)])
theorem w48 (a : Int32) : f_mo_within a.toInt64 48 57 = 0 ↔ (a < 48 ∨ 57 < a) := by
  rw [show (48 : Int64) = iL 48 from rfl, show (57 : Int64) = iL 57 from rfl, within_eq a (by omega) (by omega) (by omega) (by omega)]
  obtain ⟨x, rfl, h1, h2⟩ := iI_of a
  have q1 : iI x < 48 ↔ x < 48 := iI_lt (b := 48) h1 h2 (by omega) (by omega)
  have q2 : (57 : Int32) < iI x ↔ 57 < x := iI_lt (a := 57) (by omega) (by omega) h1 h2
  rw [q1, q2, iI_toInt h1 h2]
  split
  · exact ⟨fun z => absurd z (by decide), fun z => by omega⟩
  · exact ⟨fun _ => by omega, fun _ => rfl⟩
/-- no figure has come yet: a minus, an x, or nothing -/
theorem m_early {s : PS} {σ : Sg} (h : MS s σ) (hd : pD s = 0) (hx : pX s = false) {t0 t1 : Int32} (ht0 : t0 = 0 ∨ t0 = 1) (ht1 : t1 = 0 ∨ t1 = 1) (hg : pG s = true → t0 = 0 ∧ t1 = 0) (h01 : t0 = 0 ∨ t1 = 0) : ∃ σ', f_mo_takes_c93 t0 t1 σ = some ((if t0 = 0 ∧ t1 = 0 then 0 else 1), σ') ∧ FMb σ σ' ∧ MS (pW s, 0, (if t0 = 1 then true else pG s), (if t1 = 1 then true else false), pV s) σ' := by
  obtain ⟨k1, k2, k3, k4, k5⟩ := h
  have e10 : ¬ ((1 : Int32) = 0) := by decide
  have e01 : ¬ ((0 : Int32) = 1) := by decide
  have fin : ∀ g : Bool, g = (if t0 = 1 then true else pG s) → ∃ σ', f_mo_takes_c113 t0 (b01 g) (uI σ 20 15 t1) = some ((if t0 = 0 ∧ t1 = 0 then 0 else 1), σ') ∧ FMb σ σ' ∧ MS (pW s, 0, (if t0 = 1 then true else pG s), (if t1 = 1 then true else false), pV s) σ' := fun g eg => by
    unfold f_mo_takes_c113
    rw [if_pos (show b01 g = 0 ∨ b01 g = 1 by cases g; exact Or.inl rfl; exact Or.inr rfl), nm_eq]
    have ev : (uI (uI σ 20 15 t1) 20 14 (b01 g)).1 20 15 = t1 := by rw [(uI20 _ _ _ _).1, if_neg (by decide), (uI20 _ _ _ _).1, if_pos rfl]
    have M : MS (pW s, 0, (if t0 = 1 then true else pG s), (if t1 = 1 then true else false), pV s) (uI (uI σ 20 15 t1) 20 14 (b01 g)) := by
      refine ⟨?_, ?_, ?_, ?_, ?_⟩
      · rw [(uI20 _ _ _ _).1, if_neg (by decide), (uI20 _ _ _ _).1, if_neg (by decide), k1]; rfl
      · rw [(uI20 _ _ _ _).1, if_neg (by decide), (uI20 _ _ _ _).1, if_neg (by decide), k2, hd]; rfl
      · rw [(uI20 _ _ _ _).1, if_pos rfl, eg]; rfl
      · rw [ev]
        rcases ht1 with rfl | rfl
        · show (0 : Int32) = b01 (if (0 : Int32) = 1 then true else false)
          rw [if_neg e01]; rfl
        · show (1 : Int32) = b01 (if (1 : Int32) = 1 then true else false)
          rw [if_pos rfl]; rfl
      · intro j hj
        rw [(uI20 _ _ _ 0).2, (uI20 _ _ _ 0).2]
        exact k5 j hj
    have F : FMb σ (uI (uI σ 20 15 t1) 20 14 (b01 g)) := (FMb.upI σ _ (Or.inl (by omega))).tr (FMb.upI _ _ (Or.inl (by omega)))
    rw [ev]
    refine ⟨_, ?_, F, M⟩
    rcases ht0 with rfl | rfl
    · rw [if_pos rfl]
      rcases ht1 with rfl | rfl
      · rw [if_pos rfl, if_pos ⟨rfl, rfl⟩]
      · rw [if_neg e10, if_neg (fun z => e10 z.2)]
    · rw [if_neg e10, if_neg (fun z => e10 z.1)]
  unfold f_mo_takes_c93 f_mo_takes_c108
  rw [if_pos ht1, nm_eq, (uI20 _ _ _ _).1, if_neg (show ¬ ((14 : Nat) = 15) by decide), k3]
  by_cases cg : pG s = true
  · rw [if_neg (fun z => by rw [b01_0, cg] at z; cases z)]
    exact fin true (by rw [cg]; split <;> rfl)
  · have cg' : pG s = false := by simpa using cg
    rw [if_pos ((b01_0 _).mpr cg')]
    rcases ht0 with rfl | rfl
    · rw [if_pos rfl]
      exact fin false (by rw [if_neg e01, cg'])
    · rw [if_neg e10]
      exact fin true (by rw [if_pos rfl])
theorem ms_id (s : PS) (hd : pD s = 0) (hx : pX s = false) : (pW s, 0, (if (0 : Int32) = 1 then true else pG s), (if (0 : Int32) = 1 then true else false), pV s) = s := by
  rw [if_neg (by decide), if_neg (by decide), ← hd, ← hx]; rfl
theorem m_take {s : PS} {σ : Sg} (hP : PI s) (hd : pD s ≤ 24) (h : MS s σ) (c : Int32) : ∃ σ', f_mo_takes σ c = some (stR (stp s c), σ') ∧ FMb σ σ' ∧ MS (stS s (stp s c)) σ' := by
  have hw := hP.1
  have hh := h
  obtain ⟨k1, k2, k3, k4, k5⟩ := h
  have e10 : ¬ ((1 : Int32) = 0) := by decide
  have e01 : ¬ ((0 : Int32) = 1) := by decide
  have qd : nI (pD s) = 0 ↔ pD s = 0 := nD0 (by omega)
  have qw0 : nI (pW s) = 0 ↔ pW s = 0 := nI_eq (b := 0) (by omega) (by omega)
  have qw1 : nI (pW s) = 1 ↔ pW s = 1 := nI_eq (b := 1) (by omega) (by omega)
  have qw2 : nI (pW s) = 2 ↔ pW s = 2 := nI_eq (b := 2) (by omega) (by omega)
  have qw3 : (3 : Int32) ≤ nI (pW s) ↔ 3 ≤ pW s := nI_leI (a := 3) (by omega) (by omega)
  unfold f_mo_takes stp
  by_cases cx : pX s = true
  · rw [if_pos cx, k4, if_neg (fun z => by rw [b01_0, cx] at z; cases z)]
    exact ⟨σ, rfl, FMb.rf σ, hh⟩
  · have cx' : pX s = false := by simpa using cx
    rw [if_neg cx, k4, if_pos ((b01_0 _).mpr cx')]
    by_cases c1 : c < 48 ∨ 57 < c
    · rw [if_pos c1, if_pos ((w48 c).mpr c1), k1, k2, k3]
      by_cases c2 : pD s = 0
      · rw [if_pos (qd.mpr c2)]
        -- an x, or nothing
        have exx : ¬ c = 45 → ∃ σ', f_mo_takes_c65 c 0 σ = some (stR (stpK s c), σ') ∧ FMb σ σ' ∧ MS (stS s (stpK s c)) σ' := fun n45 => by
          have nil : ¬ (c = 120 ∧ pW s = 1 ∧ pD s = 0 ∧ pG s = false) → ∃ σ', f_mo_takes_c93 0 0 σ = some (stR (stpK s c), σ') ∧ FMb σ σ' ∧ MS (stS s (stpK s c)) σ' := fun n => by
            have es : stpK s c = none := by unfold stpK; rw [if_neg n, if_neg (fun z => by omega)]
            rw [es]
            obtain ⟨σ', e, F, M⟩ := m_early hh c2 cx' (t0 := 0) (t1 := 0) (Or.inl rfl) (Or.inl rfl) (fun _ => ⟨rfl, rfl⟩) (Or.inl rfl)
            rw [ms_id s c2 cx'] at M
            exact ⟨σ', e, F, M⟩
          unfold f_mo_takes_c65
          rw [k1, k3]
          by_cases d1 : c = 120
          · rw [if_pos d1]
            by_cases d2 : pW s = 1
            · rw [if_pos (qw1.mpr d2)]
              by_cases d4 : pG s = true
              · rw [if_neg (fun z => by rw [b01_0, d4] at z; cases z)]
                exact nil (fun z => by rw [d4] at z; exact absurd z.2.2.2 (by decide))
              · have d4' : pG s = false := by simpa using d4
                rw [if_pos ((b01_0 _).mpr d4')]
                have es : stpK s c = some (1, 0, false, true, pV s) := by unfold stpK; rw [if_pos ⟨d1, d2, c2, d4'⟩]
                rw [es]
                obtain ⟨σ', e, F, M⟩ := m_early hh c2 cx' (t0 := 0) (t1 := 1) (Or.inl rfl) (Or.inr rfl) (fun z => absurd z d4) (Or.inl rfl)
                rw [if_neg (fun z => e10 z.2)] at e
                rw [if_neg e01, if_pos rfl, d2, d4'] at M
                exact ⟨σ', e, F, M⟩
            · rw [if_neg (fun z => d2 (qw1.mp z))]
              exact nil (fun z => d2 z.2.1)
          · rw [if_neg d1]
            exact nil (fun z => d1 z.1)
        by_cases d0 : c = 45
        · rw [if_pos d0, if_pos d0]
          have nox : ∀ t0 : Int32, f_mo_takes_c65 c t0 σ = f_mo_takes_c93 t0 0 σ := fun t0 => by
            unfold f_mo_takes_c65
            rw [if_neg (show ¬ c = 120 by rw [d0]; decide)]; rfl
          have nil : stpM s = none → ∃ σ', f_mo_takes_c64 c σ = some (stR (stpM s), σ') ∧ FMb σ σ' ∧ MS (stS s (stpM s)) σ' := fun es => by
            unfold f_mo_takes_c64
            rw [es, nox]
            obtain ⟨σ', e, F, M⟩ := m_early hh c2 cx' (t0 := 0) (t1 := 0) (Or.inl rfl) (Or.inl rfl) (fun _ => ⟨rfl, rfl⟩) (Or.inl rfl)
            rw [ms_id s c2 cx'] at M
            exact ⟨σ', e, F, M⟩
          by_cases d2 : 3 ≤ pW s
          · rw [if_pos (qw3.mpr d2)]
            exact nil (by unfold stpM; rw [if_neg (fun z => z.2.2 (by omega))])
          · rw [if_neg (fun z => d2 (qw3.mp z))]
            by_cases d4 : pG s = true
            · rw [if_neg (fun z => by rw [b01_0, d4] at z; cases z)]
              exact nil (by unfold stpM; rw [if_neg (fun z => by rw [d4] at z; exact absurd z.2.1 (by decide))])
            · have d4' : pG s = false := by simpa using d4
              rw [if_pos ((b01_0 _).mpr d4'), nox]
              have es : stpM s = some (pW s, 0, true, false, pV s) := by unfold stpM; rw [if_pos ⟨c2, d4', by omega⟩]
              rw [es]
              obtain ⟨σ', e, F, M⟩ := m_early hh c2 cx' (t0 := 1) (t1 := 0) (Or.inr rfl) (Or.inl rfl) (fun z => absurd z d4) (Or.inr rfl)
              rw [if_neg (fun z => e10 z.1)] at e
              rw [if_pos rfl, if_neg e01] at M
              exact ⟨σ', e, F, M⟩
        · rw [if_neg d0, if_neg d0]
          exact exx d0
      · rw [if_neg (fun z => c2 (qd.mp z))]
        have no : (if c = 45 then stpM s else stpK s c) = none → ∃ σ', f_mo_takes_c178 σ = some (stR (if c = 45 then stpM s else stpK s c), σ') ∧ FMb σ σ' ∧ MS (stS s (if c = 45 then stpM s else stpK s c)) σ' := fun es => by
          rw [es]
          exact ⟨σ, rfl, FMb.rf σ, hh⟩
        have yes : (pW s = 0 ∧ c = 58) ∨ (pW s = 1 ∧ c = 44) ∨ (pW s = 2 ∧ c = 126) → ∃ σ', f_mo_takes_c174 σ = some (stR (if c = 45 then stpM s else stpK s c), σ') ∧ FMb σ σ' ∧ MS (stS s (if c = 45 then stpM s else stpK s c)) σ' := fun y => by
          have n45 : ¬ c = 45 := by rcases y with y | y | y <;> (rw [y.2]; decide)
          have es : stpK s c = some (pW s + 1, 0, false, false, up1 (pV s) (pW s) (sgn s (pW s))) := by
            unfold stpK
            rw [if_neg (fun z => c2 z.2.2.1), if_pos ⟨by omega, y⟩]
          rw [if_neg n45, es]
          unfold f_mo_takes_c174 f_mo_takes_c179
          obtain ⟨σ', e, F, M⟩ := m_goes hP (by omega) cx' hh
          rw [if_neg e10, k1, e, bind_some]
          exact ⟨σ', rfl, F, M⟩
        have nn : ¬ ((pW s = 0 ∧ c = 58) ∨ (pW s = 1 ∧ c = 44) ∨ (pW s = 2 ∧ c = 126)) → ∃ σ', f_mo_takes_c178 σ = some (stR (if c = 45 then stpM s else stpK s c), σ') ∧ FMb σ σ' ∧ MS (stS s (if c = 45 then stpM s else stpK s c)) σ' := fun y => no (by
          split
          · unfold stpM; rw [if_neg (fun z => c2 z.1)]
          · unfold stpK; rw [if_neg (fun z => c2 z.2.2.1), if_neg (fun z => y z.2)])
        have l3 : pW s ≠ 0 → pW s ≠ 1 → ∃ σ', f_mo_takes_c160 c σ = some (stR (if c = 45 then stpM s else stpK s c), σ') ∧ FMb σ σ' ∧ MS (stS s (if c = 45 then stpM s else stpK s c)) σ' := fun z0 z1 => by
          unfold f_mo_takes_c160
          rw [k1]
          by_cases w2 : pW s = 2
          · rw [if_pos (qw2.mpr w2)]
            by_cases cc : c = 126
            · rw [if_pos cc]
              exact yes (Or.inr (Or.inr ⟨w2, cc⟩))
            · rw [if_neg cc]
              exact nn (fun z => by rcases z with z | z | z <;> first | exact z0 z.1 | exact z1 z.1 | exact cc z.2)
          · rw [if_neg (fun z => w2 (qw2.mp z))]
            exact nn (fun z => by omega)
        have l3' : pW s ≠ 2 → ¬ ((pW s = 0 ∧ c = 58) ∨ (pW s = 1 ∧ c = 44) ∨ (pW s = 2 ∧ c = 126)) → ∃ σ', f_mo_takes_c160 c σ = some (stR (if c = 45 then stpM s else stpK s c), σ') ∧ FMb σ σ' ∧ MS (stS s (if c = 45 then stpM s else stpK s c)) σ' := fun z2 y => by
          unfold f_mo_takes_c160
          rw [k1, if_neg (fun z => z2 (qw2.mp z))]
          exact nn y
        have l2 : pW s ≠ 0 → ∃ σ', f_mo_takes_c146 c σ = some (stR (if c = 45 then stpM s else stpK s c), σ') ∧ FMb σ σ' ∧ MS (stS s (if c = 45 then stpM s else stpK s c)) σ' := fun z0 => by
          unfold f_mo_takes_c146
          rw [k1]
          by_cases w1 : pW s = 1
          · rw [if_pos (qw1.mpr w1)]
            by_cases cc : c = 44
            · rw [if_pos cc]
              exact yes (Or.inr (Or.inl ⟨w1, cc⟩))
            · rw [if_neg cc]
              exact l3' (by omega) (fun z => by rcases z with z | z | z <;> first | exact z0 z.1 | exact cc z.2 | omega)
          · rw [if_neg (fun z => w1 (qw1.mp z))]
            exact l3 z0 w1
        by_cases w0 : pW s = 0
        · rw [if_pos (qw0.mpr w0)]
          by_cases cc : c = 58
          · rw [if_pos cc]
            exact yes (Or.inl ⟨w0, cc⟩)
          · rw [if_neg cc]
            unfold f_mo_takes_c146
            rw [k1, if_neg (fun z => by have := qw1.mp z; omega)]
            exact l3' (by omega) (fun z => by rcases z with z | z | z <;> first | exact cc z.2 | omega)
        · rw [if_neg (fun z => w0 (qw0.mp z))]
          exact l2 w0
    · rw [if_neg c1, if_neg (fun z => c1 ((w48 c).mp z))]
      obtain ⟨ec, f1, f2⟩ := c_fig c1
      have e8 : c - 48 = iI (c.toInt - 48) := by
        rw [← iI_sub, ← ec]; rfl
      obtain ⟨σ', e, F, C⟩ := m_fig hP hd cx' hh (a := c.toInt - 48) (by omega) (by omega)
      rw [e8, e, bind_some]
      show ∃ σ'', (if stR (stpF s (c.toInt - 48)) = 0 ∨ stR (stpF s (c.toInt - 48)) = 1 then _ else _) = _ ∧ _
      rw [if_pos (stR_01 _)]
      exact ⟨σ', rfl, F, C⟩
def PGm (pg : Nat → Int32) (pl : Nat) (σ : Sg) : Prop := pl ≤ 24 ∧ σ.1 20 0 = nI pl ∧ ∀ k, k < pl → σ.1 21 k = pg k
theorem PGm.fmc {pg : Nat → Int32} {pl : Nat} {a b : Sg} (h : FMc a b) (hp : PGm pg pl a) : PGm pg pl b := by
  unfold PGm
  rw [h.2.2.1, h.2.1 21 (by decide) (by decide)]
  exact hp
theorem m_read_loop {pg : Nat → Int32} {pl N : Nat} : ∀ (m k : Nat) (s : PS) (σ : Sg), k ≤ pl → pl - k < m → PI s → pD s ≤ k → PGm pg pl σ → MS s σ → ∃ σ', f_mo_goAlong_c29 N m (nI k) σ = some (nI (rdl pg (pl - k) k s).1, σ') ∧ FMb σ σ' ∧ MS (rdl pg (pl - k) k s).2 σ' := by
  intro m
  induction m with
  | zero => intro k s σ h1 h2; omega
  | succ m ih =>
    intro k s σ hk hm hP hd hp hC
    show ∃ σ', f_mo_goAlong_c29_s N (f_mo_goAlong_c29 N m) (nI k) σ = _ ∧ _
    unfold f_mo_goAlong_c29_s
    have h24 := hp.1
    have q0 : nI pl ≤ nI k ↔ pl ≤ k := nI_leI (by omega) (by omega)
    rw [hp.2.1]
    by_cases c0 : pl ≤ k
    · rw [if_pos (q0.mpr c0), show pl - k = 0 by omega]
      exact ⟨σ, rfl, FMb.rf σ, hC⟩
    · rw [if_neg (fun z => c0 (q0.mp z)), if_pos ((ib_nI (by omega)).mpr (by omega)), nI_clamp (show k < 2 ^ 31 by omega), hp.2.2 k (by omega)]
      obtain ⟨σ1, e1, F1, C1⟩ := m_take hP (by omega) hC (pg k)
      rw [e1, bind_some, show pl - k = (pl - (k + 1)) + 1 by omega]
      show ∃ σ', (if stR (stp s (pg k)) = 0 then some (nI k, σ1) else f_mo_goAlong_c29 N m (nI k + 1) σ1) = some (nI (match stp s (pg k) with | none => (k, s) | some s' => rdl pg (pl - (k + 1)) (k + 1) s').1, σ') ∧ FMb σ σ' ∧ MS (match stp s (pg k) with | none => (k, s) | some s' => rdl pg (pl - (k + 1)) (k + 1) s').2 σ'
      cases e : stp s (pg k) with
      | none =>
        rw [e] at C1
        exact ⟨σ1, rfl, F1, C1⟩
      | some s' =>
        rw [e] at C1
        have p := pi_stp hP e
        rw [if_neg (show ¬ stR (some s') = 0 by show ¬ ((1 : Int32) = 0); decide), nI_1]
        obtain ⟨σ2, e2, F2, C2⟩ := ih (k + 1) s' σ1 (by omega) (by omega) p.1 (by omega) (hp.fmc F1.1) C1
        exact ⟨σ2, e2, F1.tr F2, C2⟩
theorem m_read {pg : Nat → Int32} {pl N : Nat} (hN : 600 ≤ N) {σ : Sg} (hp : PGm pg pl σ) : ∃ σ', f_mo_goAlong N σ = some (nI (rd pg pl).1, σ') ∧ FMb σ σ' ∧ MS (rd pg pl).2 σ' := by
  unfold f_mo_goAlong
  simp only [nm_eq]
  have F : FMb σ (uI (uI (uI (uI (uI σ 20 11 0) 27 0 0) 20 13 0) 20 14 0) 20 15 0) := ((((FMb.upI σ _ (Or.inl (by omega))).tr (FMb.upI _ _ (Or.inr (by omega)))).tr (FMb.upI _ _ (Or.inl (by omega)))).tr (FMb.upI _ _ (Or.inl (by omega)))).tr (FMb.upI _ _ (Or.inl (by omega)))
  have M : MS ps0 (uI (uI (uI (uI (uI σ 20 11 0) 27 0 0) 20 13 0) 20 14 0) 20 15 0) := by
    refine ⟨?_, ?_, ?_, ?_, ?_⟩
    · simp [uI_1]; rfl
    · simp [uI_1]; rfl
    · simp [uI_1]; rfl
    · simp [uI_1]; rfl
    · intro j hj
      have : j = 0 := Nat.le_zero.mp hj
      subst this
      simp [uI_1]; rfl
  have h24 := hp.1
  obtain ⟨σ2, e2, F2, C2⟩ := m_read_loop (N := N) N 0 ps0 _ (by omega) (by omega) pi_0 (Nat.le_refl 0) (hp.fmc F.1) M
  exact ⟨σ2, e2, F.tr F2, C2⟩
theorem x_fault {pg : Nat → Int32} {pl N : Nat} (hN : 600 ≤ N) {σ : Sg} (hp : PGx pg pl σ) : ∃ σ', f_ss_fault N σ = some (nI (rd pg pl).1, σ') ∧ F23 σ σ' := by
  obtain ⟨σ1, e1, F1, _⟩ := x_read hN hp
  unfold f_ss_fault
  rw [e1, bind_some]
  exact ⟨σ1, rfl, F1⟩
theorem m_fault {pg : Nat → Int32} {pl N : Nat} (hN : 600 ≤ N) {σ : Sg} (hp : PGm pg pl σ) : ∃ σ', f_mo_fault N σ = some (nI (rd pg pl).1, σ') ∧ FMb σ σ' := by
  obtain ⟨σ1, e1, F1, _⟩ := m_read hN hp
  unfold f_mo_fault
  rw [e1, bind_some]
  exact ⟨σ1, rfl, F1⟩
