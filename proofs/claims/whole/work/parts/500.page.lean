/-! the PAGE: one letter -/
abbrev PS : Type := Nat × Nat × Bool × Bool × (Nat → Int)
def pW (s : PS) : Nat := s.1
def pD (s : PS) : Nat := s.2.1
def pG (s : PS) : Bool := s.2.2.1
def pX (s : PS) : Bool := s.2.2.2.1
def pV (s : PS) : Nat → Int := s.2.2.2.2
def up1 (f : Nat → Int) (k : Nat) (x : Int) : Nat → Int := fun j => if j = k then x else f j
def lmt (w : Nat) : Int := if w = 0 then 200 else if w = 3 then 20 else 500
def sgn (s : PS) (j : Nat) : Int := if j = pW s ∧ pG s = true then -(pV s j) else pV s j
def stpF (s : PS) (a : Int) : Option PS := if (pD s = 0 ∧ a = 0 ∧ (pG s = true ∨ pW s = 3)) ∨ (0 < pD s ∧ pV s (pW s) = 0) ∨ lmt (pW s) < 10 * pV s (pW s) + a then none else some (pW s, pD s + 1, pG s, false, up1 (pV s) (pW s) (10 * pV s (pW s) + a))
def stpM (s : PS) : Option PS := if pD s = 0 ∧ pG s = false ∧ pW s ≠ 3 then some (pW s, 0, true, false, pV s) else none
def stpK (s : PS) (c : Int32) : Option PS := if c = 120 ∧ pW s = 1 ∧ pD s = 0 ∧ pG s = false then some (1, 0, false, true, pV s) else if 0 < pD s ∧ ((pW s = 0 ∧ c = 58) ∨ (pW s = 1 ∧ c = 44) ∨ (pW s = 2 ∧ c = 126)) then some (pW s + 1, 0, false, false, up1 (pV s) (pW s) (sgn s (pW s))) else none
def stp (s : PS) (c : Int32) : Option PS := if pX s = true then none else if c < 48 ∨ 57 < c then (if c = 45 then stpM s else stpK s c) else stpF s (c.toInt - 48)
def PI (s : PS) : Prop := pW s ≤ 3 ∧ (0 ≤ pV s (pW s) ∧ pV s (pW s) ≤ lmt (pW s)) ∧ (∀ j, j < pW s → -(lmt j) ≤ pV s j ∧ pV s j ≤ lmt j) ∧ (∀ j, pW s < j → pV s j = 0) ∧ (pD s = 0 → pV s (pW s) = 0) ∧ (pG s = true → pW s ≠ 3) ∧ (pX s = true → pW s = 1 ∧ pD s = 0 ∧ pG s = false)
theorem lmt_b (w : Nat) : 20 ≤ lmt w ∧ lmt w ≤ 500 := by unfold lmt; split <;> (try split) <;> omega
theorem pi_0 : PI (0, 0, false, false, fun _ => 0) := ⟨by show 0 ≤ 3; omega, ⟨by show (0 : Int) ≤ 0; omega, by show (0 : Int) ≤ lmt 0; have := lmt_b 0; omega⟩, fun j hj => (nomatch hj), fun _ _ => rfl, fun _ => rfl, fun z => (nomatch z), fun z => (nomatch z)⟩
theorem sgn_b {s : PS} (h : PI s) : -(lmt (pW s)) ≤ sgn s (pW s) ∧ sgn s (pW s) ≤ lmt (pW s) := by
  have := h.2.1
  unfold sgn
  split <;> omega
theorem pi_stpF {s s' : PS} (h : PI s) {a : Int} (a1 : 0 ≤ a) (a2 : a ≤ 9) (hx : pX s = false) (e : stpF s a = some s') : PI s' ∧ pD s' = pD s + 1 := by
  unfold stpF at e
  split at e
  · cases e
  · rename_i c
    obtain ⟨h1, h2, h3, h4, h5, h6, h7⟩ := h
    cases e
    refine ⟨⟨h1, ⟨?_, ?_⟩, ?_, ?_, ?_, h6, fun z => (nomatch z)⟩, rfl⟩
    · show 0 ≤ up1 (pV s) (pW s) (10 * pV s (pW s) + a) (pW s)
      unfold up1
      rw [if_pos rfl]; omega
    · show up1 (pV s) (pW s) (10 * pV s (pW s) + a) (pW s) ≤ lmt (pW s)
      unfold up1
      rw [if_pos rfl]
      have : ¬ lmt (pW s) < 10 * pV s (pW s) + a := fun z => c (Or.inr (Or.inr z))
      omega
    · intro j hj
      have hj' : j < pW s := hj
      show -(lmt j) ≤ up1 (pV s) (pW s) (10 * pV s (pW s) + a) j ∧ up1 (pV s) (pW s) (10 * pV s (pW s) + a) j ≤ lmt j
      unfold up1
      rw [if_neg (by omega)]
      exact h3 j hj'
    · intro j hj
      have hj' : pW s < j := hj
      show up1 (pV s) (pW s) (10 * pV s (pW s) + a) j = 0
      unfold up1
      rw [if_neg (by omega)]
      exact h4 j hj'
    · intro z
      have : pD s + 1 = 0 := z
      omega
theorem pi_stpM {s s' : PS} (h : PI s) (e : stpM s = some s') : PI s' ∧ pD s' = 0 := by
  unfold stpM at e
  split at e
  · rename_i c
    obtain ⟨h1, h2, h3, h4, h5, h6, h7⟩ := h
    cases e
    exact ⟨⟨h1, h2, h3, h4, fun _ => h5 c.1, fun _ => c.2.2, fun z => (nomatch z)⟩, rfl⟩
  · cases e
theorem pi_stpK {s s' : PS} {c : Int32} (h : PI s) (e : stpK s c = some s') : PI s' ∧ pD s' = 0 := by
  have sb := sgn_b h
  unfold stpK at e
  obtain ⟨h1, h2, h3, h4, h5, h6, h7⟩ := h
  split at e
  · rename_i c
    cases e
    rw [c.2.1] at h2 h3 h4 h5
    exact ⟨⟨by show 1 ≤ 3; omega, h2, h3, h4, fun _ => h5 c.2.2.1, fun z => (nomatch z), fun _ => ⟨rfl, rfl, rfl⟩⟩, rfl⟩
  · split at e
    · rename_i c
      cases e
      have w2 : pW s ≤ 2 := by omega
      have z1 : up1 (pV s) (pW s) (sgn s (pW s)) (pW s + 1) = 0 := by
        unfold up1
        rw [if_neg (by omega)]
        exact h4 _ (by omega)
      have lb := lmt_b (pW s + 1)
      refine ⟨⟨by show pW s + 1 ≤ 3; omega, ⟨?_, ?_⟩, ?_, ?_, fun _ => z1, fun z => (nomatch z), fun z => (nomatch z)⟩, rfl⟩
      · show 0 ≤ up1 (pV s) (pW s) (sgn s (pW s)) (pW s + 1)
        omega
      · show up1 (pV s) (pW s) (sgn s (pW s)) (pW s + 1) ≤ lmt (pW s + 1)
        omega
      · intro j hj
        have hj' : j < pW s + 1 := hj
        show -(lmt j) ≤ up1 (pV s) (pW s) (sgn s (pW s)) j ∧ up1 (pV s) (pW s) (sgn s (pW s)) j ≤ lmt j
        unfold up1
        split
        · rename_i ej
          rw [ej]; exact sb
        · exact h3 j (by omega)
      · intro j hj
        have hj' : pW s + 1 < j := hj
        show up1 (pV s) (pW s) (sgn s (pW s)) j = 0
        unfold up1
        rw [if_neg (by omega)]
        exact h4 j (by omega)
    · cases e
theorem c_fig {c : Int32} (h : ¬ (c < 48 ∨ 57 < c)) : c = iI c.toInt ∧ 48 ≤ c.toInt ∧ c.toInt ≤ 57 := by
  obtain ⟨x, rfl, h1, h2⟩ := iI_of c
  have q1 : iI x < 48 ↔ x < 48 := iI_lt (b := 48) h1 h2 (by omega) (by omega)
  have q2 : (57 : Int32) < iI x ↔ 57 < x := iI_lt (a := 57) (by omega) (by omega) h1 h2
  rw [q1, q2] at h
  rw [iI_toInt h1 h2]
  exact ⟨rfl, by omega, by omega⟩
theorem pi_stp {s s' : PS} {c : Int32} (h : PI s) (e : stp s c = some s') : PI s' ∧ pD s' ≤ pD s + 1 := by
  unfold stp at e
  split at e
  · cases e
  · rename_i cx
    split at e
    · split at e
      · have := pi_stpM h e; exact ⟨this.1, by omega⟩
      · have := pi_stpK h e; exact ⟨this.1, by omega⟩
    · rename_i c2
      obtain ⟨_, f1, f2⟩ := c_fig c2
      have := pi_stpF h (by omega) (by omega) (by simpa using cx) e
      exact ⟨this.1, by omega⟩
/-! the class -/
def F23 (a b : Sg) : Prop := (∀ p, p ≠ 2 → p ≠ 3 → b.1 p = a.1 p) ∧ b.2 = a.2
theorem F23.rf (a : Sg) : F23 a a := ⟨fun _ _ _ => rfl, rfl⟩
theorem F23.tr {a b c : Sg} (h1 : F23 a b) (h2 : F23 b c) : F23 a c := ⟨fun p x y => (h2.1 p x y).trans (h1.1 p x y), h2.2.trans h1.2⟩
theorem F23.upI (σ : Sg) {p : Nat} (k : Nat) (x : Int32) (h : p = 2 ∨ p = 3) : F23 σ (uI σ p k x) := ⟨fun q h1 h2 => by funext j; rw [uI_1, if_neg (by omega)], rfl⟩
def CS (s : PS) (σ : Sg) : Prop := σ.1 2 1 = (if pX s = true then 4 else nI (pW s)) ∧ σ.1 2 2 = nI (pD s) ∧ σ.1 2 3 = b01 (pG s) ∧ ∀ j, j < 4 → σ.1 3 j = iI (sgn s j)
def stR (o : Option PS) : Int32 := match o with | none => 0 | some _ => 1
def stS (s : PS) (o : Option PS) : PS := match o with | none => s | some s' => s'
theorem x_enter (σ : Sg) (a : Int32) : F23 σ (f_re_enter σ a) ∧ (f_re_enter σ a).1 2 1 = a ∧ (f_re_enter σ a).1 2 2 = 0 ∧ (f_re_enter σ a).1 2 3 = 0 ∧ ∀ j, (f_re_enter σ a).1 3 j = σ.1 3 j := by
  unfold f_re_enter
  simp only [nm_eq]
  refine ⟨((F23.upI σ 1 a (Or.inl rfl)).tr (F23.upI _ 2 0 (Or.inl rfl))).tr (F23.upI _ 3 0 (Or.inl rfl)), ?_, ?_, ?_, ?_⟩
  · simp [uI_1]
  · simp [uI_1]
  · simp [uI_1]
  · intro j; simp [uI_1]
theorem nD0 {d : Nat} (h : d < 2147483648) : nI d = 0 ↔ d = 0 := nI_eq (b := 0) (by omega) (by omega)
theorem x_fig {s : PS} {σ : Sg} (hP : PI s) (hd : pD s ≤ 24) (hx : pX s = false) (h : CS s σ) {a : Int} (a1 : 0 ≤ a) (a2 : a ≤ 9) : ∃ σ', f_re_takeFigure σ (iI a) = some (stR (stpF s a), σ') ∧ F23 σ σ' ∧ CS (stS s (stpF s a)) σ' := by
  obtain ⟨h1, h2, h3, h4, h5, h6, h7⟩ := hP
  have hh := h
  obtain ⟨k1, k2, k3, k4⟩ := h
  have lb := lmt_b (pW s)
  rw [hx] at k1
  rw [if_neg (show ¬ (false = true) by decide)] at k1
  have iw : ib (nI (pW s)) 4 := (ib_nI (by omega)).mpr (by omega)
  have cw : (nI (pW s)).toNatClampNeg = pW s := nI_clamp (show pW s < 2 ^ 31 by omega)
  have ab : f_jm_abs_0f7a4 (iI (sgn s (pW s))) = iI (pV s (pW s)) := by
    by_cases c : pG s = true
    · have e : sgn s (pW s) = -(pV s (pW s)) := by unfold sgn; rw [if_pos ⟨rfl, c⟩]
      rw [e, abs_x (by omega) (by omega)]
      congr 1
      split <;> omega
    · have e : sgn s (pW s) = pV s (pW s) := by unfold sgn; rw [if_neg (fun z => c z.2)]
      rw [e, abs_x (by omega) (by omega)]
      congr 1
      split <;> omega
  have el : f_re_limit σ = iI (lmt (pW s)) := by
    unfold f_re_limit lmt
    have q1 : nI (pW s) = 0 ↔ pW s = 0 := nI_eq (b := 0) (by omega) (by omega)
    have q2 : nI (pW s) = 3 ↔ pW s = 3 := nI_eq (b := 3) (by omega) (by omega)
    simp only [k1, q1, q2]
    (repeat' split) <;> rfl
  have qd : nI (pD s) = 0 ↔ pD s = 0 := nD0 (by omega)
  have qd2 : nI (pD s) ≤ 0 ↔ pD s = 0 := (nI_leI (b := 0) (by omega) (by omega)).trans (by omega)
  have qa : iI a = 0 ↔ a = 0 := iI_eq (b := 0) (by omega) (by omega) (by omega) (by omega)
  have qv : iI (pV s (pW s)) = 0 ↔ pV s (pW s) = 0 := iI_eq (b := 0) (by omega) (by omega) (by omega) (by omega)
  have qw3 : nI (pW s) = 3 ↔ pW s = 3 := nI_eq (b := 3) (by omega) (by omega)
  have ev : (10 : Int32) * iI (pV s (pW s)) + iI a = iI (10 * pV s (pW s) + a) := by
    rw [show (10 : Int32) = iI 10 from rfl, iI_mul, iI_add]
  have ql : iI (10 * pV s (pW s) + a) ≤ iI (lmt (pW s)) ↔ 10 * pV s (pW s) + a ≤ lmt (pW s) := iI_le (by omega) (by omega) (by omega) (by omega)
  have e10 : ¬ ((1 : Int32) = 0) := by decide
  -- putting the figure
  have put : ∀ x : Int32, x = iI (if pG s = true then -(10 * pV s (pW s) + a) else 10 * pV s (pW s) + a) → stpF s a = some (pW s, pD s + 1, pG s, false, up1 (pV s) (pW s) (10 * pV s (pW s) + a)) → ∃ σ', f_re_takeFigure_c114 (nI (pW s)) x σ = some (stR (stpF s a), σ') ∧ F23 σ σ' ∧ CS (stS s (stpF s a)) σ' := fun x ex es => by
    rw [es]
    unfold f_re_takeFigure_c114
    rw [if_pos iw, nm_eq, nm_eq, cw]
    refine ⟨_, rfl, (F23.upI σ (pW s) x (Or.inr rfl)).tr (F23.upI _ 2 _ (Or.inl rfl)), ?_, ?_, ?_, ?_⟩
    · show (uI (uI σ 3 (pW s) x) 2 2 ((uI σ 3 (pW s) x).1 2 2 + 1)).1 2 1 = nI (pW s)
      simp [uI_1, k1]
    · show (uI (uI σ 3 (pW s) x) 2 2 ((uI σ 3 (pW s) x).1 2 2 + 1)).1 2 2 = nI (pD s + 1)
      simp [uI_1, k2, nI_1]
    · show (uI (uI σ 3 (pW s) x) 2 2 ((uI σ 3 (pW s) x).1 2 2 + 1)).1 2 3 = b01 (pG s)
      simp [uI_1, k3]
    · intro j hj
      have e2 : (uI (uI σ 3 (pW s) x) 2 2 ((uI σ 3 (pW s) x).1 2 2 + 1)).1 3 j = if j = pW s then x else σ.1 3 j := by simp [uI_1]
      rw [e2]
      show _ = iI (if j = pW s ∧ pG s = true then -(up1 (pV s) (pW s) (10 * pV s (pW s) + a) j) else up1 (pV s) (pW s) (10 * pV s (pW s) + a) j)
      unfold up1
      by_cases c : j = pW s
      · rw [if_pos c, if_pos c, ex]
        by_cases c2 : pG s = true
        · rw [if_pos c2, if_pos ⟨c, c2⟩]
        · rw [if_neg c2, if_neg (fun z => c2 z.2)]
      · rw [if_neg c, if_neg c, if_neg (fun z => c z.1), k4 j hj]
        unfold sgn
        rw [if_neg (fun z => c z.1)]
  have rej : stpF s a = none → ∃ σ', (some ((0 : Int32), σ)) = some (stR (stpF s a), σ') ∧ F23 σ σ' ∧ CS (stS s (stpF s a)) σ' := fun es => by
    rw [es]
    exact ⟨σ, rfl, F23.rf σ, hh⟩
  unfold f_re_takeFigure
  rw [k1, if_pos iw, cw, k4 _ (by omega), ab, k2]
  -- the second half
  have half : ∀ t0 : Int32, (t0 = 0 ∨ t0 = 1) → (t0 = 1 ↔ (0 < pD s ∧ pV s (pW s) = 0)) → ∃ σ', f_re_takeFigure_c29 (iI a) (iI (pV s (pW s))) t0 σ = some (stR (stpF s a), σ') ∧ F23 σ σ' ∧ CS (stS s (stpF s a)) σ' := fun t0 ht htt => by
    have last : ∀ t1 : Int32, (t1 = 0 ∨ t1 = 1) → (t1 = 1 ↔ (pD s = 0 ∧ a = 0 ∧ (pG s = true ∨ pW s = 3))) → ∃ σ', f_re_takeFigure_c61 (iI a) (iI (pV s (pW s))) t0 t1 σ = some (stR (stpF s a), σ') ∧ F23 σ σ' ∧ CS (stS s (stpF s a)) σ' := fun t1 h1t h1tt => by
      unfold f_re_takeFigure_c61
      rw [el, ev, k3, k1]
      rcases ht with rfl | rfl
      · rw [if_pos rfl]
        have n1 : ¬ (0 < pD s ∧ pV s (pW s) = 0) := fun z => absurd (htt.mpr z) (by decide)
        rcases h1t with rfl | rfl
        · rw [if_pos rfl]
          have n2 : ¬ (pD s = 0 ∧ a = 0 ∧ (pG s = true ∨ pW s = 3)) := fun z => absurd (h1tt.mpr z) (by decide)
          by_cases c : 10 * pV s (pW s) + a ≤ lmt (pW s)
          · rw [if_pos (ql.mpr c)]
            have es : stpF s a = some (pW s, pD s + 1, pG s, false, up1 (pV s) (pW s) (10 * pV s (pW s) + a)) := by
              unfold stpF
              rw [if_neg]
              rintro (z | z | z)
              · exact n2 z
              · exact n1 z
              · omega
            by_cases cg : pG s = true
            · rw [if_neg (fun z => by rw [b01_0, cg] at z; cases z), iI_neg]
              exact put _ (by rw [if_pos cg]) es
            · rw [if_pos ((b01_0 _).mpr (by simpa using cg))]
              exact put _ (by rw [if_neg cg]) es
          · rw [if_neg (fun z => c (ql.mp z))]
            exact rej (by unfold stpF; rw [if_pos (Or.inr (Or.inr (by omega)))])
        · rw [if_neg e10]
          exact rej (by unfold stpF; rw [if_pos (Or.inl (h1tt.mp rfl))])
      · rw [if_neg e10]
        exact rej (by unfold stpF; rw [if_pos (Or.inr (Or.inl (htt.mp rfl)))])
    have no : ¬ (pD s = 0 ∧ a = 0 ∧ (pG s = true ∨ pW s = 3)) → ∃ σ', f_re_takeFigure_c60 (iI a) (iI (pV s (pW s))) t0 σ = some (stR (stpF s a), σ') ∧ F23 σ σ' ∧ CS (stS s (stpF s a)) σ' := fun z => last 0 (Or.inl rfl) ⟨fun y => absurd y (by decide), fun y => absurd y z⟩
    have yes : (pD s = 0 ∧ a = 0 ∧ (pG s = true ∨ pW s = 3)) → ∃ σ', f_re_takeFigure_c56 (iI a) (iI (pV s (pW s))) t0 σ = some (stR (stpF s a), σ') ∧ F23 σ σ' ∧ CS (stS s (stpF s a)) σ' := fun z => last 1 (Or.inr rfl) ⟨fun _ => z, fun _ => rfl⟩
    unfold f_re_takeFigure_c29
    rw [k1, k2, k3]
    by_cases c1 : pD s = 0
    · rw [if_pos (qd.mpr c1)]
      by_cases c2 : a = 0
      · rw [if_pos (qa.mpr c2)]
        by_cases c3 : pG s = true
        · rw [if_neg (fun z => by rw [b01_0, c3] at z; cases z)]
          exact yes ⟨c1, c2, Or.inl c3⟩
        · rw [if_pos ((b01_0 _).mpr (by simpa using c3))]
          by_cases c4 : pW s = 3
          · rw [if_pos (qw3.mpr c4)]
            exact yes ⟨c1, c2, Or.inr c4⟩
          · rw [if_neg (fun z => c4 (qw3.mp z))]
            exact no (fun z => z.2.2.elim c3 c4)
      · rw [if_neg (fun z => c2 (qa.mp z))]
        exact no (fun z => c2 z.2.1)
    · rw [if_neg (fun z => c1 (qd.mp z))]
      exact no (fun z => c1 z.1)
  by_cases c1 : pD s = 0
  · rw [if_pos (qd2.mpr c1)]
    exact half 0 (Or.inl rfl) ⟨fun y => absurd y (by decide), fun y => by omega⟩
  · rw [if_neg (fun z => c1 (qd2.mp z))]
    by_cases c2 : pV s (pW s) = 0
    · rw [if_pos (qv.mpr c2)]
      exact half 1 (Or.inr rfl) ⟨fun _ => ⟨by omega, c2⟩, fun _ => rfl⟩
    · rw [if_neg (fun z => c2 (qv.mp z))]
      exact half 0 (Or.inl rfl) ⟨fun y => absurd y (by decide), fun y => absurd y.2 c2⟩
theorem x_minus {s : PS} {σ : Sg} (hP : PI s) (hd : pD s ≤ 24) (hx : pX s = false) (h : CS s σ) : ∃ σ', f_re_takeMinus σ = (stR (stpM s), σ') ∧ F23 σ σ' ∧ CS (stS s (stpM s)) σ' := by
  obtain ⟨h1, h2, h3, h4, h5, h6, h7⟩ := hP
  have hh := h
  obtain ⟨k1, k2, k3, k4⟩ := h
  rw [hx] at k1
  rw [if_neg (show ¬ (false = true) by decide)] at k1
  have qw3 : nI (pW s) = 3 ↔ pW s = 3 := nI_eq (b := 3) (by omega) (by omega)
  have qd : (0 : Int32) < nI (pD s) ↔ 0 < pD s := nI_ltI (a := 0) (by omega) (by omega)
  unfold f_re_takeMinus stpM
  rw [k1, k2, k3]
  by_cases c1 : 0 < pD s
  · rw [if_pos (qd.mpr c1), if_neg (fun z => by omega)]
    exact ⟨σ, rfl, F23.rf σ, hh⟩
  · rw [if_neg (fun z => c1 (qd.mp z))]
    by_cases c2 : pG s = true
    · rw [if_neg (fun z => by rw [b01_0, c2] at z; cases z), if_neg (fun z => by rw [c2] at z; exact absurd z.2.1 (by decide))]
      exact ⟨σ, rfl, F23.rf σ, hh⟩
    · have c2' : pG s = false := by simpa using c2
      rw [if_pos ((b01_0 _).mpr c2')]
      by_cases c3 : pW s = 3
      · rw [if_pos (qw3.mpr c3), if_neg (fun z => z.2.2 c3)]
        exact ⟨σ, rfl, F23.rf σ, hh⟩
      · rw [if_neg (fun z => c3 (qw3.mp z)), if_pos ⟨by omega, c2', c3⟩, nm_eq]
        refine ⟨_, rfl, F23.upI σ 3 1 (Or.inl rfl), ?_, ?_, ?_, ?_⟩
        · show (uI σ 2 3 1).1 2 1 = nI (pW s)
          simp [uI_1, k1]
        · show (uI σ 2 3 1).1 2 2 = nI 0
          have e2 : (uI σ 2 3 1).1 2 2 = σ.1 2 2 := by simp [uI_1]
          rw [e2, k2, show pD s = 0 by omega]
        · show (uI σ 2 3 1).1 2 3 = b01 true
          simp [uI_1]; rfl
        · intro j hj
          have e2 : (uI σ 2 3 1).1 3 j = σ.1 3 j := by simp [uI_1]
          rw [e2, k4 j hj]
          unfold sgn
          rw [c2', if_neg (fun z => absurd z.2 (by decide))]
          show iI (pV s j) = iI (if j = pW s ∧ true = true then -(pV s j) else pV s j)
          by_cases c : j = pW s
          · rw [if_pos ⟨c, rfl⟩, c, h5 (by omega)]; rfl
          · rw [if_neg (fun z => c z.1)]
theorem x_mark {s : PS} {σ : Sg} (hP : PI s) (hd : pD s ≤ 24) (hx : pX s = false) (h : CS s σ) (c : Int32) (hc : ¬ c = 45) : ∃ σ', f_re_takeMark σ c = (stR (stpK s c), σ') ∧ F23 σ σ' ∧ CS (stS s (stpK s c)) σ' := by
  obtain ⟨h1, h2, h3, h4, h5, h6, h7⟩ := hP
  have hh := h
  obtain ⟨k1, k2, k3, k4⟩ := h
  rw [hx] at k1
  rw [if_neg (show ¬ (false = true) by decide)] at k1
  have qw0 : nI (pW s) = 0 ↔ pW s = 0 := nI_eq (b := 0) (by omega) (by omega)
  have qw1 : nI (pW s) = 1 ↔ pW s = 1 := nI_eq (b := 1) (by omega) (by omega)
  have qw3 : nI (pW s) = 3 ↔ pW s = 3 := nI_eq (b := 3) (by omega) (by omega)
  have qd : nI (pD s) = 0 ↔ pD s = 0 := nD0 (by omega)
  have low : ¬ (c = 120 ∧ pW s = 1 ∧ pD s = 0 ∧ pG s = false) → ∃ σ', f_re_takeMark_c35 c σ = (stR (stpK s c), σ') ∧ F23 σ σ' ∧ CS (stS s (stpK s c)) σ' := fun n1 => by
    unfold stpK
    rw [if_neg n1]
    unfold f_re_takeMark_c35
    rw [k1, k2]
    by_cases c1 : pD s = 0
    · rw [if_pos (qd.mpr c1), if_neg (fun z => by omega)]
      exact ⟨σ, rfl, F23.rf σ, hh⟩
    · rw [if_neg (fun z => c1 (qd.mp z))]
      by_cases c2 : pW s = 3
      · rw [if_pos (qw3.mpr c2), if_neg (fun z => by omega)]
        exact ⟨σ, rfl, F23.rf σ, hh⟩
      · rw [if_neg (fun z => c2 (qw3.mp z))]
        have em : (c = f_re_markBehind σ) ↔ ((pW s = 0 ∧ c = 58) ∨ (pW s = 1 ∧ c = 44) ∨ (pW s = 2 ∧ c = 126)) := by
          unfold f_re_markBehind
          rw [k1]
          by_cases d0 : pW s = 0
          · rw [if_pos (qw0.mpr d0)]
            exact ⟨fun z => Or.inl ⟨d0, z⟩, fun z => by rcases z with z | z | z <;> first | exact z.2 | (exfalso; omega)⟩
          · rw [if_neg (fun z => d0 (qw0.mp z))]
            by_cases d1 : pW s = 1
            · rw [if_pos (qw1.mpr d1)]
              exact ⟨fun z => Or.inr (Or.inl ⟨d1, z⟩), fun z => by rcases z with z | z | z <;> first | exact absurd z.1 d0 | exact z.2 | (exfalso; omega)⟩
            · rw [if_neg (fun z => d1 (qw1.mp z))]
              exact ⟨fun z => Or.inr (Or.inr ⟨by omega, z⟩), fun z => by rcases z with z | z | z <;> first | exact absurd z.1 d0 | exact absurd z.1 d1 | exact z.2⟩
        by_cases c3 : c = f_re_markBehind σ
        · rw [if_pos c3, if_pos ⟨by omega, em.mp c3⟩, nm_eq]
          obtain ⟨F, e1, e2, e3, e4⟩ := x_enter σ (nI (pW s) + 1)
          refine ⟨_, rfl, F, ?_, ?_, ?_, ?_⟩
          · rw [e1, nI_1]; rfl
          · rw [e2]; rfl
          · rw [e3]; rfl
          · intro j hj
            rw [e4, k4 j hj]
            show _ = iI (if j = pW s + 1 ∧ false = true then _ else up1 (pV s) (pW s) (sgn s (pW s)) j)
            rw [if_neg (fun z => absurd z.2 (by decide))]
            unfold up1
            by_cases c : j = pW s
            · rw [if_pos c, c]
            · rw [if_neg c]
              unfold sgn
              rw [if_neg (fun z => c z.1)]
        · rw [if_neg c3, if_neg (fun z => c3 (em.mpr z.2))]
          exact ⟨σ, rfl, F23.rf σ, hh⟩
  unfold f_re_takeMark
  rw [k1, k2, k3]
  by_cases d1 : c = 120
  · rw [if_pos d1]
    by_cases d2 : pW s = 1
    · rw [if_pos (qw1.mpr d2)]
      by_cases d3 : pD s = 0
      · rw [if_pos (qd.mpr d3)]
        by_cases d4 : pG s = true
        · rw [if_neg (fun z => by rw [b01_0, d4] at z; cases z)]
          exact low (fun z => by rw [d4] at z; exact absurd z.2.2.2 (by decide))
        · have d4' : pG s = false := by simpa using d4
          rw [if_pos ((b01_0 _).mpr d4'), nm_eq]
          have es : stpK s c = some (1, 0, false, true, pV s) := by unfold stpK; rw [if_pos ⟨d1, d2, d3, d4'⟩]
          rw [es]
          obtain ⟨F, e1, e2, e3, e4⟩ := x_enter σ 4
          refine ⟨_, rfl, F, ?_, ?_, ?_, ?_⟩
          · rw [e1]; rfl
          · rw [e2]; rfl
          · rw [e3]; rfl
          · intro j hj
            rw [e4, k4 j hj]
            show _ = iI (if j = 1 ∧ false = true then _ else pV s j)
            rw [if_neg (fun z => absurd z.2 (by decide))]
            unfold sgn
            rw [if_neg (fun z => d4 z.2)]
      · rw [if_neg (fun z => d3 (qd.mp z))]
        exact low (fun z => d3 z.2.2.1)
    · rw [if_neg (fun z => d2 (qw1.mp z))]
      exact low (fun z => d2 z.2.1)
  · rw [if_neg d1]
    exact low (fun z => d1 z.1)
theorem stR_01 (o : Option PS) : stR o = 0 ∨ stR o = 1 := by cases o; exact Or.inl rfl; exact Or.inr rfl
theorem x_take {s : PS} {σ : Sg} (hP : PI s) (hd : pD s ≤ 24) (h : CS s σ) (c : Int32) : ∃ σ', f_re_take σ c = some (stR (stp s c), σ') ∧ F23 σ σ' ∧ CS (stS s (stp s c)) σ' := by
  have hw := hP.1
  unfold f_re_take stp
  by_cases cx : pX s = true
  · rw [if_pos cx, h.1, if_pos cx]
    exact ⟨σ, rfl, F23.rf σ, h⟩
  · have cx' : pX s = false := by simpa using cx
    rw [if_neg cx, h.1, if_neg cx]
    have q0 : ¬ nI (pW s) < 0 := nlt0 (by omega)
    have q4 : nI (pW s) < 4 ↔ pW s < 4 := nI_ltI (b := 4) (by omega) (by omega)
    rw [if_neg q0, if_pos (q4.mpr (by omega))]
    have lowr : c < 48 ∨ 57 < c → ∃ σ', f_re_take_c42 c σ = some (stR (if c = 45 then stpM s else stpK s c), σ') ∧ F23 σ σ' ∧ CS (stS s (if c = 45 then stpM s else stpK s c)) σ' := fun _ => by
      unfold f_re_take_c42
      by_cases d : c = 45
      · rw [if_pos d, if_pos d]
        obtain ⟨σ', e, F, C⟩ := x_minus hP hd cx' h
        rw [nm_eq, e]
        show ∃ σ'', (if stR (stpM s) = 0 ∨ stR (stpM s) = 1 then _ else _) = _ ∧ _
        rw [if_pos (stR_01 _)]
        exact ⟨σ', rfl, F, C⟩
      · rw [if_neg d, if_neg d]
        obtain ⟨σ', e, F, C⟩ := x_mark hP hd cx' h c d
        rw [nm_eq, e]
        show ∃ σ'', (if stR (stpK s c) = 0 ∨ stR (stpK s c) = 1 then _ else _) = _ ∧ _
        rw [if_pos (stR_01 _)]
        exact ⟨σ', rfl, F, C⟩
    by_cases d1 : c < 48
    · rw [if_pos d1, if_pos (Or.inl d1)]
      exact lowr (Or.inl d1)
    · rw [if_neg d1]
      by_cases d2 : 57 < c
      · rw [if_pos d2, if_pos (Or.inr d2)]
        exact lowr (Or.inr d2)
      · rw [if_neg d2, if_neg (fun z => z.elim d1 d2)]
        obtain ⟨ec, f1, f2⟩ := c_fig (fun z => z.elim d1 d2)
        have e8 : c - 48 = iI (c.toInt - 48) := by
          rw [← iI_sub, ← ec]; rfl
        obtain ⟨σ', e, F, C⟩ := x_fig hP hd cx' h (a := c.toInt - 48) (by omega) (by omega)
        rw [e8, e, bind_some]
        show ∃ σ'', (if stR (stpF s (c.toInt - 48)) = 0 ∨ stR (stpF s (c.toInt - 48)) = 1 then _ else _) = _ ∧ _
        rw [if_pos (stR_01 _)]
        exact ⟨σ', rfl, F, C⟩
/-! reading along -/
def rdl (pg : Nat → Int32) : Nat → Nat → PS → Nat × PS
  | 0, k, s => (k, s)
  | n + 1, k, s => match stp s (pg k) with
    | none => (k, s)
    | some s' => rdl pg n (k + 1) s'
theorem rdl_pi {pg : Nat → Int32} : ∀ (n k : Nat) (s : PS), PI s → pD s ≤ k → PI (rdl pg n k s).2 ∧ pD (rdl pg n k s).2 ≤ k + n ∧ (rdl pg n k s).1 ≤ k + n
  | 0, k, s, h, hd => ⟨h, hd, Nat.le_refl _⟩
  | n + 1, k, s, h, hd => by
    show PI (match stp s (pg k) with | none => (k, s) | some s' => rdl pg n (k + 1) s').2 ∧ pD (match stp s (pg k) with | none => (k, s) | some s' => rdl pg n (k + 1) s').2 ≤ k + (n + 1) ∧ (match stp s (pg k) with | none => (k, s) | some s' => rdl pg n (k + 1) s').1 ≤ k + (n + 1)
    cases e : stp s (pg k) with
    | none => exact ⟨h, by show pD s ≤ _; omega, by show k ≤ _; omega⟩
    | some s' =>
      have p := pi_stp h e
      have := rdl_pi (pg := pg) n (k + 1) s' p.1 (by omega)
      exact ⟨this.1, by show pD (rdl pg n (k + 1) s').2 ≤ _; omega, by show (rdl pg n (k + 1) s').1 ≤ _; omega⟩
def ps0 : PS := (0, 0, false, false, fun _ => 0)
def rd (pg : Nat → Int32) (pl : Nat) : Nat × PS := rdl pg pl 0 ps0
theorem rd_pi (pg : Nat → Int32) (pl : Nat) : PI (rd pg pl).2 ∧ pD (rd pg pl).2 ≤ pl ∧ (rd pg pl).1 ≤ pl := by
  have := rdl_pi (pg := pg) pl 0 ps0 pi_0 (Nat.le_refl 0)
  rw [Nat.zero_add] at this
  exact this
theorem x_restart {N : Nat} (hN : 600 ≤ N) (σ : Sg) : ∃ σ', f_re_restart N σ = some σ' ∧ F23 σ σ' ∧ CS ps0 σ' := by
  obtain ⟨M, rfl⟩ : ∃ M, N = M + 5 := ⟨N - 5, by omega⟩
  obtain ⟨F, e1, e2, e3, e4⟩ := x_enter (uI (uI (uI (uI σ 3 0 0) 3 1 0) 3 2 0) 3 3 0) 0
  refine ⟨f_re_enter (uI (uI (uI (uI σ 3 0 0) 3 1 0) 3 2 0) 3 3 0) 0, rfl, ((((F23.upI σ 0 0 (Or.inr rfl)).tr (F23.upI _ 1 0 (Or.inr rfl))).tr (F23.upI _ 2 0 (Or.inr rfl))).tr (F23.upI _ 3 0 (Or.inr rfl))).tr F, e1, e2, e3, ?_⟩
  intro j hj
  rw [e4]
  show _ = iI (if j = 0 ∧ false = true then _ else 0)
  rw [if_neg (fun z => absurd z.2 (by decide))]
  simp only [uI_1]
  by_cases c3 : j = 3
  · rw [if_pos ⟨trivial, c3⟩]; rfl
  · rw [if_neg (fun z => c3 z.2)]
    by_cases c2 : j = 2
    · rw [if_pos ⟨trivial, c2⟩]; rfl
    · rw [if_neg (fun z => c2 z.2)]
      by_cases c1 : j = 1
      · rw [if_pos ⟨trivial, c1⟩]; rfl
      · rw [if_neg (fun z => c1 z.2), if_pos ⟨trivial, by omega⟩]; rfl
def PGx (pg : Nat → Int32) (pl : Nat) (σ : Sg) : Prop := pl ≤ 24 ∧ σ.1 0 6 = nI pl ∧ ∀ k, k < pl → σ.1 1 k = pg k
theorem PGx.f23 {pg : Nat → Int32} {pl : Nat} {a b : Sg} (h : F23 a b) (hp : PGx pg pl a) : PGx pg pl b := by
  unfold PGx
  rw [h.1 0 (by decide) (by decide), h.1 1 (by decide) (by decide)]
  exact hp
theorem x_read_loop {pg : Nat → Int32} {pl N : Nat} : ∀ (m k : Nat) (s : PS) (σ : Sg), k ≤ pl → pl - k < m → PI s → pD s ≤ k → PGx pg pl σ → CS s σ → ∃ σ', f_ss_readPage_c9 N m (nI k) σ = some (nI (rdl pg (pl - k) k s).1, σ') ∧ F23 σ σ' ∧ CS (rdl pg (pl - k) k s).2 σ' := by
  intro m
  induction m with
  | zero => intro k s σ h1 h2; omega
  | succ m ih =>
    intro k s σ hk hm hP hd hp hC
    show ∃ σ', f_ss_readPage_c9_s N (f_ss_readPage_c9 N m) (nI k) σ = _ ∧ _
    unfold f_ss_readPage_c9_s
    have h24 := hp.1
    have q0 : nI pl ≤ nI k ↔ pl ≤ k := nI_leI (by omega) (by omega)
    have q1 : (24 : Int32) ≤ nI k ↔ 24 ≤ k := nI_leI (a := 24) (by omega) (by omega)
    rw [hp.2.1]
    by_cases c0 : pl ≤ k
    · rw [if_pos (q0.mpr c0), show pl - k = 0 by omega]
      exact ⟨σ, rfl, F23.rf σ, hC⟩
    · rw [if_neg (fun z => c0 (q0.mp z)), if_neg (fun z => by have := q1.mp z; omega), if_pos ((ib_nI (by omega)).mpr (by omega)), nI_clamp (show k < 2 ^ 31 by omega), hp.2.2 k (by omega)]
      obtain ⟨σ1, e1, F1, C1⟩ := x_take hP (by omega) hC (pg k)
      rw [e1, bind_some, show pl - k = (pl - (k + 1)) + 1 by omega]
      show ∃ σ', (if stR (stp s (pg k)) = 0 then some (nI k, σ1) else f_ss_readPage_c9 N m (nI k + 1) σ1) = some (nI (match stp s (pg k) with | none => (k, s) | some s' => rdl pg (pl - (k + 1)) (k + 1) s').1, σ') ∧ F23 σ σ' ∧ CS (match stp s (pg k) with | none => (k, s) | some s' => rdl pg (pl - (k + 1)) (k + 1) s').2 σ'
      cases e : stp s (pg k) with
      | none =>
        rw [e] at C1
        exact ⟨σ1, rfl, F1, C1⟩
      | some s' =>
        rw [e] at C1
        have p := pi_stp hP e
        rw [if_neg (show ¬ stR (some s') = 0 by show ¬ ((1 : Int32) = 0); decide), nI_1]
        obtain ⟨σ2, e2, F2, C2⟩ := ih (k + 1) s' σ1 (by omega) (by omega) p.1 (by omega) (hp.f23 F1) C1
        exact ⟨σ2, e2, F1.tr F2, C2⟩
theorem x_read {pg : Nat → Int32} {pl N : Nat} (hN : 600 ≤ N) {σ : Sg} (hp : PGx pg pl σ) : ∃ σ', f_ss_readPage N σ = some (nI (rd pg pl).1, σ') ∧ F23 σ σ' ∧ CS (rd pg pl).2 σ' := by
  obtain ⟨σ1, e1, F1, C1⟩ := x_restart hN σ
  unfold f_ss_readPage
  rw [e1, bind_some]
  have h24 := hp.1
  obtain ⟨σ2, e2, F2, C2⟩ := x_read_loop (N := N) N 0 ps0 σ1 (by omega) (by omega) pi_0 (Nat.le_refl 0) (hp.f23 F1) C1
  exact ⟨σ2, e2, F1.tr F2, C2⟩
