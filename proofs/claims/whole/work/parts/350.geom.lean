/-! WRAPPING POINTS: it comes back to where it began -/
abbrev Pts : Type := List (Int × Int)
def gX (P : Pts) (p : Nat) : Int := (P.getD p (0, 0)).1
def gY (P : Pts) (p : Nat) : Int := (P.getD p (0, 0)).2
def trn (P : Pts) (a b c : Nat) : Int := (gX P b - gX P a) * (gY P c - gY P a) - (gY P b - gY P a) * (gX P c - gX P a)
def sqd (P : Pts) (a b : Nat) : Int := (gX P a - gX P b) * (gX P a - gX P b) + (gY P a - gY P b) * (gY P a - gY P b)
/-- p lies beyond to, seen from a -/
def byd (P : Pts) (a b p : Nat) : Prop := trn P a b p < 0 ∨ (trn P a b p = 0 ∧ sqd P a b < sqd P a p)
noncomputable def nxs (P : Pts) (a b p : Nat) : Nat := @ite Nat (p ≠ a ∧ byd P a b p) (Classical.propDecidable _) p b
noncomputable def nxg (P : Pts) (a : Nat) : Nat → Nat → Nat → Nat
  | 0, _, b => b
  | d + 1, p, b => nxg P a d (p + 1) (nxs P a b p)
noncomputable def nxt (P : Pts) (a : Nat) : Nat := nxg P a P.length 0 (if a = 0 then 1 else 0)
theorem nxs_t {P : Pts} {a b p : Nat} (h : p ≠ a ∧ byd P a b p) : nxs P a b p = p := by unfold nxs; exact if_pos h
theorem nxs_f {P : Pts} {a b p : Nat} (h : ¬ (p ≠ a ∧ byd P a b p)) : nxs P a b p = b := by unfold nxs; exact if_neg h
/-- the points are apart, and within bounds -/
def OkP (P : Pts) : Prop := 2 ≤ P.length ∧ (∀ a b, a < P.length → b < P.length → gX P a = gX P b → gY P a = gY P b → a = b) ∧ ∀ a, a < P.length → (-10400 ≤ gX P a ∧ gX P a ≤ 10400) ∧ (-200 ≤ gY P a ∧ gY P a ≤ 200)
/-- a straight line has p alone on one side -/
def Exp (P : Pts) (p : Nat) : Prop := p < P.length ∧ ∃ a b : Int, ∀ r, r < P.length → r ≠ p → 0 < a * (gX P r - gX P p) + b * (gY P r - gY P p)
theorem sq_nn (x : Int) : 0 ≤ x * x := by
  rcases Int.le_total 0 x with h | h
  · exact Int.mul_nonneg h h
  · exact Int.mul_nonneg_of_nonpos_of_nonpos h h
theorem sq_pos2 {x y : Int} (h : x ≠ 0 ∨ y ≠ 0) : 0 < x * x + y * y := by
  have h1 := sq_nn x
  have h2 := sq_nn y
  rcases h with h | h
  · have : x * x ≠ 0 := fun e => h (by rcases Int.mul_eq_zero.mp e with e | e <;> exact e)
    omega
  · have : y * y ≠ 0 := fun e => h (by rcases Int.mul_eq_zero.mp e with e | e <;> exact e)
    omega
/-- directions within a half plane: beyond is an order -/
theorem dir {a b u1 u2 v1 v2 w1 w2 : Int} (fu : 0 < a * u1 + b * u2) (fv : 0 < a * v1 + b * v2) (fw : 0 < a * w1 + b * w2)
    (huv : u1 * v2 - u2 * v1 < 0 ∨ (u1 * v2 - u2 * v1 = 0 ∧ u1 * u1 + u2 * u2 < v1 * v1 + v2 * v2)) (huw : 0 < u1 * w2 - u2 * w1 ∨ (u1 * w2 - u2 * w1 = 0 ∧ w1 * w1 + w2 * w2 ≤ u1 * u1 + u2 * u2)) :
    0 < v1 * w2 - v2 * w1 ∨ (v1 * w2 - v2 * w1 = 0 ∧ w1 * w1 + w2 * w2 ≤ v1 * v1 + v2 * v2) := by
  have key : (a * u1 + b * u2) * (v1 * w2 - v2 * w1) = (a * v1 + b * v2) * (u1 * w2 - u2 * w1) - (a * w1 + b * w2) * (u1 * v2 - u2 * v1) := by grind
  generalize hA : a * u1 + b * u2 = A at *
  generalize hB : a * v1 + b * v2 = B at *
  generalize hC : a * w1 + b * w2 = C at *
  generalize hx : v1 * w2 - v2 * w1 = x at *
  generalize hy : u1 * w2 - u2 * w1 = y at *
  generalize hz : u1 * v2 - u2 * v1 = z at *
  rcases huv with h1 | ⟨h1, h2⟩
  · have p1 : 0 ≤ B * y := Int.mul_nonneg (by omega) (by omega)
    have p2 : 0 < C * (-z) := Int.mul_pos fw (by omega)
    rw [Int.mul_neg] at p2
    have p3 : 0 < A * x := by omega
    exact Or.inl (Int.pos_of_mul_pos_right p3 (by omega))
  · rw [h1, Int.mul_zero, Int.sub_zero] at key
    rcases huw with h3 | ⟨h3, h4⟩
    · have p1 : 0 < B * y := Int.mul_pos fv h3
      have p3 : 0 < A * x := by omega
      exact Or.inl (Int.pos_of_mul_pos_right p3 (by omega))
    · rw [h3, Int.mul_zero] at key
      have : x = 0 := by
        rcases Int.mul_eq_zero.mp key with e | e
        · omega
        · exact e
      exact Or.inr ⟨this, by omega⟩
theorem sqd_u (P : Pts) (a b : Nat) : sqd P a b = (gX P b - gX P a) * (gX P b - gX P a) + (gY P b - gY P a) * (gY P b - gY P a) := by unfold sqd; grind
/-- b is the last seen from a, as far as r -/
def lst (P : Pts) (a b r : Nat) : Prop := 0 < trn P a b r ∨ (trn P a b r = 0 ∧ sqd P a r ≤ sqd P a b)
theorem lst_self (P : Pts) (a b : Nat) : lst P a b b := by
  refine Or.inr ⟨?_, Int.le_refl _⟩
  unfold trn; grind
theorem lst_trans {P : Pts} {a b c r : Nat} (hE : Exp P a) (hb : b < P.length) (hc : c < P.length) (hr : r < P.length) (ba : b ≠ a) (ca : c ≠ a) (ra : r ≠ a) (h1 : byd P a b c) (h2 : lst P a b r) : lst P a c r := by
  obtain ⟨-, x, y, hf⟩ := hE
  unfold byd at h1
  unfold lst at h2 ⊢
  rw [sqd_u, sqd_u] at h1 h2 ⊢
  exact dir (hf b hb ba) (hf c hc ca) (hf r hr ra) h1 h2
theorem scan {P : Pts} {a : Nat} (hE : Exp P a) : ∀ (d i b : Nat), i + d = P.length → b < P.length → b ≠ a → (∀ r, r < i → r ≠ a → lst P a b r) → nxg P a d i b < P.length ∧ nxg P a d i b ≠ a ∧ ∀ r, r < P.length → r ≠ a → lst P a (nxg P a d i b) r := by
  intro d
  induction d with
  | zero =>
    intro i b h1 h2 h3 h4
    exact ⟨h2, h3, fun r hr => h4 r (by omega)⟩
  | succ d ih =>
    intro i b h1 h2 h3 h4
    show nxg P a d (i + 1) (nxs P a b i) < P.length ∧ nxg P a d (i + 1) (nxs P a b i) ≠ a ∧ ∀ r, r < P.length → r ≠ a → lst P a (nxg P a d (i + 1) (nxs P a b i)) r
    rcases Classical.em (i ≠ a ∧ byd P a b i) with h | h
    · rw [nxs_t h]
      refine ih (i + 1) i (by omega) (by omega) h.1 (fun r hr hra => ?_)
      rcases Nat.lt_or_ge r i with h5 | h5
      · exact lst_trans hE h2 (by omega) (by omega) h3 h.1 hra h.2 (h4 r h5 hra)
      · have : r = i := by omega
        subst this
        exact lst_self P a r
    · rw [nxs_f h]
      refine ih (i + 1) b (by omega) h2 h3 (fun r hr hra => ?_)
      rcases Nat.lt_or_ge r i with h5 | h5
      · exact h4 r h5 hra
      · have : r = i := by omega
        subst this
        have h6 : ¬ byd P a b r := fun z => h ⟨hra, z⟩
        unfold byd at h6
        unfold lst
        omega
theorem nxt_ok {P : Pts} (hP : OkP P) {a : Nat} (hE : Exp P a) : nxt P a < P.length ∧ nxt P a ≠ a ∧ ∀ r, r < P.length → r ≠ a → lst P a (nxt P a) r := by
  have h2 := hP.1
  refine scan hE P.length 0 _ (by omega) ?_ ?_ (fun r hr => by omega)
  · split <;> omega
  · split <;> omega
/-- the next one stands alone too -/
theorem nxt_exp {P : Pts} (hP : OkP P) {a : Nat} (hE : Exp P a) : Exp P (nxt P a) := by
  obtain ⟨h1, h2, h3⟩ := nxt_ok hP hE
  have ha := hE.1
  generalize nxt P a = q at *
  obtain ⟨-, hne, hb⟩ := hP
  have b0 := hb a ha
  have bq := hb q h1
  refine ⟨h1, -1000000000 * (gY P q - gY P a) - (gX P q - gX P a), 1000000000 * (gX P q - gX P a) - (gY P q - gY P a), fun r hr hrq => ?_⟩
  have br := hb r hr
  -- by how much: K * turn + |q-a|^2 - (q-a).(r-a)
  have e : (-1000000000 * (gY P q - gY P a) - (gX P q - gX P a)) * (gX P r - gX P q) + (1000000000 * (gX P q - gX P a) - (gY P q - gY P a)) * (gY P r - gY P q) = 1000000000 * trn P a q r + (sqd P a q - ((gX P q - gX P a) * (gX P r - gX P a) + (gY P q - gY P a) * (gY P r - gY P a))) := by
    rw [sqd_u]; unfold trn; grind
  rw [e]
  have d1 := mb (a := gX P q - gX P a) (A := 20800) (b := gX P r - gX P a) (B := 20800) (by omega) (by omega) (by omega) (by omega)
  have d2 := mb (a := gY P q - gY P a) (A := 400) (b := gY P r - gY P a) (B := 400) (by omega) (by omega) (by omega) (by omega)
  have s0 : 0 ≤ sqd P a q := by
    rw [sqd_u]
    have := sq_nn (gX P q - gX P a)
    have := sq_nn (gY P q - gY P a)
    omega
  have apart : ∀ x y, x < P.length → y < P.length → x ≠ y → gX P y - gX P x ≠ 0 ∨ gY P y - gY P x ≠ 0 := fun x y hx hy hxy => by
    rcases Classical.em (gX P x = gX P y) with h | h
    · exact Or.inr (fun z => hxy (hne x y hx hy h (by omega)))
    · exact Or.inl (by omega)
  have turn0 : trn P a q r ≥ 0 := by
    rcases Classical.em (r = a) with h | h
    · subst h
      have : trn P r q r = 0 := by unfold trn; grind
      omega
    · rcases h3 r hr h with h4 | h4 <;> omega
  rcases Int.lt_or_le 0 (trn P a q r) with h4 | h4
  · omega
  · have t0 : trn P a q r = 0 := by omega
    have far : sqd P a r ≤ sqd P a q := by
      rcases Classical.em (r = a) with h | h
      · subst h
        have : sqd P r r = 0 := by unfold sqd; grind
        omega
      · rcases h3 r hr h with h5 | h5 <;> omega
    have p := sq_pos2 (apart r q hr h1 hrq)
    have e2 : (gX P q - gX P r) * (gX P q - gX P r) + (gY P q - gY P r) * (gY P q - gY P r) = sqd P a q + sqd P a r - 2 * ((gX P q - gX P a) * (gX P r - gX P a) + (gY P q - gY P a) * (gY P r - gY P a)) := by
      rw [sqd_u, sqd_u]; grind
    omega
/-- two that stand alone don't have the same next one -/
theorem nxt_inj {P : Pts} (hP : OkP P) {a b : Nat} (hA : Exp P a) (hB : Exp P b) (h : nxt P a = nxt P b) : a = b := by
  rcases Classical.em (a = b) with e | ne
  · exact e
  · exfalso
    obtain ⟨a1, a2, a3⟩ := nxt_ok hP hA
    obtain ⟨b1, b2, b3⟩ := nxt_ok hP hB
    rw [← h] at b1 b2 b3
    generalize nxt P a = q at *
    have ha := hA.1
    have hb := hB.1
    have t1 := a3 b hb (Ne.symm ne)
    have t2 := b3 a ha ne
    have et : trn P b q a = -trn P a q b := by unfold trn; grind
    have z1 : trn P a q b = 0 := by
      unfold lst at t1 t2
      omega
    have f1 : sqd P a b ≤ sqd P a q := by rcases t1 with t | t <;> omega
    have f2 : sqd P b a ≤ sqd P b q := by rcases t2 with t | t <;> omega
    obtain ⟨-, x, y, hx⟩ := hA
    obtain ⟨-, x', y', hx'⟩ := hB
    have u1 := hx q a1 a2
    have u2 := hx b hb (Ne.symm ne)
    have v1 := hx' q a1 b2
    have v2 := hx' a ha ne
    obtain ⟨-, hne, -⟩ := hP
    -- seen from q: s = a - q, t = b - q
    obtain ⟨s1, hs1⟩ : ∃ z, z = gX P a - gX P q := ⟨_, rfl⟩
    obtain ⟨s2, hs2⟩ : ∃ z, z = gY P a - gY P q := ⟨_, rfl⟩
    obtain ⟨r1, hr1⟩ : ∃ z, z = gX P b - gX P q := ⟨_, rfl⟩
    obtain ⟨r2, hr2⟩ : ∃ z, z = gY P b - gY P q := ⟨_, rfl⟩
    have cr : s1 * r2 - s2 * r1 = 0 := by
      have : trn P a q b = -(s1 * r2 - s2 * r1) := by unfold trn; subst hs1 hs2 hr1 hr2; grind
      omega
    have g1 : r1 * r1 + r2 * r2 ≤ 2 * (s1 * r1 + s2 * r2) := by
      have e1 : sqd P a q - sqd P a b = 2 * (s1 * r1 + s2 * r2) - (r1 * r1 + r2 * r2) := by unfold sqd; subst hs1 hs2 hr1 hr2; grind
      omega
    have g2 : s1 * s1 + s2 * s2 ≤ 2 * (s1 * r1 + s2 * r2) := by
      have e1 : sqd P b q - sqd P b a = 2 * (s1 * r1 + s2 * r2) - (s1 * s1 + s2 * s2) := by unfold sqd; subst hs1 hs2 hr1 hr2; grind
      omega
    have nr : r1 ≠ 0 ∨ r2 ≠ 0 := by
      rcases Classical.em (gX P b = gX P q) with h | h
      · exact Or.inr (fun z => b2 (hne q b a1 hb h.symm (by omega)))
      · exact Or.inl (by omega)
    have pr := sq_pos2 nr
    have dp : 0 < s1 * r1 + s2 * r2 := by omega
    -- the functional of a: F s < 0, F s < F r
    have w1 : x * s1 + y * s2 < 0 := by
      have : x * (gX P q - gX P a) + y * (gY P q - gY P a) = -(x * s1 + y * s2) := by subst hs1 hs2; grind
      omega
    have w2 : x * s1 + y * s2 < x * r1 + y * r2 := by
      have : x * (gX P b - gX P a) + y * (gY P b - gY P a) = (x * r1 + y * r2) - (x * s1 + y * s2) := by subst hs1 hs2 hr1 hr2; grind
      omega
    have w3 : x' * r1 + y' * r2 < 0 := by
      have : x' * (gX P q - gX P b) + y' * (gY P q - gY P b) = -(x' * r1 + y' * r2) := by subst hr1 hr2; grind
      omega
    have w4 : x' * r1 + y' * r2 < x' * s1 + y' * s2 := by
      have : x' * (gX P a - gX P b) + y' * (gY P a - gY P b) = (x' * s1 + y' * s2) - (x' * r1 + y' * r2) := by subst hs1 hs2 hr1 hr2; grind
      omega
    have k1 : (r1 * r1 + r2 * r2) * (x * s1 + y * s2) = (s1 * r1 + s2 * r2) * (x * r1 + y * r2) := by
      have : (r1 * r1 + r2 * r2) * (x * s1 + y * s2) - (s1 * r1 + s2 * r2) * (x * r1 + y * r2) = (x * r2 - y * r1) * (s1 * r2 - s2 * r1) := by grind
      rw [cr, Int.mul_zero] at this
      omega
    have k2 : (s1 * s1 + s2 * s2) * (x' * r1 + y' * r2) = (s1 * r1 + s2 * r2) * (x' * s1 + y' * s2) := by
      have : (s1 * s1 + s2 * s2) * (x' * r1 + y' * r2) - (s1 * r1 + s2 * r2) * (x' * s1 + y' * s2) = (x' * s2 - y' * s1) * (s2 * r1 - s1 * r2) := by grind
      rw [show s2 * r1 - s1 * r2 = 0 by omega, Int.mul_zero] at this
      omega
    have sum : 0 ≤ (s1 * s1 + s2 * s2) + (r1 * r1 + r2 * r2) - 2 * (s1 * r1 + s2 * r2) := by
      have h1 := sq_nn (s1 - r1)
      have h2 := sq_nn (s2 - r2)
      have : (s1 * s1 + s2 * s2) + (r1 * r1 + r2 * r2) - 2 * (s1 * r1 + s2 * r2) = (s1 - r1) * (s1 - r1) + (s2 - r2) * (s2 - r2) := by grind
      omega
    generalize hDD : s1 * r1 + s2 * r2 = DD at *
    generalize hRR : r1 * r1 + r2 * r2 = RR at *
    generalize hSS : s1 * s1 + s2 * s2 = SS at *
    generalize x * s1 + y * s2 = F1 at *
    generalize x * r1 + y * r2 = F2 at *
    generalize x' * r1 + y' * r2 = F3 at *
    generalize x' * s1 + y' * s2 = F4 at *
    -- RR * F1 = DD * F2 > DD * F1, F1 < 0: RR < DD
    have m1 : RR < DD := by
      rcases Int.lt_or_le RR DD with h | h
      · exact h
      · exfalso
        have p1 : 0 < DD * (F2 - F1) := Int.mul_pos dp (by omega)
        have p2 : 0 ≤ (RR - DD) * (-F1) := Int.mul_nonneg (by omega) (by omega)
        rw [Int.mul_sub] at p1
        rw [Int.mul_neg, Int.sub_mul] at p2
        omega
    have m2 : SS < DD := by
      rcases Int.lt_or_le SS DD with h | h
      · exact h
      · exfalso
        have p1 : 0 < DD * (F4 - F3) := Int.mul_pos dp (by omega)
        have p2 : 0 ≤ (SS - DD) * (-F3) := Int.mul_nonneg (by omega) (by omega)
        rw [Int.mul_sub] at p1
        rw [Int.mul_neg, Int.sub_mul] at p2
        omega
    omega
