/-! what is HELD: folds over candidates, and the best of them by value -/
def ups (up : FR → Int → Int → FR) (o c : FR) : FR := match c with
  | none => o
  | some r => up o r.1 r.2
def cIn (up : FR → Int → Int → FR) (K : Nat → FR) : Nat → Nat → FR → FR
  | 0, _, o => o
  | d + 1, k, o => cIn up K d (k + 1) (ups up o (K k))
def cOu (up : FR → Int → Int → FR) (A : Nat → FR) (K : Nat → Nat → FR) (n : Nat) : Nat → Nat → FR → FR
  | 0, _, o => o
  | d + 1, i, o => cOu up A K n d (i + 1) (cIn up (K i) n 0 (ups up o (A i)))
def UpK (up : FR → Int → Int → FR) : Prop := ∀ o t b, FRk o → -8320000 ≤ t → t ≤ 8320000 → 1 ≤ b → b ≤ 400 → FRk (up o t b)
theorem upk_L : UpK upL := fun _ _ _ h a b c d => frk_upL h a b c d
theorem upk_G : UpK upG := fun _ _ _ h a b c d => frk_upG h a b c d
theorem frk_ups {up : FR → Int → Int → FR} (hu : UpK up) {o c : FR} (h1 : FRk o) (h2 : FRk c) : FRk (ups up o c) := by
  cases c with
  | none => exact h1
  | some r =>
    obtain ⟨⟨a, b⟩, x, y⟩ := h2 r rfl
    exact hu _ _ _ h1 a b x y
theorem frk_cIn {up : FR → Int → Int → FR} (hu : UpK up) {K : Nat → FR} : ∀ (d k : Nat) (o : FR), (∀ j, j < k + d → FRk (K j)) → FRk o → FRk (cIn up K d k o)
  | 0, _, _, _, h => h
  | d + 1, k, o, hK, h => frk_cIn hu d (k + 1) _ (fun j hj => hK j (by omega)) (frk_ups hu h (hK k (by omega)))
theorem frk_cOu {up : FR → Int → Int → FR} (hu : UpK up) {A : Nat → FR} {K : Nat → Nat → FR} {n : Nat} : ∀ (d i : Nat) (o : FR), (∀ j, j < i + d → FRk (A j) ∧ ∀ k, k < n → FRk (K j k)) → FRk o → FRk (cOu up A K n d i o)
  | 0, _, _, _, h => h
  | d + 1, i, o, hK, h => frk_cOu hu d (i + 1) _ (fun j hj => hK j (by omega)) (frk_cIn hu n 0 _ (fun k hk => (hK i (by omega)).2 k (by omega)) (frk_ups hu h (hK i (by omega)).1))
theorem cIn_none {up : FR → Int → Int → FR} {K : Nat → FR} (o : FR) : ∀ (d k : Nat), (∀ j, j < k + d → K j = none) → cIn up K d k o = o
  | 0, _, _ => rfl
  | d + 1, k, h => by
    show cIn up K d (k + 1) (ups up o (K k)) = o
    rw [h k (by omega)]
    exact cIn_none o d (k + 1) (fun j hj => h j (by omega))
/-- the best of a set by value: s = 1 the least, s = -1 the greatest -/
def Best (s : Int) (C : Int × Int → Prop) (o : FR) : Prop := match o with
  | none => ∀ r, ¬ C r
  | some q => C q ∧ ∀ r, C r → 0 ≤ s * (r.1 * q.2 - q.1 * r.2)
theorem Best.cg {s : Int} {C C' : Int × Int → Prop} {o : FR} (h : Best s C o) (e : ∀ r, C r ↔ C' r) : Best s C' o := by
  have : C = C' := funext fun r => propext (e r)
  rw [← this]; exact h
def UpB (s : Int) (up : FR → Int → Int → FR) : Prop := (∀ t b, up none t b = some (t, b)) ∧ ∀ (q : Int × Int) (t b : Int), (up (some q) t b = some (t, b) ∧ 0 ≤ s * (q.1 * b - t * q.2)) ∨ (up (some q) t b = some q ∧ 0 ≤ s * (t * q.2 - q.1 * b))
theorem upb_L : UpB 1 upL := ⟨fun _ _ => rfl, fun q t b => by
  show ((if t * q.2 < q.1 * b then some (t, b) else some q) = some (t, b) ∧ _) ∨ ((if t * q.2 < q.1 * b then some (t, b) else some q) = some q ∧ _)
  by_cases c : t * q.2 < q.1 * b
  · exact Or.inl ⟨if_pos c, by omega⟩
  · exact Or.inr ⟨if_neg c, by omega⟩⟩
theorem upb_G : UpB (-1) upG := ⟨fun _ _ => rfl, fun q t b => by
  show ((if q.1 * b < t * q.2 then some (t, b) else some q) = some (t, b) ∧ _) ∨ ((if q.1 * b < t * q.2 then some (t, b) else some q) = some q ∧ _)
  by_cases c : q.1 * b < t * q.2
  · exact Or.inl ⟨if_pos c, by omega⟩
  · exact Or.inr ⟨if_neg c, by omega⟩⟩
def Pos (C : Int × Int → Prop) : Prop := ∀ r, C r → 1 ≤ r.2
theorem nn_of {a x : Int} (ha : 1 ≤ a) (h : 0 ≤ a * x) : 0 ≤ x := by
  rcases Int.lt_or_le x 0 with c | c
  · have := Int.mul_neg_of_pos_of_neg (show 0 < a by omega) c
    omega
  · exact c
theorem best_up {s : Int} {up : FR → Int → Int → FR} (hu : UpB s up) {C : Int × Int → Prop} {o : FR} (hC : Pos C) (h : Best s C o) {r0 : Int × Int} (hr : 1 ≤ r0.2) : Best s (fun r => C r ∨ r = r0) (up o r0.1 r0.2) := by
  cases o with
  | none =>
    rw [hu.1]
    refine ⟨Or.inr rfl, fun r z => ?_⟩
    rcases z with z | rfl
    · exact absurd z (h r)
    · rw [Int.sub_self, Int.mul_zero]; exact Int.le_refl 0
  | some q =>
    obtain ⟨hq, hm⟩ := h
    rcases hu.2 q r0.1 r0.2 with ⟨e, le⟩ | ⟨e, le⟩
    · rw [e]
      refine ⟨Or.inr rfl, fun r z => ?_⟩
      rcases z with z | rfl
      · have q1 := hC q hq
        have q2 := hm r z
        have q3 := hC r z
        refine nn_of q1 ?_
        have e1 : q.2 * (s * (r.1 * r0.2 - r0.1 * r.2)) = r0.2 * (s * (r.1 * q.2 - q.1 * r.2)) + r.2 * (s * (q.1 * r0.2 - r0.1 * q.2)) := by grind
        have p1 : 0 ≤ r0.2 * (s * (r.1 * q.2 - q.1 * r.2)) := Int.mul_nonneg (by omega) q2
        have p2 : 0 ≤ r.2 * (s * (q.1 * r0.2 - r0.1 * q.2)) := Int.mul_nonneg (by omega) le
        show 0 ≤ q.2 * (s * (r.1 * r0.2 - r0.1 * r.2))
        rw [e1]; omega
      · show 0 ≤ s * (r.1 * r.2 - r.1 * r.2)
        rw [Int.sub_self, Int.mul_zero]; exact Int.le_refl 0
    · rw [e]
      refine ⟨Or.inl hq, fun r z => ?_⟩
      rcases z with z | rfl
      · exact hm r z
      · exact le
theorem best_ups {s : Int} {up : FR → Int → Int → FR} (hu : UpB s up) {C : Int × Int → Prop} {o c : FR} (hC : Pos C) (h : Best s C o) (hc : FRk c) : Best s (fun r => C r ∨ c = some r) (ups up o c) := by
  cases c with
  | none => exact h.cg (fun r => ⟨Or.inl, fun z => z.elim id (fun y => nomatch y)⟩)
  | some r0 => exact (best_up hu hC h (hc r0 rfl).2.1).cg (fun r => or_congr Iff.rfl ⟨fun e => by rw [e], fun e => by cases e; rfl⟩)
theorem pos_or {C : Int × Int → Prop} {c : FR} (hC : Pos C) (hc : FRk c) : Pos (fun r => C r ∨ c = some r) := fun r z => z.elim (hC r) (fun y => (hc r y).2.1)
theorem best_cIn {s : Int} {up : FR → Int → Int → FR} (hu : UpB s up) {K : Nat → FR} : ∀ (d k : Nat) (o : FR) (C : Int × Int → Prop), (∀ j, j < k + d → FRk (K j)) → Pos C → Best s C o → Best s (fun r => C r ∨ ∃ j, k ≤ j ∧ j < k + d ∧ K j = some r) (cIn up K d k o)
  | 0, k, o, C, _, _, h => h.cg (fun r => ⟨Or.inl, fun z => z.elim id (fun ⟨j, a, b, _⟩ => by omega)⟩)
  | d + 1, k, o, C, hK, hC, h => by
    refine (best_cIn hu d (k + 1) _ _ (fun j hj => hK j (by omega)) (pos_or hC (hK k (by omega))) (best_ups hu hC h (hK k (by omega)))).cg (fun r => ?_)
    constructor
    · rintro ((z | z) | ⟨j, a, b, z⟩)
      · exact Or.inl z
      · exact Or.inr ⟨k, by omega, by omega, z⟩
      · exact Or.inr ⟨j, by omega, by omega, z⟩
    · rintro (z | ⟨j, a, b, z⟩)
      · exact Or.inl (Or.inl z)
      · by_cases e : j = k
        · subst e; exact Or.inl (Or.inr z)
        · exact Or.inr ⟨j, by omega, by omega, z⟩
def cAK (A : Nat → FR) (K : Nat → Nat → FR) (n i : Nat) (r : Int × Int) : Prop := A i = some r ∨ ∃ k, k < n ∧ K i k = some r
theorem best_cOu {s : Int} {up : FR → Int → Int → FR} (hu : UpB s up) {A : Nat → FR} {K : Nat → Nat → FR} {n : Nat} : ∀ (d i : Nat) (o : FR) (C : Int × Int → Prop), (∀ j, j < i + d → FRk (A j) ∧ ∀ k, k < n → FRk (K j k)) → Pos C → Best s C o → Best s (fun r => C r ∨ ∃ j, i ≤ j ∧ j < i + d ∧ cAK A K n j r) (cOu up A K n d i o)
  | 0, k, o, C, _, _, h => h.cg (fun r => ⟨Or.inl, fun z => z.elim id (fun ⟨j, a, b, _⟩ => by omega)⟩)
  | d + 1, i, o, C, hK, hC, h => by
    have b1 := best_ups hu hC h (hK i (by omega)).1
    have p1 := pos_or hC (hK i (by omega)).1
    have b2 := best_cIn hu n 0 _ _ (fun k hk => (hK i (by omega)).2 k (by omega)) p1 b1
    have p2 : Pos (fun r => (C r ∨ A i = some r) ∨ ∃ j, 0 ≤ j ∧ j < 0 + n ∧ K i j = some r) := fun r z => z.elim (p1 r) (fun ⟨j, _, b, y⟩ => ((hK i (by omega)).2 j (by omega) r y).2.1)
    refine (best_cOu hu d (i + 1) _ _ (fun j hj => hK j (by omega)) p2 b2).cg (fun r => ?_)
    constructor
    · rintro (((z | z) | ⟨j, a, b, z⟩) | ⟨j, a, b, z⟩)
      · exact Or.inl z
      · exact Or.inr ⟨i, by omega, by omega, Or.inl z⟩
      · exact Or.inr ⟨i, by omega, by omega, Or.inr ⟨j, by omega, z⟩⟩
      · exact Or.inr ⟨j, by omega, by omega, z⟩
    · rintro (z | ⟨j, a, b, z⟩)
      · exact Or.inl (Or.inl (Or.inl z))
      · by_cases e : j = i
        · subst e
          rcases z with z | ⟨k, c, z⟩
          · exact Or.inl (Or.inl (Or.inr z))
          · exact Or.inl (Or.inr ⟨k, by omega, by omega, z⟩)
        · exact Or.inr ⟨j, by omega, by omega, z⟩
/-- the same value -/
def SV (o o' : FR) : Prop := (o = none ∧ o' = none) ∨ ∃ q q', o = some q ∧ o' = some q' ∧ q.1 * q'.2 = q'.1 * q.2
theorem best_ge {s : Int} {C C' : Int × Int → Prop} {q q' : Int × Int} (hC : Pos C) (hC' : Pos C') (h : C q) (h' : Best s C' (some q')) (e : ∀ r, C r → ∃ r', C' r' ∧ r.1 * r'.2 = r'.1 * r.2) : 0 ≤ s * (q.1 * q'.2 - q'.1 * q.2) := by
  obtain ⟨r, hr, e1⟩ := e q h
  have p1 := hC q h
  have p2 := hC' r hr
  have p3 := hC' q' h'.1
  have g := h'.2 r hr
  refine nn_of p2 ?_
  have e2 : r.2 * (s * (q.1 * q'.2 - q'.1 * q.2)) = q.2 * (s * (r.1 * q'.2 - q'.1 * r.2)) := by
    have : r.2 * (s * (q.1 * q'.2 - q'.1 * q.2)) = s * ((q.1 * r.2) * q'.2 - q'.1 * q.2 * r.2) := by grind
    rw [this, e1]; grind
  rw [e2]
  exact Int.mul_nonneg (by omega) g
theorem best_sv {s : Int} (hs : s = 1 ∨ s = -1) {C C' : Int × Int → Prop} {o o' : FR} (hC : Pos C) (hC' : Pos C') (h : Best s C o) (h' : Best s C' o') (e : ∀ r, C r → ∃ r', C' r' ∧ r.1 * r'.2 = r'.1 * r.2) (e' : ∀ r, C' r → ∃ r', C r' ∧ r.1 * r'.2 = r'.1 * r.2) : SV o o' := by
  cases o with
  | none =>
    cases o' with
    | none => exact Or.inl ⟨rfl, rfl⟩
    | some q' =>
      obtain ⟨r, hr, _⟩ := e' q' h'.1
      exact absurd hr (h r)
  | some q =>
    cases o' with
    | none =>
      obtain ⟨r, hr, _⟩ := e q h.1
      exact absurd hr (h' r)
    | some q' =>
      refine Or.inr ⟨q, q', rfl, rfl, ?_⟩
      have g1 := best_ge hC hC' h.1 h' e
      have g2 := best_ge hC' hC h'.1 h e'
      rcases hs with rfl | rfl <;> omega
/-! the candidates on both sides -/
def hcN (T : TS) (f : TS → Nat → Int) (h : Int) (i k : Nat) : Int × Int := (f T i * (tH T k - h) + f T k * (h - tH T i), tH T k - tH T i)
def xA (T : TS) (f : TS → Nat → Int) (h : Int) (i : Nat) : FR := if tM T i = false ∧ tH T i = h then some (f T i, 1) else none
def xK (T : TS) (f : TS → Nat → Int) (h : Int) (i k : Nat) : FR := if (tM T i = false ∧ tH T i ≤ h) ∧ (tM T k = false ∧ h < tH T k) then some (hcN T f h i k) else none
def mK (T : TS) (f : TS → Nat → Int) (h : Int) (i k : Nat) : FR := if (tM T i = false ∧ tM T k = false) ∧ (tH T i ≤ h ∧ h ≤ tH T k) then (if tH T k = tH T i then some (f T i, 1) else some (hcN T f h i k)) else none
def mA (_ : Nat) : FR := none
theorem hcN_b {T : TS} {f : TS → Nat → Int} (hO : Ok T) (hf : bds T f) {h : Int} {i k : Nat} (hi : i < tN T) (hk : k < tN T) (c1 : tH T i ≤ h) (c2 : h ≤ tH T k) (c3 : tH T k ≠ tH T i) : (-8320000 ≤ (hcN T f h i k).1 ∧ (hcN T f h i k).1 ≤ 8320000) ∧ (1 ≤ (hcN T f h i k).2 ∧ (hcN T f h i k).2 ≤ 400) := by
  have oi := (hO.2.2.1 i hi).1
  have ok := (hO.2.2.1 k hk).1
  have b1 := hf i hi
  have b2 := hf k hk
  have l := ln_b (a := f T i) (b := f T k) (x := tH T k - h) (y := h - tH T i) (by omega) (by omega) (by omega) (by omega) (by omega) (by omega) (by omega) (by omega)
  unfold hcN
  refine ⟨l.1, ?_, ?_⟩
  · show 1 ≤ tH T k - tH T i; omega
  · show tH T k - tH T i ≤ 400; omega
theorem frk_1 {t : Int} (h1 : -10400 ≤ t) (h2 : t ≤ 10400) : FRk (some (t, 1)) := fun q e => by
  cases e
  exact ⟨⟨by show -8320000 ≤ t; omega, by show t ≤ 8320000; omega⟩, by show (1 : Int) ≤ 1; omega, by show (1 : Int) ≤ 400; omega⟩
theorem frk_xA {T : TS} {f : TS → Nat → Int} (hf : bds T f) {h : Int} {i : Nat} (hi : i < tN T) : FRk (xA T f h i) := by
  unfold xA
  split
  · exact frk_1 (hf i hi).1 (hf i hi).2
  · exact frk_0
theorem frk_s {q : Int × Int} (h : (-8320000 ≤ q.1 ∧ q.1 ≤ 8320000) ∧ (1 ≤ q.2 ∧ q.2 ≤ 400)) : FRk (some q) := fun r e => by cases e; exact h
theorem frk_xK {T : TS} {f : TS → Nat → Int} (hO : Ok T) (hf : bds T f) {h : Int} {i k : Nat} (hi : i < tN T) (hk : k < tN T) : FRk (xK T f h i k) := by
  unfold xK
  split
  · rename_i c
    exact frk_s (hcN_b hO hf hi hk c.1.2 (by omega) (by omega))
  · exact frk_0
theorem frk_mK {T : TS} {f : TS → Nat → Int} (hO : Ok T) (hf : bds T f) {h : Int} {i k : Nat} (hi : i < tN T) (hk : k < tN T) : FRk (mK T f h i k) := by
  unfold mK
  split
  · rename_i c
    split
    · exact frk_1 (hf i hi).1 (hf i hi).2
    · rename_i c2
      exact frk_s (hcN_b hO hf hi hk c.2.1 c.2.2 c2)
  · exact frk_0
def hx (up : FR → Int → Int → FR) (T : TS) (f : TS → Nat → Int) (h : Int) : FR := cOu up (xA T f h) (xK T f h) (tN T) (tN T) 0 none
def hm (up : FR → Int → Int → FR) (T : TS) (f : TS → Nat → Int) (h : Int) : FR := cOu up mA (mK T f h) (tN T) (tN T) 0 none
def xC (T : TS) (f : TS → Nat → Int) (h : Int) (r : Int × Int) : Prop := ∃ i, i < tN T ∧ cAK (xA T f h) (xK T f h) (tN T) i r
def mC (T : TS) (f : TS → Nat → Int) (h : Int) (r : Int × Int) : Prop := ∃ i k, i < tN T ∧ k < tN T ∧ mK T f h i k = some r
theorem hx_k {up : FR → Int → Int → FR} (hu : UpK up) {T : TS} {f : TS → Nat → Int} (hO : Ok T) (hf : bds T f) (h : Int) : FRk (hx up T f h) := frk_cOu hu _ _ _ (fun j hj => ⟨frk_xA hf (by omega), fun k hk => frk_xK hO hf (by omega) hk⟩) frk_0
theorem hm_k {up : FR → Int → Int → FR} (hu : UpK up) {T : TS} {f : TS → Nat → Int} (hO : Ok T) (hf : bds T f) (h : Int) : FRk (hm up T f h) := frk_cOu hu _ _ _ (fun j hj => ⟨frk_0, fun k hk => frk_mK hO hf (by omega) hk⟩) frk_0
theorem hx_best {s : Int} {up : FR → Int → Int → FR} (hu : UpB s up) {T : TS} {f : TS → Nat → Int} (hO : Ok T) (hf : bds T f) (h : Int) : Best s (xC T f h) (hx up T f h) := by
  refine (best_cOu hu (tN T) 0 none (fun _ => False) (fun j hj => ⟨frk_xA hf (by omega), fun k hk => frk_xK hO hf (by omega) hk⟩) (fun r z => z.elim) (fun r z => z)).cg (fun r => ?_)
  constructor
  · rintro (z | ⟨j, a, b, z⟩)
    · exact z.elim
    · exact ⟨j, by omega, z⟩
  · rintro ⟨j, b, z⟩
    exact Or.inr ⟨j, by omega, by omega, z⟩
theorem hm_best {s : Int} {up : FR → Int → Int → FR} (hu : UpB s up) {T : TS} {f : TS → Nat → Int} (hO : Ok T) (hf : bds T f) (h : Int) : Best s (mC T f h) (hm up T f h) := by
  refine (best_cOu hu (tN T) 0 none (fun _ => False) (fun j hj => ⟨frk_0, fun k hk => frk_mK hO hf (by omega) hk⟩) (fun r z => z.elim) (fun r z => z)).cg (fun r => ?_)
  constructor
  · rintro (z | ⟨j, a, b, z | ⟨k, c, z⟩⟩)
    · exact z.elim
    · cases z
    · exact ⟨j, k, by omega, c, z⟩
  · rintro ⟨j, k, b, c, z⟩
    exact Or.inr ⟨j, by omega, by omega, Or.inr ⟨k, c, z⟩⟩
theorem xC_pos {T : TS} {f : TS → Nat → Int} (hO : Ok T) (hf : bds T f) (h : Int) : Pos (xC T f h) := by
  rintro r ⟨i, hi, z | ⟨k, hk, z⟩⟩
  · exact (frk_xA hf hi r z).2.1
  · exact (frk_xK hO hf hi hk r z).2.1
theorem mC_pos {T : TS} {f : TS → Nat → Int} (hO : Ok T) (hf : bds T f) (h : Int) : Pos (mC T f h) := by
  rintro r ⟨i, k, hi, hk, z⟩
  exact (frk_mK hO hf hi hk r z).2.1
theorem h_sv {s : Int} (hs : s = 1 ∨ s = -1) {up : FR → Int → Int → FR} (hu : UpB s up) {T : TS} {f : TS → Nat → Int} (hO : Ok T) (hf : bds T f) (h : Int) : SV (hx up T f h) (hm up T f h) := by
  refine best_sv hs (xC_pos hO hf h) (mC_pos hO hf h) (hx_best hu hO hf h) (hm_best hu hO hf h) ?_ ?_
  · rintro r ⟨i, hi, z | ⟨k, hk, z⟩⟩
    · unfold xA at z
      split at z
      · rename_i c
        refine ⟨r, ⟨i, i, hi, hi, ?_⟩, rfl⟩
        unfold mK
        rw [if_pos ⟨⟨c.1, c.1⟩, by omega, by omega⟩, if_pos rfl]
        exact z
      · cases z
    · unfold xK at z
      split at z
      · rename_i c
        refine ⟨r, ⟨i, k, hi, hk, ?_⟩, rfl⟩
        unfold mK
        rw [if_pos ⟨⟨c.1.1, c.2.1⟩, by omega, by omega⟩, if_neg (by omega)]
        exact z
      · cases z
  · rintro r ⟨i, k, hi, hk, z⟩
    unfold mK at z
    split at z
    · rename_i c
      split at z
      · rename_i c2
        refine ⟨r, ⟨i, hi, Or.inl ?_⟩, rfl⟩
        unfold xA
        rw [if_pos ⟨c.1.1, by omega⟩]
        exact z
      · rename_i c2
        by_cases c3 : h < tH T k
        · refine ⟨r, ⟨i, hi, Or.inr ⟨k, hk, ?_⟩⟩, rfl⟩
          unfold xK
          rw [if_pos ⟨⟨c.1.1, c.2.1⟩, c.1.2, c3⟩]
          exact z
        · refine ⟨(f T k, 1), ⟨k, hk, Or.inl ?_⟩, ?_⟩
          · unfold xA
            rw [if_pos ⟨c.1.2, by omega⟩]
          · cases z
            show (f T i * (tH T k - h) + f T k * (h - tH T i)) * 1 = f T k * (tH T k - tH T i)
            rw [show h = tH T k by omega]
            grind
    · cases z
theorem best_none {s : Int} {C : Int × Int → Prop} {o : FR} (h : Best s C o) : o = none ↔ ∀ r, ¬ C r := by
  cases o with
  | none => exact ⟨fun _ => h, fun _ => rfl⟩
  | some q => exact ⟨fun z => (nomatch z), fun z => absurd h.1 (z q)⟩
theorem hm_none {s s' : Int} {up up' : FR → Int → Int → FR} (hu : UpB s up) (hu' : UpB s' up') {T : TS} {f f' : TS → Nat → Int} (hO : Ok T) (hf : bds T f) (hf' : bds T f') (h : Int) : hm up T f h = none → hm up' T f' h = none := by
  rw [best_none (hm_best hu hO hf h), best_none (hm_best hu' hO hf' h)]
  rintro z r ⟨i, k, hi, hk, e⟩
  unfold mK at e
  split at e
  · rename_i c
    have : ∃ r', mK T f h i k = some r' := by
      unfold mK
      rw [if_pos c]
      split
      · exact ⟨_, rfl⟩
      · exact ⟨_, rfl⟩
    obtain ⟨r', e'⟩ := this
    exact z r' ⟨i, k, hi, hk, e'⟩
  · cases e
theorem x_hin_18 {T : TS} {σ0 : Sg} (hO : Ok T) (hR : RX T σ0) {N : Nat} {h : Int} (h1 : -200 ≤ h) (h2 : h ≤ 200) {i : Nat} (hi : i < tN T) (hM : tM T i = false) (hH : tH T i ≤ h) (kc : Int32 → Int32 → Int32 → Sg → Option Sg) : ∀ (m k : Nat) (σ : Sg) (o : FR), k ≤ tN T → tN T - k < m → FP 18 σ0 σ → BX 18 (1) o σ → FRk o → ∃ σ', f_sp_hold_18_c67 N kc m (iI h) 0 (nI i) (nI k) σ = kc (iI h) 0 (nI (i + 1)) σ' ∧ FP 18 σ0 σ' ∧ BX 18 (1) (cIn upL (xK T li h i) (tN T - k) k o) σ' := by
  have h8 := hO.1
  intro m
  induction m with
  | zero => intro k σ o h1 h2; omega
  | succ m ih =>
    intro k σ o hk hm hF hB ho
    have hX := hF.rx (by decide) hR
    show ∃ σ', f_sp_hold_18_c67_s N kc (f_sp_hold_18_c67 N kc m) (iI h) 0 (nI i) (nI k) σ = kc (iI h) 0 (nI (i + 1)) σ' ∧ _
    unfold f_sp_hold_18_c67_s
    have q0 : nI (tN T) ≤ nI k ↔ tN T ≤ k := nI_leI (by omega) (by omega)
    simp only [hX.1, q0, nI_1]
    by_cases c0 : tN T ≤ k
    · rw [if_pos c0, show tN T - k = 0 by omega]
      exact ⟨σ, rfl, hF, hB⟩
    · rw [if_neg c0]
      have hk' : k < tN T := by omega
      have i1 : ib (nI k) 8 := (ib_nI (by omega)).mpr (by omega)
      have i2 : ib (nI i) 8 := (ib_nI (by omega)).mpr (by omega)
      have oi := (hO.2.2.1 i hi).1
      have ok := (hO.2.2.1 k hk').1
      have q1 : iI (tH T k) ≤ iI h ↔ tH T k ≤ h := iI_le (by omega) (by omega) (by omega) (by omega)
      simp only [if_pos i1, if_pos i2, nI_clamp (show k < 2 ^ 31 by omega), nI_clamp (show i < 2 ^ 31 by omega), (hX.2.2 k hk').2.1, (hX.2.2 k hk').1, (hX.2.2 i hi).1, b01_0, q1]
      rw [show tN T - k = (tN T - (k + 1)) + 1 by omega]
      show ∃ σ', _ ∧ _ ∧ BX 18 (1) (cIn upL (xK T li h i) (tN T - (k + 1)) (k + 1) (ups upL o (xK T li h i k))) σ'
      by_cases c1 : tM T k = false
      · rw [if_pos c1]
        by_cases c2 : tH T k ≤ h
        · rw [if_pos c2]
          have e : xK T li h i k = none := by unfold xK; rw [if_neg (by omega)]
          rw [e]
          exact ih (k + 1) σ o (by omega) (by omega) hF hB ho
        · rw [if_neg c2, (x_inner hO hX hi).1, bind_some, (x_inner hO hX hk').1, bind_some]
          have e : xK T li h i k = some (hcN T li h i k) := by unfold xK; rw [if_pos ⟨⟨hM, hH⟩, c1, by omega⟩]
          rw [e]
          have b := hcN_b hO (bds_li hO) hi hk' hH (by omega) (by omega)
          rw [iI_sub, iI_sub, iI_mul, iI_mul, iI_add, iI_add]
          have et : li T i * (tH T k - h) + li T k * (h - tH T i) = 1 * (hcN T li h i k).1 := by
            show _ = 1 * (li T i * (tH T k - h) + li T k * (h - tH T i))
            grind
          have eb : tH T k - h + (h - tH T i) = (hcN T li h i k).2 := by
            show _ = tH T k - tH T i
            omega
          rw [et, eb, iI_L (by omega) (by omega), iI_L (by omega) (by omega), nm_eq]
          obtain ⟨B1, F1⟩ := lower_18 hB ho b.1.1 b.1.2 b.2.1 b.2.2
          exact ih (k + 1) _ _ (by omega) (by omega) (hF.tr F1) B1 (frk_upL ho b.1.1 b.1.2 b.2.1 b.2.2)
      · rw [if_neg c1]
        have e : xK T li h i k = none := by unfold xK; rw [if_neg (fun z => c1 z.2.1)]
        rw [e]
        exact ih (k + 1) σ o (by omega) (by omega) hF hB ho
theorem x_hou_18 {T : TS} {σ0 : Sg} (hO : Ok T) (hR : RX T σ0) {N : Nat} (hN : 600 ≤ N) {h : Int} (h1 : -200 ≤ h) (h2 : h ≤ 200) : ∀ (m i : Nat) (σ : Sg) (o : FR), i ≤ tN T → tN T - i < m → FP 18 σ0 σ → BX 18 (1) o σ → FRk o → ∃ σ', f_sp_hold_18_c7 N m (iI h) 0 (nI i) σ = some σ' ∧ FP 18 σ0 σ' ∧ BX 18 (1) (cOu upL (xA T li h) (xK T li h) (tN T) (tN T - i) i o) σ' := by
  have h8 := hO.1
  intro m
  induction m with
  | zero => intro k σ o h1 h2; omega
  | succ m ih =>
    intro i σ o hi hm hF hB ho
    have hX := hF.rx (by decide) hR
    show ∃ σ', f_sp_hold_18_c7_s N (f_sp_hold_18_c7 N m) (iI h) 0 (nI i) σ = some σ' ∧ _
    unfold f_sp_hold_18_c7_s
    have q0 : nI (tN T) ≤ nI i ↔ tN T ≤ i := nI_leI (by omega) (by omega)
    simp only [hX.1, q0, nI_1]
    by_cases c0 : tN T ≤ i
    · rw [if_pos c0, show tN T - i = 0 by omega]
      exact ⟨σ, rfl, hF, hB⟩
    · rw [if_neg c0]
      have hi' : i < tN T := by omega
      have i2 : ib (nI i) 8 := (ib_nI (by omega)).mpr (by omega)
      have oi := (hO.2.2.1 i hi').1
      have bo := bds_li hO i hi'
      have q1 : iI (tH T i) = iI h ↔ tH T i = h := iI_eq (by omega) (by omega) (by omega) (by omega)
      have q2 : iI (tH T i) ≤ iI h ↔ tH T i ≤ h := iI_le (by omega) (by omega) (by omega) (by omega)
      simp only [if_pos i2, nI_clamp (show i < 2 ^ 31 by omega), (hX.2.2 i hi').2.1, (hX.2.2 i hi').1, b01_0, q1, q2]
      rw [show tN T - i = (tN T - (i + 1)) + 1 by omega]
      show ∃ σ', _ ∧ _ ∧ BX 18 (1) (cOu upL (xA T li h) (xK T li h) (tN T) (tN T - (i + 1)) (i + 1) (cIn upL (xK T li h i) (tN T) 0 (ups upL o (xA T li h i)))) σ'
      have skip : ¬ (tM T i = false ∧ tH T i ≤ h) → cIn upL (xK T li h i) (tN T) 0 (ups upL o (xA T li h i)) = o := fun c => by
        have e1 : xA T li h i = none := by unfold xA; rw [if_neg (fun z => c ⟨z.1, by omega⟩)]
        rw [e1]
        exact cIn_none _ _ _ (fun j _ => by unfold xK; rw [if_neg (fun z => c z.1)])
      by_cases c1 : tM T i = false
      · rw [if_pos c1]
        by_cases c3 : tH T i ≤ h
        · rw [if_pos c3]
          have fin : ∀ (σ1 : Sg) (o1 : FR), FP 18 σ0 σ1 → BX 18 (1) o1 σ1 → FRk o1 → ∃ σ', f_sp_hold_18_c67 N (f_sp_hold_18_c7 N m) N (iI h) 0 (nI i) 0 σ1 = some σ' ∧ FP 18 σ0 σ' ∧ BX 18 (1) (cOu upL (xA T li h) (xK T li h) (tN T) (tN T - (i + 1)) (i + 1) (cIn upL (xK T li h i) (tN T) 0 o1)) σ' := fun σ1 o1 F1 B1 k1 => by
            obtain ⟨σ2, e2, F2, B2⟩ := x_hin_18 hO hR h1 h2 hi' c1 c3 (f_sp_hold_18_c7 N m) N 0 σ1 o1 (by omega) (by omega) F1 B1 k1
            rw [show f_sp_hold_18_c67 N (f_sp_hold_18_c7 N m) N (iI h) 0 (nI i) 0 σ1 = f_sp_hold_18_c67 N (f_sp_hold_18_c7 N m) N (iI h) 0 (nI i) (nI 0) σ1 from rfl, e2]
            rw [Nat.sub_zero] at B2
            exact ih (i + 1) σ2 _ (by omega) (by omega) F2 B2 (frk_cIn upk_L (tN T) 0 o1 (fun j hj => frk_xK hO (bds_li hO) hi' (by omega)) k1)
          by_cases c2 : tH T i = h
          · rw [if_pos c2, (x_inner hO hX hi').1, bind_some, iI_L (by omega) (by omega), nm_eq]
            have e : xA T li h i = some (li T i, 1) := by unfold xA; rw [if_pos ⟨c1, c2⟩]
            rw [e]
            obtain ⟨B1, F1⟩ := lower_18 (t := li T i) (b := 1) hB ho (by omega) (by omega) (by omega) (by omega)
            rw [show 1 * li T i = li T i by omega] at B1 F1
            exact fin _ _ (hF.tr F1) B1 (frk_upL ho (by omega) (by omega) (by omega) (by omega))
          · rw [if_neg c2]
            have e : xA T li h i = none := by unfold xA; rw [if_neg (fun z => c2 z.2)]
            rw [e]
            exact fin σ o hF hB ho
        · rw [if_neg c3, skip (fun z => c3 z.2)]
          exact ih (i + 1) σ o (by omega) (by omega) hF hB ho
      · rw [if_neg c1, skip (fun z => c1 z.1)]
        exact ih (i + 1) σ o (by omega) (by omega) hF hB ho
theorem x_hold_18 {T : TS} {σ : Sg} (hO : Ok T) (hR : RX T σ) {N : Nat} (hN : 600 ≤ N) {h : Int} (h1 : -200 ≤ h) (h2 : h ≤ 200) : ∃ σ', f_sp_hold_18 N σ (iI h) 0 = some σ' ∧ FP 18 σ σ' ∧ BX 18 (1) (hx upL T li h) σ' := by
  have h8 := hO.1
  unfold f_sp_hold_18
  obtain ⟨B0, F0'⟩ := rel_18 σ
  rw [nm_eq]
  exact x_hou_18 hO hR hN h1 h2 N 0 _ none (by omega) (by omega) F0' B0 frk_0
theorem x_hin_19 {T : TS} {σ0 : Sg} (hO : Ok T) (hR : RX T σ0) {N : Nat} {h : Int} (h1 : -200 ≤ h) (h2 : h ≤ 200) {i : Nat} (hi : i < tN T) (hM : tM T i = false) (hH : tH T i ≤ h) (kc : Int32 → Int32 → Int32 → Sg → Option Sg) : ∀ (m k : Nat) (σ : Sg) (o : FR), k ≤ tN T → tN T - k < m → FP 19 σ0 σ → BX 19 (-1) o σ → FRk o → ∃ σ', f_sp_hold_19_c67 N kc m (iI h) 1 (nI i) (nI k) σ = kc (iI h) 1 (nI (i + 1)) σ' ∧ FP 19 σ0 σ' ∧ BX 19 (-1) (cIn upG (xK T ri h i) (tN T - k) k o) σ' := by
  have h8 := hO.1
  intro m
  induction m with
  | zero => intro k σ o h1 h2; omega
  | succ m ih =>
    intro k σ o hk hm hF hB ho
    have hX := hF.rx (by decide) hR
    show ∃ σ', f_sp_hold_19_c67_s N kc (f_sp_hold_19_c67 N kc m) (iI h) 1 (nI i) (nI k) σ = kc (iI h) 1 (nI (i + 1)) σ' ∧ _
    unfold f_sp_hold_19_c67_s
    have q0 : nI (tN T) ≤ nI k ↔ tN T ≤ k := nI_leI (by omega) (by omega)
    simp only [hX.1, q0, nI_1]
    by_cases c0 : tN T ≤ k
    · rw [if_pos c0, show tN T - k = 0 by omega]
      exact ⟨σ, rfl, hF, hB⟩
    · rw [if_neg c0]
      have hk' : k < tN T := by omega
      have i1 : ib (nI k) 8 := (ib_nI (by omega)).mpr (by omega)
      have i2 : ib (nI i) 8 := (ib_nI (by omega)).mpr (by omega)
      have oi := (hO.2.2.1 i hi).1
      have ok := (hO.2.2.1 k hk').1
      have q1 : iI (tH T k) ≤ iI h ↔ tH T k ≤ h := iI_le (by omega) (by omega) (by omega) (by omega)
      simp only [if_pos i1, if_pos i2, nI_clamp (show k < 2 ^ 31 by omega), nI_clamp (show i < 2 ^ 31 by omega), (hX.2.2 k hk').2.1, (hX.2.2 k hk').1, (hX.2.2 i hi).1, b01_0, q1]
      rw [show tN T - k = (tN T - (k + 1)) + 1 by omega]
      show ∃ σ', _ ∧ _ ∧ BX 19 (-1) (cIn upG (xK T ri h i) (tN T - (k + 1)) (k + 1) (ups upG o (xK T ri h i k))) σ'
      by_cases c1 : tM T k = false
      · rw [if_pos c1]
        by_cases c2 : tH T k ≤ h
        · rw [if_pos c2]
          have e : xK T ri h i k = none := by unfold xK; rw [if_neg (by omega)]
          rw [e]
          exact ih (k + 1) σ o (by omega) (by omega) hF hB ho
        · rw [if_neg c2, (x_inner hO hX hi).2, bind_some, (x_inner hO hX hk').2, bind_some]
          have e : xK T ri h i k = some (hcN T ri h i k) := by unfold xK; rw [if_pos ⟨⟨hM, hH⟩, c1, by omega⟩]
          rw [e]
          have b := hcN_b hO (bds_ri hO) hi hk' hH (by omega) (by omega)
          rw [iI_sub, iI_sub, iI_mul, iI_mul, iI_add, iI_add]
          have et : -(ri T i) * (tH T k - h) + -(ri T k) * (h - tH T i) = -1 * (hcN T ri h i k).1 := by
            show _ = -1 * (ri T i * (tH T k - h) + ri T k * (h - tH T i))
            grind
          have eb : tH T k - h + (h - tH T i) = (hcN T ri h i k).2 := by
            show _ = tH T k - tH T i
            omega
          rw [et, eb, iI_L (by omega) (by omega), iI_L (by omega) (by omega), nm_eq]
          obtain ⟨B1, F1⟩ := lower_19 hB ho b.1.1 b.1.2 b.2.1 b.2.2
          exact ih (k + 1) _ _ (by omega) (by omega) (hF.tr F1) B1 (frk_upG ho b.1.1 b.1.2 b.2.1 b.2.2)
      · rw [if_neg c1]
        have e : xK T ri h i k = none := by unfold xK; rw [if_neg (fun z => c1 z.2.1)]
        rw [e]
        exact ih (k + 1) σ o (by omega) (by omega) hF hB ho
theorem x_hou_19 {T : TS} {σ0 : Sg} (hO : Ok T) (hR : RX T σ0) {N : Nat} (hN : 600 ≤ N) {h : Int} (h1 : -200 ≤ h) (h2 : h ≤ 200) : ∀ (m i : Nat) (σ : Sg) (o : FR), i ≤ tN T → tN T - i < m → FP 19 σ0 σ → BX 19 (-1) o σ → FRk o → ∃ σ', f_sp_hold_19_c7 N m (iI h) 1 (nI i) σ = some σ' ∧ FP 19 σ0 σ' ∧ BX 19 (-1) (cOu upG (xA T ri h) (xK T ri h) (tN T) (tN T - i) i o) σ' := by
  have h8 := hO.1
  intro m
  induction m with
  | zero => intro k σ o h1 h2; omega
  | succ m ih =>
    intro i σ o hi hm hF hB ho
    have hX := hF.rx (by decide) hR
    show ∃ σ', f_sp_hold_19_c7_s N (f_sp_hold_19_c7 N m) (iI h) 1 (nI i) σ = some σ' ∧ _
    unfold f_sp_hold_19_c7_s
    have q0 : nI (tN T) ≤ nI i ↔ tN T ≤ i := nI_leI (by omega) (by omega)
    simp only [hX.1, q0, nI_1]
    by_cases c0 : tN T ≤ i
    · rw [if_pos c0, show tN T - i = 0 by omega]
      exact ⟨σ, rfl, hF, hB⟩
    · rw [if_neg c0]
      have hi' : i < tN T := by omega
      have i2 : ib (nI i) 8 := (ib_nI (by omega)).mpr (by omega)
      have oi := (hO.2.2.1 i hi').1
      have bo := bds_ri hO i hi'
      have q1 : iI (tH T i) = iI h ↔ tH T i = h := iI_eq (by omega) (by omega) (by omega) (by omega)
      have q2 : iI (tH T i) ≤ iI h ↔ tH T i ≤ h := iI_le (by omega) (by omega) (by omega) (by omega)
      simp only [if_pos i2, nI_clamp (show i < 2 ^ 31 by omega), (hX.2.2 i hi').2.1, (hX.2.2 i hi').1, b01_0, q1, q2]
      rw [show tN T - i = (tN T - (i + 1)) + 1 by omega]
      show ∃ σ', _ ∧ _ ∧ BX 19 (-1) (cOu upG (xA T ri h) (xK T ri h) (tN T) (tN T - (i + 1)) (i + 1) (cIn upG (xK T ri h i) (tN T) 0 (ups upG o (xA T ri h i)))) σ'
      have skip : ¬ (tM T i = false ∧ tH T i ≤ h) → cIn upG (xK T ri h i) (tN T) 0 (ups upG o (xA T ri h i)) = o := fun c => by
        have e1 : xA T ri h i = none := by unfold xA; rw [if_neg (fun z => c ⟨z.1, by omega⟩)]
        rw [e1]
        exact cIn_none _ _ _ (fun j _ => by unfold xK; rw [if_neg (fun z => c z.1)])
      by_cases c1 : tM T i = false
      · rw [if_pos c1]
        by_cases c3 : tH T i ≤ h
        · rw [if_pos c3]
          have fin : ∀ (σ1 : Sg) (o1 : FR), FP 19 σ0 σ1 → BX 19 (-1) o1 σ1 → FRk o1 → ∃ σ', f_sp_hold_19_c67 N (f_sp_hold_19_c7 N m) N (iI h) 1 (nI i) 0 σ1 = some σ' ∧ FP 19 σ0 σ' ∧ BX 19 (-1) (cOu upG (xA T ri h) (xK T ri h) (tN T) (tN T - (i + 1)) (i + 1) (cIn upG (xK T ri h i) (tN T) 0 o1)) σ' := fun σ1 o1 F1 B1 k1 => by
            obtain ⟨σ2, e2, F2, B2⟩ := x_hin_19 hO hR h1 h2 hi' c1 c3 (f_sp_hold_19_c7 N m) N 0 σ1 o1 (by omega) (by omega) F1 B1 k1
            rw [show f_sp_hold_19_c67 N (f_sp_hold_19_c7 N m) N (iI h) 1 (nI i) 0 σ1 = f_sp_hold_19_c67 N (f_sp_hold_19_c7 N m) N (iI h) 1 (nI i) (nI 0) σ1 from rfl, e2]
            rw [Nat.sub_zero] at B2
            exact ih (i + 1) σ2 _ (by omega) (by omega) F2 B2 (frk_cIn upk_G (tN T) 0 o1 (fun j hj => frk_xK hO (bds_ri hO) hi' (by omega)) k1)
          by_cases c2 : tH T i = h
          · rw [if_pos c2, (x_inner hO hX hi').2, bind_some, iI_L (by omega) (by omega), nm_eq]
            have e : xA T ri h i = some (ri T i, 1) := by unfold xA; rw [if_pos ⟨c1, c2⟩]
            rw [e]
            obtain ⟨B1, F1⟩ := lower_19 (t := ri T i) (b := 1) hB ho (by omega) (by omega) (by omega) (by omega)
            rw [show -1 * ri T i = -(ri T i) by omega] at B1 F1
            exact fin _ _ (hF.tr F1) B1 (frk_upG ho (by omega) (by omega) (by omega) (by omega))
          · rw [if_neg c2]
            have e : xA T ri h i = none := by unfold xA; rw [if_neg (fun z => c2 z.2)]
            rw [e]
            exact fin σ o hF hB ho
        · rw [if_neg c3, skip (fun z => c3 z.2)]
          exact ih (i + 1) σ o (by omega) (by omega) hF hB ho
      · rw [if_neg c1, skip (fun z => c1 z.1)]
        exact ih (i + 1) σ o (by omega) (by omega) hF hB ho
theorem x_hold_19 {T : TS} {σ : Sg} (hO : Ok T) (hR : RX T σ) {N : Nat} (hN : 600 ≤ N) {h : Int} (h1 : -200 ≤ h) (h2 : h ≤ 200) : ∃ σ', f_sp_hold_19 N σ (iI h) 1 = some σ' ∧ FP 19 σ σ' ∧ BX 19 (-1) (hx upG T ri h) σ' := by
  have h8 := hO.1
  unfold f_sp_hold_19
  obtain ⟨B0, F0'⟩ := rel_19 σ
  rw [nm_eq]
  exact x_hou_19 hO hR hN h1 h2 N 0 _ none (by omega) (by omega) F0' B0 frk_0
theorem m_hin_0 {T : TS} {σ0 : Sg} (hO : Ok T) (hR : RM T σ0) {N : Nat} {h : Int} (h1 : -200 ≤ h) (h2 : h ≤ 200) {i : Nat} (hi : i < tN T) (kc : Int32 → Int32 → Int32 → Sg → Option Sg) : ∀ (m k : Nat) (σ : Sg) (o : FR), k ≤ tN T → tN T - k < m → FMb σ0 σ → BM o σ → FRk o → ∃ σ', f_mo_layHeld_c17 N kc m (iI h) 0 (nI i) (nI k) σ = kc (iI h) 0 (nI (i + 1)) σ' ∧ FMb σ0 σ' ∧ BM (cIn upL (mK T li h i) (tN T - k) k o) σ' := by
  have h8 := hO.1
  intro m
  induction m with
  | zero => intro k σ o h1 h2; omega
  | succ m ih =>
    intro k σ o hk hm hF hB ho
    have hX := hF.1.rm hR
    show ∃ σ', f_mo_layHeld_c17_s N kc (f_mo_layHeld_c17 N kc m) (iI h) 0 (nI i) (nI k) σ = kc (iI h) 0 (nI (i + 1)) σ' ∧ _
    unfold f_mo_layHeld_c17_s
    have q0 : nI (tN T) ≤ nI k ↔ tN T ≤ k := nI_leI (by omega) (by omega)
    rw [hX.1]
    by_cases c0 : tN T ≤ k
    · rw [if_pos (q0.mpr c0), show tN T - k = 0 by omega, nI_1]
      exact ⟨σ, rfl, hF, hB⟩
    · rw [if_neg (fun z => c0 (q0.mp z))]
      have hk' : k < tN T := by omega
      have i1 : ib (nI k) 8 := (ib_nI (by omega)).mpr (by omega)
      have i2 : ib (nI i) 8 := (ib_nI (by omega)).mpr (by omega)
      have oi := (hO.2.2.1 i hi).1
      have ok := (hO.2.2.1 k hk').1
      have bi := bds_li hO i hi
      have bk := bds_li hO k hk'
      have q1 : iI h < iI (tH T i) ↔ h < tH T i := iI_lt (by omega) (by omega) (by omega) (by omega)
      have q2 : iI h ≤ iI (tH T k) ↔ h ≤ tH T k := iI_le (by omega) (by omega) (by omega) (by omega)
      have q3 : iL (tH T k - tH T i) = 0 ↔ tH T k - tH T i = 0 := iL_eq (b := 0) (by omega) (by omega) (by omega) (by omega)
      rw [if_pos i2, if_pos i1, nI_clamp (show k < 2 ^ 31 by omega), nI_clamp (show i < 2 ^ 31 by omega), (hX.2.2 k hk').2.1, (hX.2.2 k hk').1, (hX.2.2 i hi).1, (hX.2.2 i hi).2.1, nI_1, show (1 : Int32) + 0 = 1 from rfl, iI_sub, iI_sub, iI_L (a := tH T k - tH T i) (by omega) (by omega), iI_L (a := h - tH T i) (by omega) (by omega), (m_bound hO hX hi).2.1, (m_bound hO hX hk').2.1, bind_some, bind_some, bind_some, iI_L (a := li T i) (by omega) (by omega), iI_L (a := li T k) (by omega) (by omega)]
      rw [show tN T - k = (tN T - (k + 1)) + 1 by omega]
      show ∃ σ', _ ∧ _ ∧ BM (cIn upL (mK T li h i) (tN T - (k + 1)) (k + 1) (ups upL o (mK T li h i k))) σ'
      have skip : ¬ ((tM T i = false ∧ tM T k = false) ∧ (tH T i ≤ h ∧ h ≤ tH T k)) → mK T li h i k = none := fun c => by unfold mK; rw [if_neg c]
      by_cases d1 : tM T i = false
      · rw [if_pos ((b01_0 _).mpr d1)]
        by_cases d2 : tM T k = false
        · rw [if_pos ((b01_0 _).mpr d2)]
          by_cases d3 : h < tH T i
          · rw [if_pos (q1.mpr d3), skip (by omega)]
            exact ih (k + 1) σ o (by omega) (by omega) hF hB ho
          · rw [if_neg (fun z => d3 (q1.mp z))]
            by_cases d4 : h ≤ tH T k
            · rw [if_pos (q2.mpr d4)]
              by_cases d5 : tH T k - tH T i = 0
              · rw [if_pos (q3.mpr d5), if_neg (show ¬ ((0 : Int32) = 1) by decide)]
                have e : mK T li h i k = some (li T i, 1) := by unfold mK; rw [if_pos ⟨⟨d1, d2⟩, by omega, by omega⟩, if_pos (by omega)]
                rw [e]
                obtain ⟨⟨B1, F1⟩, -⟩ := look_upL (t := li T i) (b := 1) hB ho (by omega) (by omega) (by omega) (by omega)
                exact ih (k + 1) _ _ (by omega) (by omega) (hF.tr F1) B1 (frk_upL ho (by omega) (by omega) (by omega) (by omega))
              · rw [if_neg (fun z => d5 (q3.mp z)), if_neg (show ¬ ((0 : Int32) = 1) by decide)]
                have e : mK T li h i k = some (hcN T li h i k) := by unfold mK; rw [if_pos ⟨⟨d1, d2⟩, by omega, by omega⟩, if_neg (by omega)]
                rw [e, iL_sub, iL_mul, iL_mul, iL_add, show tH T k - tH T i - (h - tH T i) = tH T k - h by omega]
                have b := hcN_b hO (bds_li hO) hi hk' (show tH T i ≤ h by omega) (by omega) (by omega)
                obtain ⟨⟨B1, F1⟩, -⟩ := look_upL hB ho b.1.1 b.1.2 b.2.1 b.2.2
                exact ih (k + 1) _ _ (by omega) (by omega) (hF.tr F1) B1 (frk_upL ho b.1.1 b.1.2 b.2.1 b.2.2)
            · rw [if_neg (fun z => d4 (q2.mp z)), skip (by omega)]
              exact ih (k + 1) σ o (by omega) (by omega) hF hB ho
        · rw [if_neg (fun z => d2 ((b01_0 _).mp z)), skip (fun z => d2 z.1.2)]
          exact ih (k + 1) σ o (by omega) (by omega) hF hB ho
      · rw [if_neg (fun z => d1 ((b01_0 _).mp z)), skip (fun z => d1 z.1.1)]
        exact ih (k + 1) σ o (by omega) (by omega) hF hB ho
theorem m_hou_0 {T : TS} {σ0 : Sg} (hO : Ok T) (hR : RM T σ0) {N : Nat} (hN : 600 ≤ N) {h : Int} (h1 : -200 ≤ h) (h2 : h ≤ 200) : ∀ (m i : Nat) (σ : Sg) (o : FR), i ≤ tN T → tN T - i < m → FMb σ0 σ → BM o σ → FRk o → ∃ σ', f_mo_layHeld_c6 N m (iI h) 0 (nI i) σ = some σ' ∧ FMb σ0 σ' ∧ BM (cOu upL mA (mK T li h) (tN T) (tN T - i) i o) σ' := by
  have h8 := hO.1
  intro m
  induction m with
  | zero => intro k σ o h1 h2; omega
  | succ m ih =>
    intro i σ o hi hm hF hB ho
    have hX := hF.1.rm hR
    show ∃ σ', f_mo_layHeld_c6_s N (f_mo_layHeld_c6 N m) (iI h) 0 (nI i) σ = some σ' ∧ _
    unfold f_mo_layHeld_c6_s
    have q0 : nI (tN T) ≤ nI i ↔ tN T ≤ i := nI_leI (by omega) (by omega)
    rw [hX.1]
    by_cases c0 : tN T ≤ i
    · rw [if_pos (q0.mpr c0), show tN T - i = 0 by omega]
      exact ⟨σ, rfl, hF, hB⟩
    · rw [if_neg (fun z => c0 (q0.mp z))]
      have hi' : i < tN T := by omega
      rw [show tN T - i = (tN T - (i + 1)) + 1 by omega]
      show ∃ σ', _ ∧ _ ∧ BM (cOu upL mA (mK T li h) (tN T) (tN T - (i + 1)) (i + 1) (cIn upL (mK T li h i) (tN T) 0 o)) σ'
      obtain ⟨σ2, e2, F2, B2⟩ := m_hin_0 hO hR h1 h2 hi' (f_mo_layHeld_c6 N m) N 0 σ o (by omega) (by omega) hF hB ho
      rw [show f_mo_layHeld_c17 N (f_mo_layHeld_c6 N m) N (iI h) 0 (nI i) 0 σ = f_mo_layHeld_c17 N (f_mo_layHeld_c6 N m) N (iI h) 0 (nI i) (nI 0) σ from rfl, e2]
      rw [Nat.sub_zero] at B2
      exact ih (i + 1) σ2 _ (by omega) (by omega) F2 B2 (frk_cIn upk_L (tN T) 0 o (fun j hj => frk_mK hO (bds_li hO) hi' (by omega)) ho)
theorem m_hold_0 {T : TS} {σ : Sg} (hO : Ok T) (hR : RM T σ) {N : Nat} (hN : 600 ≤ N) {h : Int} (h1 : -200 ≤ h) (h2 : h ≤ 200) : ∃ σ', f_mo_layHeld N σ (iI h) 0 = some σ' ∧ FMb σ σ' ∧ BM (hm upL T li h) σ' := by
  have h8 := hO.1
  unfold f_mo_layHeld
  obtain ⟨B0, F0'⟩ := begins_eq σ
  rw [nm_eq]
  exact m_hou_0 hO hR hN h1 h2 N 0 _ none (by omega) (by omega) F0' B0 frk_0
theorem m_hin_1 {T : TS} {σ0 : Sg} (hO : Ok T) (hR : RM T σ0) {N : Nat} {h : Int} (h1 : -200 ≤ h) (h2 : h ≤ 200) {i : Nat} (hi : i < tN T) (kc : Int32 → Int32 → Int32 → Sg → Option Sg) : ∀ (m k : Nat) (σ : Sg) (o : FR), k ≤ tN T → tN T - k < m → FMb σ0 σ → BM o σ → FRk o → ∃ σ', f_mo_layHeld_c17 N kc m (iI h) 1 (nI i) (nI k) σ = kc (iI h) 1 (nI (i + 1)) σ' ∧ FMb σ0 σ' ∧ BM (cIn upG (mK T ri h i) (tN T - k) k o) σ' := by
  have h8 := hO.1
  intro m
  induction m with
  | zero => intro k σ o h1 h2; omega
  | succ m ih =>
    intro k σ o hk hm hF hB ho
    have hX := hF.1.rm hR
    show ∃ σ', f_mo_layHeld_c17_s N kc (f_mo_layHeld_c17 N kc m) (iI h) 1 (nI i) (nI k) σ = kc (iI h) 1 (nI (i + 1)) σ' ∧ _
    unfold f_mo_layHeld_c17_s
    have q0 : nI (tN T) ≤ nI k ↔ tN T ≤ k := nI_leI (by omega) (by omega)
    rw [hX.1]
    by_cases c0 : tN T ≤ k
    · rw [if_pos (q0.mpr c0), show tN T - k = 0 by omega, nI_1]
      exact ⟨σ, rfl, hF, hB⟩
    · rw [if_neg (fun z => c0 (q0.mp z))]
      have hk' : k < tN T := by omega
      have i1 : ib (nI k) 8 := (ib_nI (by omega)).mpr (by omega)
      have i2 : ib (nI i) 8 := (ib_nI (by omega)).mpr (by omega)
      have oi := (hO.2.2.1 i hi).1
      have ok := (hO.2.2.1 k hk').1
      have bi := bds_ri hO i hi
      have bk := bds_ri hO k hk'
      have q1 : iI h < iI (tH T i) ↔ h < tH T i := iI_lt (by omega) (by omega) (by omega) (by omega)
      have q2 : iI h ≤ iI (tH T k) ↔ h ≤ tH T k := iI_le (by omega) (by omega) (by omega) (by omega)
      have q3 : iL (tH T k - tH T i) = 0 ↔ tH T k - tH T i = 0 := iL_eq (b := 0) (by omega) (by omega) (by omega) (by omega)
      rw [if_pos i2, if_pos i1, nI_clamp (show k < 2 ^ 31 by omega), nI_clamp (show i < 2 ^ 31 by omega), (hX.2.2 k hk').2.1, (hX.2.2 k hk').1, (hX.2.2 i hi).1, (hX.2.2 i hi).2.1, nI_1, show (1 : Int32) + 1 = 2 from rfl, iI_sub, iI_sub, iI_L (a := tH T k - tH T i) (by omega) (by omega), iI_L (a := h - tH T i) (by omega) (by omega), (m_bound hO hX hi).2.2.1, (m_bound hO hX hk').2.2.1, bind_some, bind_some, bind_some, iI_L (a := ri T i) (by omega) (by omega), iI_L (a := ri T k) (by omega) (by omega)]
      rw [show tN T - k = (tN T - (k + 1)) + 1 by omega]
      show ∃ σ', _ ∧ _ ∧ BM (cIn upG (mK T ri h i) (tN T - (k + 1)) (k + 1) (ups upG o (mK T ri h i k))) σ'
      have skip : ¬ ((tM T i = false ∧ tM T k = false) ∧ (tH T i ≤ h ∧ h ≤ tH T k)) → mK T ri h i k = none := fun c => by unfold mK; rw [if_neg c]
      by_cases d1 : tM T i = false
      · rw [if_pos ((b01_0 _).mpr d1)]
        by_cases d2 : tM T k = false
        · rw [if_pos ((b01_0 _).mpr d2)]
          by_cases d3 : h < tH T i
          · rw [if_pos (q1.mpr d3), skip (by omega)]
            exact ih (k + 1) σ o (by omega) (by omega) hF hB ho
          · rw [if_neg (fun z => d3 (q1.mp z))]
            by_cases d4 : h ≤ tH T k
            · rw [if_pos (q2.mpr d4)]
              by_cases d5 : tH T k - tH T i = 0
              · rw [if_pos (q3.mpr d5), if_pos rfl]
                have e : mK T ri h i k = some (ri T i, 1) := by unfold mK; rw [if_pos ⟨⟨d1, d2⟩, by omega, by omega⟩, if_pos (by omega)]
                rw [e]
                obtain ⟨⟨B1, F1⟩, -⟩ := look_upG (t := ri T i) (b := 1) hB ho (by omega) (by omega) (by omega) (by omega)
                exact ih (k + 1) _ _ (by omega) (by omega) (hF.tr F1) B1 (frk_upG ho (by omega) (by omega) (by omega) (by omega))
              · rw [if_neg (fun z => d5 (q3.mp z)), if_pos rfl]
                have e : mK T ri h i k = some (hcN T ri h i k) := by unfold mK; rw [if_pos ⟨⟨d1, d2⟩, by omega, by omega⟩, if_neg (by omega)]
                rw [e, iL_sub, iL_mul, iL_mul, iL_add, show tH T k - tH T i - (h - tH T i) = tH T k - h by omega]
                have b := hcN_b hO (bds_ri hO) hi hk' (show tH T i ≤ h by omega) (by omega) (by omega)
                obtain ⟨⟨B1, F1⟩, -⟩ := look_upG hB ho b.1.1 b.1.2 b.2.1 b.2.2
                exact ih (k + 1) _ _ (by omega) (by omega) (hF.tr F1) B1 (frk_upG ho b.1.1 b.1.2 b.2.1 b.2.2)
            · rw [if_neg (fun z => d4 (q2.mp z)), skip (by omega)]
              exact ih (k + 1) σ o (by omega) (by omega) hF hB ho
        · rw [if_neg (fun z => d2 ((b01_0 _).mp z)), skip (fun z => d2 z.1.2)]
          exact ih (k + 1) σ o (by omega) (by omega) hF hB ho
      · rw [if_neg (fun z => d1 ((b01_0 _).mp z)), skip (fun z => d1 z.1.1)]
        exact ih (k + 1) σ o (by omega) (by omega) hF hB ho
theorem m_hou_1 {T : TS} {σ0 : Sg} (hO : Ok T) (hR : RM T σ0) {N : Nat} (hN : 600 ≤ N) {h : Int} (h1 : -200 ≤ h) (h2 : h ≤ 200) : ∀ (m i : Nat) (σ : Sg) (o : FR), i ≤ tN T → tN T - i < m → FMb σ0 σ → BM o σ → FRk o → ∃ σ', f_mo_layHeld_c6 N m (iI h) 1 (nI i) σ = some σ' ∧ FMb σ0 σ' ∧ BM (cOu upG mA (mK T ri h) (tN T) (tN T - i) i o) σ' := by
  have h8 := hO.1
  intro m
  induction m with
  | zero => intro k σ o h1 h2; omega
  | succ m ih =>
    intro i σ o hi hm hF hB ho
    have hX := hF.1.rm hR
    show ∃ σ', f_mo_layHeld_c6_s N (f_mo_layHeld_c6 N m) (iI h) 1 (nI i) σ = some σ' ∧ _
    unfold f_mo_layHeld_c6_s
    have q0 : nI (tN T) ≤ nI i ↔ tN T ≤ i := nI_leI (by omega) (by omega)
    rw [hX.1]
    by_cases c0 : tN T ≤ i
    · rw [if_pos (q0.mpr c0), show tN T - i = 0 by omega]
      exact ⟨σ, rfl, hF, hB⟩
    · rw [if_neg (fun z => c0 (q0.mp z))]
      have hi' : i < tN T := by omega
      rw [show tN T - i = (tN T - (i + 1)) + 1 by omega]
      show ∃ σ', _ ∧ _ ∧ BM (cOu upG mA (mK T ri h) (tN T) (tN T - (i + 1)) (i + 1) (cIn upG (mK T ri h i) (tN T) 0 o)) σ'
      obtain ⟨σ2, e2, F2, B2⟩ := m_hin_1 hO hR h1 h2 hi' (f_mo_layHeld_c6 N m) N 0 σ o (by omega) (by omega) hF hB ho
      rw [show f_mo_layHeld_c17 N (f_mo_layHeld_c6 N m) N (iI h) 1 (nI i) 0 σ = f_mo_layHeld_c17 N (f_mo_layHeld_c6 N m) N (iI h) 1 (nI i) (nI 0) σ from rfl, e2]
      rw [Nat.sub_zero] at B2
      exact ih (i + 1) σ2 _ (by omega) (by omega) F2 B2 (frk_cIn upk_G (tN T) 0 o (fun j hj => frk_mK hO (bds_ri hO) hi' (by omega)) ho)
theorem m_hold_1 {T : TS} {σ : Sg} (hO : Ok T) (hR : RM T σ) {N : Nat} (hN : 600 ≤ N) {h : Int} (h1 : -200 ≤ h) (h2 : h ≤ 200) : ∃ σ', f_mo_layHeld N σ (iI h) 1 = some σ' ∧ FMb σ σ' ∧ BM (hm upG T ri h) σ' := by
  have h8 := hO.1
  unfold f_mo_layHeld
  obtain ⟨B0, F0'⟩ := begins_eq σ
  rw [nm_eq]
  exact m_hou_1 hO hR hN h1 h2 N 0 _ none (by omega) (by omega) F0' B0 frk_0
