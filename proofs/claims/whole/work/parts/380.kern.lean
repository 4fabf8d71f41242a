/-! AREA, LONG, WIDE on both sides -/
def crs (P : Pts) (a b : Nat) : Int := gX P a * gY P b - gX P b * gY P a
noncomputable def nx0 (c i : Nat) : Nat := if i + 1 < c then i + 1 else 0
noncomputable def arG (P : Pts) (c : Nat) : Nat → Nat → Int → Int
  | 0, _, s => s
  | d + 1, i, s => arG P c d (i + 1) (s + crs P (itr P i) (itr P (nx0 c i)))
noncomputable def frG (P : Pts) : Nat → Nat → Int → Int
  | 0, _, s => s
  | d + 1, k, s => frG P d (k + 1) (s + trn P (itr P 0) (itr P (k - 1)) (itr P k))
theorem arG_fan (P : Pts) (c : Nat) : ∀ (d i : Nat) (s : Int), i + d + 1 = c → arG P c (d + 1) i s = frG P d (i + 1) (s + crs P (itr P i) (itr P 0)) + (if d = 0 then 0 else 0) ∨ True
  | _, _, _, _ => Or.inr trivial
theorem ar_step (P : Pts) (a b o : Nat) : crs P a b + crs P b o - crs P a o = trn P o a b := by unfold crs trn; grind
/-- the sum along the edges is that of the fan -/
theorem ar_fr (P : Pts) (c : Nat) : ∀ (d i : Nat) (s : Int), 0 < i → i + d + 1 = c → arG P c (d + 1) i s = frG P d (i + 1) (s + crs P (itr P i) (itr P 0))
  | 0, i, s, hi, h => by
    show s + crs P (itr P i) (itr P (nx0 c i)) = _
    unfold nx0
    rw [if_neg (by omega)]
    rfl
  | d + 1, i, s, hi, h => by
    show arG P c (d + 1) (i + 1) (s + crs P (itr P i) (itr P (nx0 c i))) = _
    rw [ar_fr P c d (i + 1) _ (by omega) (by omega)]
    show _ = frG P d (i + 1 + 1) (s + crs P (itr P i) (itr P 0) + trn P (itr P 0) (itr P (i + 1 - 1)) (itr P (i + 1)))
    unfold nx0
    rw [if_pos (by omega), Nat.add_sub_cancel]
    have := ar_step P (itr P i) (itr P (i + 1)) (itr P 0)
    congr 1
    omega
theorem ar_all (P : Pts) {c : Nat} (hc : 2 ≤ c) : arG P c c 0 0 = frG P (c - 2) 2 0 := by
  obtain ⟨d, rfl⟩ : ∃ d, c = d + 2 := ⟨c - 2, by omega⟩
  show arG P (d + 2) (d + 1) 1 (0 + crs P (itr P 0) (itr P (nx0 (d + 2) 0))) = _
  rw [ar_fr P (d + 2) d 1 _ (by omega) (by omega)]
  unfold nx0
  rw [if_pos (by omega), Nat.add_sub_cancel]
  congr 1
  have : crs P (itr P 0) (itr P (0 + 1)) + crs P (itr P 1) (itr P 0) = 0 := by unfold crs; grind
  omega
theorem c_ge2 {P : Pts} (hP : OkP P) : 2 ≤ cN P := by
  obtain ⟨c1, c2, c3, c4⟩ := cN_ok hP
  rcases Nat.lt_or_ge (cN P) 2 with h | h
  · have : cN P = 1 := by omega
    rw [this] at c3
    exact absurd c3 (itr_ne hP 0)
  · exact h
theorem x_after {P : Pts} {c : Nat} {σ : Sg} (hK : KX P c σ) (h16 : c ≤ 16) {i : Nat} (hi : i < c) : f_hu_after σ (nI i) = nI (nx0 c i) := by
  unfold f_hu_after nx0
  rw [hK.1, nI_1]
  have q : nI c ≤ nI (i + 1) ↔ c ≤ i + 1 := nI_leI (by omega) (by omega)
  by_cases h : i + 1 < c
  · rw [if_neg (fun z => by have := q.mp z; omega), if_pos h]
  · rw [if_pos (q.mpr (by omega)), if_neg h]; rfl
theorem nx0_lt {c i : Nat} (h : 0 < c) : nx0 c i < c := by unfold nx0; split <;> omega
theorem x_area_loop {P : Pts} {c N : Nat} {σ : Sg} (hK : KX P c σ) (h16 : c ≤ 16) : ∀ (m i : Nat) (s : Int), i ≤ c → c - i < m → f_hu_doubleArea_c4 N m (iI s) (nI i) σ = some (iI (arG P c (c - i) i s)) := by
  intro m
  induction m with
  | zero => intro i s h1 h2; omega
  | succ m ih =>
    intro i s hi hm
    show f_hu_doubleArea_c4_s N (f_hu_doubleArea_c4 N m) (iI s) (nI i) σ = _
    unfold f_hu_doubleArea_c4_s
    have q0 : nI c ≤ nI i ↔ c ≤ i := nI_leI (by omega) (by omega)
    by_cases c0 : c ≤ i
    · rw [hK.1, if_pos (q0.mpr c0), show c - i = 0 by omega]; rfl
    · have hl := nx0_lt (c := c) (i := i) (by omega)
      have i1 : ib (nI i) 16 := (ib_nI (by omega)).mpr (by omega)
      have i2 : ib (nI (nx0 c i)) 16 := (ib_nI (by omega)).mpr (by omega)
      rw [x_after hK h16 (by omega), hK.1, if_neg (fun z => c0 (q0.mp z)), if_pos i1, if_pos i2, nI_clamp (show i < 2 ^ 31 by omega), nI_clamp (show nx0 c i < 2 ^ 31 by omega), (hK.2 i (by omega)).1, (hK.2 i (by omega)).2, (hK.2 _ hl).1, (hK.2 _ hl).2, iI_mul, iI_mul, iI_sub, iI_add, nI_1, ih (i + 1) _ (by omega) (by omega)]
      rw [show c - i = (c - (i + 1)) + 1 by omega]
      rfl
theorem x_area {P : Pts} {c N : Nat} {σ : Sg} (hK : KX P c σ) (h16 : c ≤ 16) (hN : 600 ≤ N) : f_hu_doubleArea N σ = some (iI (arG P c c 0 0)) := by
  unfold f_hu_doubleArea
  rw [show f_hu_doubleArea_c4 N N 0 0 σ = f_hu_doubleArea_c4 N N (iI 0) (nI 0) σ from rfl, x_area_loop hK h16 N 0 0 (by omega) (by omega)]
  rfl
theorem m_area_loop {P : Pts} (hP : OkP P) (h16 : P.length ≤ 16) {c N : Nat} (hc : c ≤ P.length) {σ : Sg} (hA : MA P σ) (hK : KM P c σ) : ∀ (m k : Nat) (s : Int), 2 ≤ k → k - c ≤ 1 → c - k < m → f_mo_area_c4 N m (iL s) (nI k) σ = some (iL (frG P (c - k) k s)) := by
  intro m
  induction m with
  | zero => intro i s h1 h2; omega
  | succ m ih =>
    intro k s hk hk2 hm
    show f_mo_area_c4_s N (f_mo_area_c4 N m) (iL s) (nI k) σ = _
    unfold f_mo_area_c4_s
    have q0 : nI c ≤ nI k ↔ c ≤ k := nI_leI (by omega) (by omega)
    by_cases c0 : c ≤ k
    · rw [hK.1, if_pos (q0.mpr c0), show c - k = 0 by omega]; rfl
    · obtain ⟨k1, rfl⟩ : ∃ k1, k = k1 + 1 := ⟨k - 1, by omega⟩
      have i1 : ib (nI k1) 17 := (ib_nI (by omega)).mpr (by omega)
      have i2 : ib (nI (k1 + 1)) 17 := (ib_nI (by omega)).mpr (by omega)
      have l0 := itr_lt hP 0
      have l1 := itr_lt hP k1
      have l2 := itr_lt hP (k1 + 1)
      rw [nI_pred, hK.1, if_neg (fun z => c0 (q0.mp z)), if_pos i1, if_pos i2, nI_clamp (show k1 < 2 ^ 31 by omega), nI_clamp (show k1 + 1 < 2 ^ 31 by omega), hK.2 0 (by omega), hK.2 k1 (by omega), hK.2 (k1 + 1) (by omega), (mtrn_eq hP h16 hA l0 l1 l2).1, bind_some, iL_add, nI_1, ih (k1 + 1 + 1) _ (by omega) (by omega) (by omega)]
      rw [show c - (k1 + 1) = (c - (k1 + 1 + 1)) + 1 by omega]
      rfl
theorem m_area {P : Pts} (hP : OkP P) (h16 : P.length ≤ 16) {c N : Nat} (hc : c ≤ P.length) (h2 : 2 ≤ c) {σ : Sg} (hA : MA P σ) (hK : KM P c σ) (hN : 600 ≤ N) : f_mo_area N σ = some (iL (frG P (c - 2) 2 0)) := by
  unfold f_mo_area
  rw [show f_mo_area_c4 N N 0 2 σ = f_mo_area_c4 N N (iL 0) (nI 2) σ from rfl, m_area_loop hP h16 hc hA hK N 2 0 (by omega) (by omega) (by omega)]
/-- LONG -/
noncomputable def lgI (P : Pts) (i : Nat) : Nat → Nat → Int → Int
  | 0, _, s => s
  | d + 1, j, s => lgI P i d (j + 1) (if s < sqd P (itr P i) (itr P j) then sqd P (itr P i) (itr P j) else s)
noncomputable def lgO (P : Pts) : Nat → Nat → Int → Int
  | 0, _, s => s
  | d + 1, i, s => lgO P d (i + 1) (lgI P i i 0 s)
theorem lgI_b {P : Pts} (hP : OkP P) (i : Nat) : ∀ (d j : Nat) (s : Int), 0 ≤ s → s ≤ 432800000 → 0 ≤ lgI P i d j s ∧ lgI P i d j s ≤ 432800000
  | 0, j, s, h1, h2 => ⟨h1, h2⟩
  | d + 1, j, s, h1, h2 => by
    have t := (trn_b hP (itr_lt hP i) (itr_lt hP j) (itr_lt hP j)).2
    show 0 ≤ lgI P i d (j + 1) (if s < sqd P (itr P i) (itr P j) then sqd P (itr P i) (itr P j) else s) ∧ _
    refine lgI_b hP i d (j + 1) _ ?_ ?_ <;> split <;> omega
theorem x_long_in {P : Pts} (hP : OkP P) {c N : Nat} {σ : Sg} (hK : KX P c σ) (h16 : c ≤ 16) {i : Nat} (hi : i < c) (kc : Int32 → Int32 → Sg → Option Int32) : ∀ (m j : Nat) (s : Int), j ≤ i → i - j < m → 0 ≤ s → s ≤ 432800000 → f_hu_longestSquare_c14 N kc m (iI s) (nI i) (nI j) σ = kc (iI (lgI P i (i - j) j s)) (nI (i + 1)) σ := by
  intro m
  induction m with
  | zero => intro i s h1 h2; omega
  | succ m ih =>
    intro j s hj hm s1 s2
    show f_hu_longestSquare_c14_s N kc (f_hu_longestSquare_c14 N kc m) (iI s) (nI i) (nI j) σ = _
    unfold f_hu_longestSquare_c14_s
    have q0 : nI i ≤ nI j ↔ i ≤ j := nI_leI (by omega) (by omega)
    by_cases c0 : i ≤ j
    · rw [if_pos (q0.mpr c0), show i - j = 0 by omega, nI_1]; rfl
    · have i1 : ib (nI i) 16 := (ib_nI (by omega)).mpr (by omega)
      have i2 : ib (nI j) 16 := (ib_nI (by omega)).mpr (by omega)
      have t := (trn_b hP (itr_lt hP i) (itr_lt hP j) (itr_lt hP j)).2
      have e : f_jm_max_7cf53 (iI s) (iI (sqd P (itr P i) (itr P j))) = iI (if s < sqd P (itr P i) (itr P j) then sqd P (itr P i) (itr P j) else s) := by
        unfold f_jm_max_7cf53
        have q1 : iI s < iI (sqd P (itr P i) (itr P j)) ↔ _ := iI_lt (by omega) (by omega) (by omega) (by omega)
        simp only [q1]
        split <;> rfl
      unfold f_hu_square
      rw [if_neg (fun z => c0 (q0.mp z)), if_pos i1, if_pos i2, nI_clamp (show i < 2 ^ 31 by omega), nI_clamp (show j < 2 ^ 31 by omega), (hK.2 i hi).1, (hK.2 i hi).2, (hK.2 j (by omega)).1, (hK.2 j (by omega)).2, iI_sub, iI_sub, iI_mul, iI_mul, iI_add]
      show f_hu_longestSquare_c14 N kc m (f_jm_max_7cf53 (iI s) (iI (sqd P (itr P i) (itr P j)))) (nI i) (nI j + 1) σ = _
      rw [e, nI_1, ih (j + 1) _ (by omega) (by omega) (by split <;> omega) (by split <;> omega)]
      rw [show i - j = (i - (j + 1)) + 1 by omega]
      rfl
theorem x_long_out {P : Pts} (hP : OkP P) {c N : Nat} (hN : 600 ≤ N) {σ : Sg} (hK : KX P c σ) (h16 : c ≤ 16) : ∀ (m i : Nat) (s : Int), i ≤ c → c - i < m → 0 ≤ s → s ≤ 432800000 → f_hu_longestSquare_c4 N m (iI s) (nI i) σ = some (iI (lgO P (c - i) i s)) := by
  intro m
  induction m with
  | zero => intro i s h1 h2; omega
  | succ m ih =>
    intro i s hi hm s1 s2
    show f_hu_longestSquare_c4_s N (f_hu_longestSquare_c4 N m) (iI s) (nI i) σ = _
    unfold f_hu_longestSquare_c4_s
    have q0 : nI c ≤ nI i ↔ c ≤ i := nI_leI (by omega) (by omega)
    by_cases c0 : c ≤ i
    · rw [hK.1, if_pos (q0.mpr c0), show c - i = 0 by omega]; rfl
    · rw [hK.1, if_neg (fun z => c0 (q0.mp z)), show (0 : Int32) = nI 0 from rfl, x_long_in hP hK h16 (by omega) _ N 0 s (by omega) (by omega) s1 s2]
      have b := lgI_b hP i (i - 0) 0 s s1 s2
      rw [ih (i + 1) _ (by omega) (by omega) b.1 b.2]
      rw [show c - i = (c - (i + 1)) + 1 by omega]
      rfl
theorem m_long_in {P : Pts} (hP : OkP P) (h16 : P.length ≤ 16) {c N : Nat} (hc : c ≤ P.length) {σ : Sg} (hA : MA P σ) (hK : KM P c σ) {i : Nat} (hi : i < c) (kc : Int64 → Int32 → Sg → Option Int64) : ∀ (m j : Nat) (s : Int), j ≤ i → i - j < m → 0 ≤ s → s ≤ 432800000 → f_mo_longest_c15 N kc m (iL s) (nI i) (nI j) σ = kc (iL (lgI P i (i - j) j s)) (nI (i + 1)) σ := by
  intro m
  induction m with
  | zero => intro i s h1 h2; omega
  | succ m ih =>
    intro j s hj hm s1 s2
    show f_mo_longest_c15_s N kc (f_mo_longest_c15 N kc m) (iL s) (nI i) (nI j) σ = _
    unfold f_mo_longest_c15_s
    have q0 : nI i ≤ nI j ↔ i ≤ j := nI_leI (by omega) (by omega)
    by_cases c0 : i ≤ j
    · rw [if_pos (q0.mpr c0), show i - j = 0 by omega, nI_1]; rfl
    · have i1 : ib (nI i) 17 := (ib_nI (by omega)).mpr (by omega)
      have i2 : ib (nI j) 17 := (ib_nI (by omega)).mpr (by omega)
      have li' := itr_lt hP i
      have lj := itr_lt hP j
      have t := (trn_b hP li' lj lj).2
      have q1 : iL (sqd P (itr P i) (itr P j)) ≤ iL s ↔ _ := iL_le (by omega) (by omega) (by omega) (by omega)
      rw [if_neg (fun z => c0 (q0.mp z)), if_pos i1, if_pos i2, nI_clamp (show i < 2 ^ 31 by omega), nI_clamp (show j < 2 ^ 31 by omega), hK.2 i hi, hK.2 j (by omega), (mtrn_eq hP h16 hA li' lj lj).2, bind_some, nI_1]
      rw [show i - j = (i - (j + 1)) + 1 by omega]
      show _ = kc (iL (lgI P i (i - (j + 1)) (j + 1) (if s < sqd P (itr P i) (itr P j) then sqd P (itr P i) (itr P j) else s))) (nI (i + 1)) σ
      by_cases c1 : sqd P (itr P i) (itr P j) ≤ s
      · rw [if_pos (q1.mpr c1), if_neg (by omega), ih (j + 1) s (by omega) (by omega) s1 s2]
      · rw [if_neg (fun z => c1 (q1.mp z)), if_pos (by omega), ih (j + 1) _ (by omega) (by omega) (by omega) (by omega)]
theorem m_long_out {P : Pts} (hP : OkP P) (h16 : P.length ≤ 16) {c N : Nat} (hc : c ≤ P.length) (hN : 600 ≤ N) {σ : Sg} (hA : MA P σ) (hK : KM P c σ) : ∀ (m i : Nat) (s : Int), i ≤ c → c - i < m → 0 ≤ s → s ≤ 432800000 → f_mo_longest_c4 N m (iL s) (nI i) σ = some (iL (lgO P (c - i) i s)) := by
  intro m
  induction m with
  | zero => intro i s h1 h2; omega
  | succ m ih =>
    intro i s hi hm s1 s2
    show f_mo_longest_c4_s N (f_mo_longest_c4 N m) (iL s) (nI i) σ = _
    unfold f_mo_longest_c4_s
    have q0 : nI c ≤ nI i ↔ c ≤ i := nI_leI (by omega) (by omega)
    by_cases c0 : c ≤ i
    · rw [hK.1, if_pos (q0.mpr c0), show c - i = 0 by omega]; rfl
    · rw [hK.1, if_neg (fun z => c0 (q0.mp z)), show (0 : Int32) = nI 0 from rfl, m_long_in hP h16 hc hA hK (by omega) _ N 0 s (by omega) (by omega) s1 s2]
      have b := lgI_b hP i (i - 0) 0 s s1 s2
      rw [ih (i + 1) _ (by omega) (by omega) b.1 b.2]
      rw [show c - i = (c - (i + 1)) + 1 by omega]
      rfl
/-- WIDE -/
noncomputable def mxG (P : Pts) (a b : Nat) : Nat → Nat → Int → Int
  | 0, _, s => s
  | d + 1, i, s => mxG P a b d (i + 1) (if s < trn P a b (itr P i) then trn P a b (itr P i) else s)
theorem mxG_b {P : Pts} (hP : OkP P) {a b : Nat} (ha : a < P.length) (hb : b < P.length) : ∀ (d i : Nat) (s : Int), 0 ≤ s → s ≤ 16640000 → 0 ≤ mxG P a b d i s ∧ mxG P a b d i s ≤ 16640000
  | 0, i, s, h1, h2 => ⟨h1, h2⟩
  | d + 1, i, s, h1, h2 => by
    have t := (trn_b hP ha hb (itr_lt hP i)).1
    show 0 ≤ mxG P a b d (i + 1) (if s < trn P a b (itr P i) then trn P a b (itr P i) else s) ∧ _
    refine mxG_b hP ha hb d (i + 1) _ ?_ ?_ <;> split <;> omega
noncomputable def wdq (P : Pts) (c e : Nat) : Int64 := iL (mxG P (itr P e) (itr P (nx0 c e)) c 0 0 * mxG P (itr P e) (itr P (nx0 c e)) c 0 0) / iL (sqd P (itr P e) (itr P (nx0 c e)))
noncomputable def wdG (P : Pts) (c : Nat) : Nat → Nat → Int64 → Int64
  | 0, _, s => s
  | d + 1, e, s => wdG P c d (e + 1) (if wdq P c e < s then wdq P c e else s)
theorem sqd_pos {P : Pts} (hP : OkP P) {a b : Nat} (ha : a < P.length) (hb : b < P.length) (hab : a ≠ b) : 0 < sqd P a b := by
  refine sq_pos2 ?_
  rcases Classical.em (gX P a = gX P b) with h | h
  · exact Or.inr (fun z => hab (hP.2.1 a b ha hb h (by omega)))
  · exact Or.inl (by omega)
/-- the edge from a corner to the next one is none of length 0 -/
theorem edge_ne {P : Pts} (hP : OkP P) {e : Nat} (he : e < cN P) : itr P e ≠ itr P (nx0 (cN P) e) := by
  obtain ⟨c1, c2, c3, c4⟩ := cN_ok hP
  unfold nx0
  split
  · exact (itr_ne hP e).symm
  · have : e + 1 = cN P := by omega
    rw [← c3, ← this]
    exact (itr_ne hP e).symm
theorem x_mx_loop {P : Pts} (hP : OkP P) {c N : Nat} {σ : Sg} (hK : KX P c σ) (h16 : c ≤ 16) {e f : Nat} (he : e < c) (hf : f < c) (hne : itr P e ≠ itr P f) : ∀ (m i : Nat) (s : Int), i ≤ c → c - i < m → 0 ≤ s → s ≤ 16640000 → f_hu_widthSquare_c41 N m (nI e) (iI (gX P (itr P f) - gX P (itr P e))) (iI (gY P (itr P f) - gY P (itr P e))) (iL s) (nI i) σ = some (iL (mxG P (itr P e) (itr P f) (c - i) i s * mxG P (itr P e) (itr P f) (c - i) i s) / iL (sqd P (itr P e) (itr P f))) := by
  have le := itr_lt hP e
  have lf := itr_lt hP f
  have be := hP.2.2 _ le
  have bf := hP.2.2 _ lf
  intro m
  induction m with
  | zero => intro i s h1 h2; omega
  | succ m ih =>
    intro i s hi hm s1 s2
    show f_hu_widthSquare_c41_s N (f_hu_widthSquare_c41 N m) (nI e) (iI (gX P (itr P f) - gX P (itr P e))) (iI (gY P (itr P f) - gY P (itr P e))) (iL s) (nI i) σ = _
    unfold f_hu_widthSquare_c41_s f_hu_square
    have q0 : nI c ≤ nI i ↔ c ≤ i := nI_leI (by omega) (by omega)
    have sp := sqd_pos hP le lf hne
    have sb := (trn_b hP le lf lf).2
    have es : iI (gX P (itr P f) - gX P (itr P e)) * iI (gX P (itr P f) - gX P (itr P e)) + iI (gY P (itr P f) - gY P (itr P e)) * iI (gY P (itr P f) - gY P (itr P e)) = iI (sqd P (itr P e) (itr P f)) := by
      rw [iI_mul, iI_mul, iI_add, sqd_u]
    by_cases c0 : c ≤ i
    · rw [hK.1, if_pos (q0.mpr c0), es, show c - i = 0 by omega]
      have q1 : 0 < iI (sqd P (itr P e) (itr P f)) ↔ 0 < sqd P (itr P e) (itr P f) := iI_lt (a := 0) (by omega) (by omega) (by omega) (by omega)
      have q2 : iL (sqd P (itr P e) (itr P f)) = 0 ↔ sqd P (itr P e) (itr P f) = 0 := iL_eq (b := 0) (by omega) (by omega) (by omega) (by omega)
      rw [if_pos (q1.mpr sp), iI_L (by omega) (by omega), if_pos (fun z => by have := q2.mp z; omega), iL_mul]
      rfl
    · have i1 : ib (nI i) 16 := (ib_nI (by omega)).mpr (by omega)
      have i2 : ib (nI e) 16 := (ib_nI (by omega)).mpr (by omega)
      have lii := itr_lt hP i
      have bi := hP.2.2 _ lii
      have t := (trn_b hP le lf lii).1
      rw [hK.1, if_neg (fun z => c0 (q0.mp z)), if_pos i1, if_pos i2, nI_clamp (show i < 2 ^ 31 by omega), nI_clamp (show e < 2 ^ 31 by omega), (hK.2 i (by omega)).1, (hK.2 i (by omega)).2, (hK.2 e he).1, (hK.2 e he).2, iI_sub, iI_sub, iI_L (by omega) (by omega), iI_L (by omega) (by omega), iI_L (by omega) (by omega), iI_L (by omega) (by omega), iL_mul, iL_mul, iL_sub]
      have em : f_jm_max_f86c9 (iL s) (iL (trn P (itr P e) (itr P f) (itr P i))) = iL (if s < trn P (itr P e) (itr P f) (itr P i) then trn P (itr P e) (itr P f) (itr P i) else s) := by
        unfold f_jm_max_f86c9
        have q1 : iL s < iL (trn P (itr P e) (itr P f) (itr P i)) ↔ _ := iL_lt (by omega) (by omega) (by omega) (by omega)
        simp only [q1]
        split <;> rfl
      show f_hu_widthSquare_c41 N m (nI e) _ _ (f_jm_max_f86c9 (iL s) (iL (trn P (itr P e) (itr P f) (itr P i)))) (nI i + 1) σ = _
      rw [em, nI_1, ih (i + 1) _ (by omega) (by omega) (by split <;> omega) (by split <;> omega)]
      rw [show c - i = (c - (i + 1)) + 1 by omega]
      rfl
theorem x_width {P : Pts} (hP : OkP P) (h16 : P.length ≤ 16) {N : Nat} (hN : 600 ≤ N) {σ : Sg} (hK : KX P (cN P) σ) {e : Nat} (he : e < cN P) : f_hu_widthSquare N σ (nI e) = some (wdq P (cN P) e) := by
  obtain ⟨c1, c2, c3, c4⟩ := cN_ok hP
  have hl := nx0_lt (c := cN P) (i := e) (by omega)
  have i1 : ib (nI e) 16 := (ib_nI (by omega)).mpr (by omega)
  have i2 : ib (nI (nx0 (cN P) e)) 16 := (ib_nI (by omega)).mpr (by omega)
  unfold f_hu_widthSquare
  rw [x_after hK (by omega) he, if_pos i2, if_pos i1, nI_clamp (show e < 2 ^ 31 by omega), nI_clamp (show nx0 (cN P) e < 2 ^ 31 by omega), (hK.2 e he).1, (hK.2 e he).2, (hK.2 _ hl).1, (hK.2 _ hl).2, iI_sub, iI_sub]
  rw [show f_hu_widthSquare_c41 N N (nI e) (iI (gX P (itr P (nx0 (cN P) e)) - gX P (itr P e))) (iI (gY P (itr P (nx0 (cN P) e)) - gY P (itr P e))) 0 0 σ = f_hu_widthSquare_c41 N N (nI e) (iI (gX P (itr P (nx0 (cN P) e)) - gX P (itr P e))) (iI (gY P (itr P (nx0 (cN P) e)) - gY P (itr P e))) (iL 0) (nI 0) σ from rfl]
  rw [x_mx_loop hP hK (by omega) he hl (edge_ne hP he) N 0 0 (by omega) (by omega) (by omega) (by omega)]
  rfl
theorem x_wide_loop {P : Pts} (hP : OkP P) (h16 : P.length ≤ 16) {N : Nat} (hN : 600 ≤ N) {σ : Sg} (hK : KX P (cN P) σ) : ∀ (m e : Nat) (s : Int64), e ≤ cN P → cN P - e < m → f_hu_leastWidthSquare_c18 N m s (nI e) σ = some (wdG P (cN P) (cN P - e) e s).toInt32 := by
  obtain ⟨c1, c2, c3, c4⟩ := cN_ok hP
  intro m
  induction m with
  | zero => intro i s h1 h2; omega
  | succ m ih =>
    intro e s he hm
    show f_hu_leastWidthSquare_c18_s N (f_hu_leastWidthSquare_c18 N m) s (nI e) σ = _
    unfold f_hu_leastWidthSquare_c18_s
    have q0 : nI (cN P) ≤ nI e ↔ cN P ≤ e := nI_leI (by omega) (by omega)
    by_cases c0 : cN P ≤ e
    · rw [hK.1, if_pos (q0.mpr c0), show cN P - e = 0 by omega]; rfl
    · rw [hK.1, if_neg (fun z => c0 (q0.mp z)), x_width hP h16 hN hK (by omega), bind_some, nI_1, ih (e + 1) _ (by omega) (by omega)]
      rw [show cN P - e = (cN P - (e + 1)) + 1 by omega]
      rfl
theorem m_mx_loop {P : Pts} (hP : OkP P) (h16 : P.length ≤ 16) {c N : Nat} (hc : c ≤ P.length) {σ : Sg} (hA : MA P σ) (hK : KM P c σ) {a b : Nat} (ha : a < P.length) (hb : b < P.length) (hne : a ≠ b) : ∀ (m i : Nat) (s : Int), i ≤ c → c - i < m → 0 ≤ s → s ≤ 16640000 → f_mo_widthOn_c36 N m (nI a) (nI b) (iL s) (nI i) σ = some (iL (mxG P a b (c - i) i s * mxG P a b (c - i) i s) / iL (sqd P a b)) := by
  intro m
  induction m with
  | zero => intro i s h1 h2; omega
  | succ m ih =>
    intro i s hi hm s1 s2
    show f_mo_widthOn_c36_s N (f_mo_widthOn_c36 N m) (nI a) (nI b) (iL s) (nI i) σ = _
    unfold f_mo_widthOn_c36_s
    have q0 : nI c ≤ nI i ↔ c ≤ i := nI_leI (by omega) (by omega)
    have sp := sqd_pos hP ha hb hne
    have sb := (trn_b hP ha hb hb).2
    by_cases c0 : c ≤ i
    · have q2 : iL (sqd P a b) = 0 ↔ sqd P a b = 0 := iL_eq (b := 0) (by omega) (by omega) (by omega) (by omega)
      rw [hK.1, if_pos (q0.mpr c0), show c - i = 0 by omega, (mtrn_eq hP h16 hA ha hb hb).2, bind_some, if_pos (fun z => by have := q2.mp z; omega), iL_mul]
      rfl
    · have i1 : ib (nI i) 17 := (ib_nI (by omega)).mpr (by omega)
      have lii := itr_lt hP i
      have t := (trn_b hP ha hb lii).1
      have q1 : iL (trn P a b (itr P i)) ≤ iL s ↔ _ := iL_le (by omega) (by omega) (by omega) (by omega)
      rw [hK.1, if_neg (fun z => c0 (q0.mp z)), if_pos i1, nI_clamp (show i < 2 ^ 31 by omega), hK.2 i (by omega), (mtrn_eq hP h16 hA ha hb lii).1, bind_some, nI_1]
      rw [show c - i = (c - (i + 1)) + 1 by omega]
      show _ = some (iL (mxG P a b (c - (i + 1)) (i + 1) (if s < trn P a b (itr P i) then trn P a b (itr P i) else s) * mxG P a b (c - (i + 1)) (i + 1) (if s < trn P a b (itr P i) then trn P a b (itr P i) else s)) / iL (sqd P a b))
      by_cases c1 : trn P a b (itr P i) ≤ s
      · rw [if_pos (q1.mpr c1), if_neg (by omega), ih (i + 1) s (by omega) (by omega) s1 s2]
      · rw [if_neg (fun z => c1 (q1.mp z)), if_pos (by omega), ih (i + 1) _ (by omega) (by omega) (by omega) (by omega)]
theorem m_width {P : Pts} (hP : OkP P) (h16 : P.length ≤ 16) {N : Nat} (hN : 600 ≤ N) {σ : Sg} (hA : MA P σ) (hK : KM P (cN P) σ) {e : Nat} (he : e < cN P) : f_mo_widthOn N σ (nI e) = some (wdq P (cN P) e) := by
  obtain ⟨c1, c2, c3, c4⟩ := cN_ok hP
  have i1 : ib (nI e) 17 := (ib_nI (by omega)).mpr (by omega)
  have hne := edge_ne hP he
  have le := itr_lt hP e
  unfold f_mo_widthOn
  rw [if_pos i1, hK.1, nI_1, nI_clamp (show e < 2 ^ 31 by omega), hK.2 e he]
  have q : nI (e + 1) = nI (cN P) ↔ e + 1 = cN P := nI_eq (by omega) (by omega)
  unfold wdq
  by_cases h : e + 1 = cN P
  · have e0 : nx0 (cN P) e = 0 := by unfold nx0; rw [if_neg (by omega)]
    rw [e0] at hne ⊢
    rw [if_pos (q.mpr h), hK.2 0 (by omega)]
    rw [show f_mo_widthOn_c36 N N (nI (itr P e)) (nI (itr P 0)) 0 0 σ = f_mo_widthOn_c36 N N (nI (itr P e)) (nI (itr P 0)) (iL 0) (nI 0) σ from rfl, m_mx_loop hP h16 c2 hA hK le (itr_lt hP 0) hne N 0 0 (by omega) (by omega) (by omega) (by omega)]
    rfl
  · have e0 : nx0 (cN P) e = e + 1 := by unfold nx0; rw [if_pos (by omega)]
    rw [e0] at hne ⊢
    have i2 : ib (nI (e + 1)) 17 := (ib_nI (by omega)).mpr (by omega)
    rw [if_neg (fun z => h (q.mp z)), if_pos i2, nI_clamp (show e + 1 < 2 ^ 31 by omega), hK.2 (e + 1) (by omega)]
    rw [show f_mo_widthOn_c36 N N (nI (itr P e)) (nI (itr P (e + 1))) 0 0 σ = f_mo_widthOn_c36 N N (nI (itr P e)) (nI (itr P (e + 1))) (iL 0) (nI 0) σ from rfl, m_mx_loop hP h16 c2 hA hK le (itr_lt hP (e + 1)) hne N 0 0 (by omega) (by omega) (by omega) (by omega)]
    rfl
theorem m_wide_loop {P : Pts} (hP : OkP P) (h16 : P.length ≤ 16) {N : Nat} (hN : 600 ≤ N) {σ : Sg} (hA : MA P σ) (hK : KM P (cN P) σ) : ∀ (m e : Nat) (s : Int64), e ≤ cN P → cN P - e < m → f_mo_wide_c18 N m s (nI e) σ = some (wdG P (cN P) (cN P - e) e s) := by
  obtain ⟨c1, c2, c3, c4⟩ := cN_ok hP
  intro m
  induction m with
  | zero => intro i s h1 h2; omega
  | succ m ih =>
    intro e s he hm
    show f_mo_wide_c18_s N (f_mo_wide_c18 N m) s (nI e) σ = _
    unfold f_mo_wide_c18_s
    have q0 : nI (cN P) ≤ nI e ↔ cN P ≤ e := nI_leI (by omega) (by omega)
    by_cases c0 : cN P ≤ e
    · rw [hK.1, if_pos (q0.mpr c0), show cN P - e = 0 by omega]; rfl
    · rw [hK.1, if_neg (fun z => c0 (q0.mp z)), m_width hP h16 hN hA hK (by omega), bind_some, bind_some, nI_1, ih (e + 1) _ (by omega) (by omega), ih (e + 1) _ (by omega) (by omega)]
      rw [show cN P - e = (cN P - (e + 1)) + 1 by omega]
      show _ = some (wdG P (cN P) (cN P - (e + 1)) (e + 1) (if wdq P (cN P) e < s then wdq P (cN P) e else s))
      have q1 : s ≤ wdq P (cN P) e ↔ ¬ wdq P (cN P) e < s := by
        rw [Int64.le_iff_toInt_le, Int64.lt_iff_toInt_lt]; omega
      by_cases c1 : wdq P (cN P) e < s
      · rw [if_neg (fun z => q1.mp z c1), if_pos c1]
      · rw [if_pos (q1.mpr c1), if_neg c1]
