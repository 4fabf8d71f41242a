/-! THE CLASS'S HULL -/
def ptsL (T : TS) : Nat → Pts
  | 0 => []
  | s + 1 => ptsL T s ++ (if tM T s = true then [] else [(li T s, tH T s), (ri T s, tH T s)])
def PL (T : TS) : Pts := ptsL T (tN T)
theorem ptsL_len (T : TS) : ∀ s, (ptsL T s).length ≤ 2 * s
  | 0 => by simp [ptsL]
  | s + 1 => by
    have := ptsL_len T s
    unfold ptsL
    rw [List.length_append]
    split <;> simp <;> omega
theorem ptsL_mem {T : TS} : ∀ {s : Nat} {q : Int × Int}, q ∈ ptsL T s → ∃ k, k < s ∧ tM T k = false ∧ (q = (li T k, tH T k) ∨ q = (ri T k, tH T k))
  | 0, q, h => by simp [ptsL] at h
  | s + 1, q, h => by
    unfold ptsL at h
    rcases List.mem_append.mp h with h | h
    · obtain ⟨k, h1, h2⟩ := ptsL_mem h
      exact ⟨k, by omega, h2⟩
    · split at h
      · cases h
      · rename_i hm
        refine ⟨s, by omega, by simpa using hm, ?_⟩
        simpa using h
theorem ptsL_nodup {T : TS} (hO : Ok T) : ∀ s, s ≤ tN T → (ptsL T s).Nodup
  | 0, _ => by simp [ptsL]
  | s + 1, hs => by
    unfold ptsL
    rw [List.nodup_append]
    refine ⟨ptsL_nodup hO s (by omega), ?_, ?_⟩
    · split
      · simp
      · rename_i hm
        have := li_ri hO (by omega : s < tN T) (by simpa using hm)
        simp
        omega
    · intro a ha b hb e
      subst e
      obtain ⟨k, hk, -, hq⟩ := ptsL_mem ha
      split at hb
      · cases hb
      · have h1 : a.2 = tH T k := by rcases hq with rfl | rfl <;> rfl
        have h2 : a.2 = tH T s := by
          simp at hb
          rcases hb with rfl | rfl <;> rfl
        have := hO.2.2.2 k s (by omega) (by omega) (h1.symm.trans h2)
        omega
theorem getD_mem {P : Pts} {p : Nat} (h : p < P.length) : P.getD p (0, 0) ∈ P := by
  rw [List.getD_eq_getElem?_getD, List.getElem?_eq_getElem h]
  simp
theorem PL_ok {T : TS} (hO : Ok T) (h2 : 2 ≤ (PL T).length) : OkP (PL T) := by
  refine ⟨h2, fun a b ha hb hx hy => ?_, fun a ha => ?_⟩
  · have hn := ptsL_nodup hO (tN T) (Nat.le_refl _)
    have e : (PL T).getD a (0, 0) = (PL T).getD b (0, 0) := Prod.ext hx hy
    rw [List.getD_eq_getElem?_getD, List.getElem?_eq_getElem ha, List.getD_eq_getElem?_getD, List.getElem?_eq_getElem hb] at e
    simp only [Option.getD_some] at e
    rw [List.nodup_iff_pairwise_ne, List.pairwise_iff_getElem] at hn
    rcases Nat.lt_trichotomy a b with h | h | h
    · exact absurd e (hn a b ha hb h)
    · exact h
    · exact absurd e.symm (hn b a hb ha h)
  · obtain ⟨k, hk, -, hq⟩ := ptsL_mem (getD_mem ha)
    have hb := ends_b hO hk
    have hh := (hO.2.2.1 k hk).1
    unfold gX gY
    rcases hq with h | h <;> (rw [show (PL T).getD a (0, 0) = _ from h]; simp only; omega)
theorem PL_16 {T : TS} (hO : Ok T) : (PL T).length ≤ 16 := by
  have := ptsL_len T (tN T)
  have := hO.1
  unfold PL; omega
theorem PL_even {T : TS} : ∀ s, (ptsL T s).length = 0 ∨ 2 ≤ (ptsL T s).length
  | 0 => by simp [ptsL]
  | s + 1 => by
    unfold ptsL
    rw [List.length_append]
    rcases PL_even (T := T) s with h | h
    · split
      · simp [h]
      · simp
    · omega
/-- nothing but the hull's cells has changed -/
def FH (σ0 σ : Sg) : Prop := (∀ p, (p < 12 ∨ 16 < p) → σ.1 p = σ0.1 p) ∧ σ.2 = σ0.2
theorem FH.rf (σ : Sg) : FH σ σ := ⟨fun _ _ => rfl, rfl⟩
theorem FH.tr {a b c : Sg} (h1 : FH a b) (h2 : FH b c) : FH a c := ⟨fun p hp => (h2.1 p hp).trans (h1.1 p hp), h2.2.trans h1.2⟩
theorem FH.up (σ : Sg) {p k : Nat} (x : Int32) (h1 : 12 ≤ p) (h2 : p ≤ 16) : FH σ (uI σ p k x) := by
  refine ⟨fun q hq => ?_, rfl⟩
  funext j
  rw [uI_1, if_neg (by omega)]
theorem FH.rx {T : TS} {σ0 σ : Sg} (h : FH σ0 σ) (hr : RX T σ0) : RX T σ := by
  unfold RX
  rw [h.1 4 (by decide), h.1 5 (by decide), h.1 6 (by decide), h.1 7 (by decide), h.1 8 (by decide), h.1 9 (by decide)]
  exact hr
def PA (P : Pts) (σ : Sg) : Prop := σ.1 12 2 = nI P.length ∧ ∀ p, p < P.length → σ.1 13 p = iI (gX P p) ∧ σ.1 14 p = iI (gY P p)
theorem g_app {P : Pts} {q : Int × Int} : ∀ p, p < P.length → gX (P ++ [q]) p = gX P p ∧ gY (P ++ [q]) p = gY P p := by
  intro p hp
  unfold gX gY
  simp [List.getD_eq_getElem?_getD, List.getElem?_append_left hp]
theorem g_last {P : Pts} {q : Int × Int} : gX (P ++ [q]) P.length = q.1 ∧ gY (P ++ [q]) P.length = q.2 := by
  unfold gX gY
  simp [List.getD_eq_getElem?_getD]
theorem add_pt {P : Pts} {σ : Sg} (h : PA P σ) (hl : P.length < 16) (x y : Int) : ∃ σ', f_hu_addPoint σ (iI x) (iI y) = some σ' ∧ PA (P ++ [(x, y)]) σ' ∧ FH σ σ' := by
  have q0 : ¬ ((16 : Int32) ≤ nI P.length) := by
    rw [show (16 : Int32) = nI 16 from rfl, nI_leI (by omega) (by omega)]; omega
  have i0 : ib (nI P.length) 16 := (ib_nI (by omega)).mpr hl
  unfold f_hu_addPoint
  rw [h.1, if_neg q0, if_pos i0, nm_eq]
  have e1 : (uI σ 13 (nI P.length).toNatClampNeg (iI x)).1 12 2 = nI P.length := by rw [uI_1, if_neg (by omega), h.1]
  rw [e1, if_pos i0, nm_eq, nm_eq, nI_clamp (by omega)]
  refine ⟨_, rfl, ⟨?_, fun p hp => ?_⟩, ?_⟩
  · rw [uI_1, if_pos ⟨rfl, rfl⟩, uI_1, if_neg (by omega), uI_1, if_neg (by omega), h.1, List.length_append, nI_1]
    rfl
  · rw [List.length_append, List.length_singleton] at hp
    simp only [uI_1, show ¬ ((13 : Nat) = 12) by decide, show ¬ ((14 : Nat) = 12) by decide, show ¬ ((13 : Nat) = 14) by decide, show ¬ ((14 : Nat) = 13) by decide, false_and, if_false, true_and]
    by_cases e : p = P.length
    · subst e
      rw [if_pos rfl, if_pos rfl, g_last.1, g_last.2]
      exact ⟨rfl, rfl⟩
    · rw [if_neg e, if_neg e, (g_app p (by omega)).1, (g_app p (by omega)).2]
      exact h.2 p (by omega)
  · exact ((FH.up σ _ (by decide) (by decide)).tr (FH.up _ _ (by decide) (by decide))).tr (FH.up _ _ (by decide) (by decide))
theorem collect_loop {T : TS} {σ0 : Sg} (hO : Ok T) (hR : RX T σ0) {N : Nat} : ∀ (m s : Nat) (σ : Sg), s ≤ tN T → tN T - s < m → FH σ0 σ → PA (ptsL T s) σ → ∃ σ', f_hu_collect_c7 N m (nI s) σ = some σ' ∧ FH σ0 σ' ∧ PA (PL T) σ' := by
  have h8 : tN T ≤ 8 := hO.1
  intro m
  induction m with
  | zero => intro s σ h1 h2; omega
  | succ m ih =>
    intro s σ hs hm hF hA
    have hX := hF.rx hR
    show ∃ σ', f_hu_collect_c7_s N (f_hu_collect_c7 N m) (nI s) σ = some σ' ∧ _
    unfold f_hu_collect_c7_s
    have q0 : nI (tN T) ≤ nI s ↔ tN T ≤ s := nI_leI (by omega) (by omega)
    simp only [hX.1, q0]
    by_cases c0 : tN T ≤ s
    · rw [if_pos c0]
      have : s = tN T := by omega
      subst this
      exact ⟨σ, rfl, hF, hA⟩
    · rw [if_neg c0]
      have hk : s < tN T := by omega
      have i1 : ib (nI s) 8 := (ib_nI (by omega)).mpr (by omega)
      simp only [if_pos i1, nI_clamp (show s < 2 ^ 31 by omega), (hX.2.2 s hk).2.1, (hX.2.2 s hk).1, b01_0, nI_1]
      by_cases c1 : tM T s = false
      · rw [if_pos c1, (x_inner hO hX hk).1, bind_some]
        have hl := ptsL_len T s
        obtain ⟨σ1, e1, A1, F1⟩ := add_pt hA (by omega) (li T s) (tH T s)
        rw [e1, bind_some]
        have hX1 := (hF.tr F1).rx hR
        rw [(x_inner hO hX1 hk).2, bind_some, iI_neg, Int.neg_neg, (hX1.2.2 s hk).1]
        obtain ⟨σ2, e2, A2, F2⟩ := add_pt A1 (by rw [List.length_append]; simp; omega) (ri T s) (tH T s)
        rw [e2, bind_some]
        refine ih (s + 1) σ2 (by omega) (by omega) ((hF.tr F1).tr F2) ?_
        have : ptsL T (s + 1) = ptsL T s ++ [(li T s, tH T s)] ++ [(ri T s, tH T s)] := by
          conv => lhs; unfold ptsL
          rw [if_neg (by rw [c1]; decide)]
          simp
        rw [this]
        exact A2
      · rw [if_neg c1]
        refine ih (s + 1) σ (by omega) (by omega) hF ?_
        have : ptsL T (s + 1) = ptsL T s := by
          conv => lhs; unfold ptsL
          rw [if_pos (by simpa using c1)]
          simp
        rw [this]
        exact hA
theorem collect_eq {T : TS} {σ : Sg} (hO : Ok T) (hR : RX T σ) {N : Nat} (hN : 600 ≤ N) : ∃ σ', f_hu_collect N σ = some σ' ∧ FH σ σ' ∧ PA (PL T) σ' := by
  have h8 : tN T ≤ 8 := hO.1
  unfold f_hu_collect
  rw [nm_eq, show (0 : Int32) = nI 0 from rfl]
  refine collect_loop hO hR N 0 _ (by omega) (by omega) (FH.up σ _ (by decide) (by decide)) ⟨by rw [uI_1, if_pos ⟨rfl, rfl⟩]; rfl, fun p hp => by simp [ptsL] at hp⟩
/-- leftmost, next -/
theorem xlm_loop {P : Pts} (hP : OkP P) (h16 : P.length ≤ 16) {σ : Sg} (hA : PA P σ) {N : Nat} : ∀ (m p b : Nat), p ≤ P.length → P.length - p < m → b < P.length → f_hu_leftmost_c4 N m (nI b) (nI p) σ = some (nI (lmg P (P.length - p) p b)) := by
  intro m
  induction m with
  | zero => intro p b h1 h2; omega
  | succ m ih =>
    intro p b hp hm hb
    show f_hu_leftmost_c4_s N (f_hu_leftmost_c4 N m) (nI b) (nI p) σ = _
    unfold f_hu_leftmost_c4_s
    have q0 : nI P.length ≤ nI p ↔ P.length ≤ p := nI_leI (by omega) (by omega)
    simp only [hA.1, q0]
    by_cases c0 : P.length ≤ p
    · rw [if_pos c0, show P.length - p = 0 by omega]; rfl
    · rw [if_neg c0]
      have i1 : ib (nI p) 16 := (ib_nI (by omega)).mpr (by omega)
      have i2 : ib (nI b) 16 := (ib_nI (by omega)).mpr (by omega)
      have bp := hP.2.2 p (by omega)
      have bb := hP.2.2 b hb
      have q1 : iI (gX P p) < iI (gX P b) ↔ _ := iI_lt (by omega) (by omega) (by omega) (by omega)
      have q2 : iI (gX P p) = iI (gX P b) ↔ _ := iI_eq (by omega) (by omega) (by omega) (by omega)
      have q3 : iI (gY P b) ≤ iI (gY P p) ↔ _ := iI_le (by omega) (by omega) (by omega) (by omega)
      simp only [if_pos i1, if_pos i2, nI_clamp (show p < 2 ^ 31 by omega), nI_clamp (show b < 2 ^ 31 by omega), (hA.2 p (by omega)).1, (hA.2 p (by omega)).2, (hA.2 b hb).1, (hA.2 b hb).2, q1, q2, q3, nI_1]
      rw [show P.length - p = (P.length - (p + 1)) + 1 by omega]
      show _ = some (nI (lmg P (P.length - (p + 1)) (p + 1) (lms P b p)))
      by_cases c1 : gX P p < gX P b
      · rw [if_pos c1, ih (p + 1) p (by omega) (by omega) (by omega), lms_t (Or.inl c1)]
      · rw [if_neg c1]
        by_cases c2 : gX P p = gX P b
        · rw [if_pos c2]
          by_cases c3 : gY P b ≤ gY P p
          · rw [if_pos c3, ih (p + 1) b (by omega) (by omega) hb, lms_f (by omega)]
          · rw [if_neg c3, ih (p + 1) p (by omega) (by omega) (by omega), lms_t (Or.inr ⟨c2, by omega⟩)]
        · rw [if_neg c2, ih (p + 1) b (by omega) (by omega) hb, lms_f (by omega)]
theorem xlm_eq {P : Pts} (hP : OkP P) (h16 : P.length ≤ 16) {σ : Sg} (hA : PA P σ) {N : Nat} (hN : 600 ≤ N) : f_hu_leftmost N σ = some (nI (lmf P)) := by
  have := hP.1
  unfold f_hu_leftmost
  rw [show (0 : Int32) = nI 0 from rfl, show (1 : Int32) = nI 1 from rfl, xlm_loop hP h16 hA N 1 0 (by omega) (by omega) (by omega)]
  rfl
theorem trn_b {P : Pts} (hP : OkP P) {a b c : Nat} (ha : a < P.length) (hb : b < P.length) (hc : c < P.length) : (-16640000 ≤ trn P a b c ∧ trn P a b c ≤ 16640000) ∧ (0 ≤ sqd P a b ∧ sqd P a b ≤ 432800000) := by
  have b1 := hP.2.2 a ha
  have b2 := hP.2.2 b hb
  have b3 := hP.2.2 c hc
  have m1 := mb (a := gX P b - gX P a) (A := 20800) (b := gY P c - gY P a) (B := 400) (by omega) (by omega) (by omega) (by omega)
  have m2 := mb (a := gY P b - gY P a) (A := 400) (b := gX P c - gX P a) (B := 20800) (by omega) (by omega) (by omega) (by omega)
  have m3 := mb (a := gX P a - gX P b) (A := 20800) (b := gX P a - gX P b) (B := 20800) (by omega) (by omega) (by omega) (by omega)
  have m4 := mb (a := gY P a - gY P b) (A := 400) (b := gY P a - gY P b) (B := 400) (by omega) (by omega) (by omega) (by omega)
  have s1 := sq_nn (gX P a - gX P b)
  have s2 := sq_nn (gY P a - gY P b)
  unfold trn sqd
  omega
theorem byd_eq {P : Pts} (hP : OkP P) (h16 : P.length ≤ 16) {σ : Sg} (hA : PA P σ) {a b p : Nat} (ha : a < P.length) (hb : b < P.length) (hp : p < P.length) : f_hu_isBeyond σ (nI a) (nI b) (nI p) = some (fl (byd P a b p)) := by
  have ia : ib (nI a) 16 := (ib_nI (by omega)).mpr (by omega)
  have ib' : ib (nI b) 16 := (ib_nI (by omega)).mpr (by omega)
  have ip : ib (nI p) 16 := (ib_nI (by omega)).mpr (by omega)
  have t := trn_b hP ha hb hp
  have t2 := trn_b hP ha hp hp
  unfold f_hu_isBeyond f_hu_square
  simp only [if_pos ia, if_pos ib', if_pos ip, nI_clamp (show a < 2 ^ 31 by omega), nI_clamp (show b < 2 ^ 31 by omega), nI_clamp (show p < 2 ^ 31 by omega), (hA.2 a ha).1, (hA.2 a ha).2, (hA.2 b hb).1, (hA.2 b hb).2, (hA.2 p hp).1, (hA.2 p hp).2, iI_sub, iI_mul, iI_add]
  have et : (gX P b - gX P a) * (gY P p - gY P a) - (gX P p - gX P a) * (gY P b - gY P a) = trn P a b p := by unfold trn; grind
  have e1 : (gX P p - gX P a) * (gX P p - gX P a) + (gY P p - gY P a) * (gY P p - gY P a) = sqd P a p := (sqd_u P a p).symm
  have e2 : (gX P b - gX P a) * (gX P b - gX P a) + (gY P b - gY P a) * (gY P b - gY P a) = sqd P a b := (sqd_u P a b).symm
  rw [et, e1, e2]
  have q1 : iI (trn P a b p) < 0 ↔ trn P a b p < 0 := iI_lt (b := 0) (by omega) (by omega) (by omega) (by omega)
  have q2 : iI (trn P a b p) = 0 ↔ trn P a b p = 0 := iI_eq (b := 0) (by omega) (by omega) (by omega) (by omega)
  have q3 : iI (sqd P a p) ≤ iI (sqd P a b) ↔ _ := iI_le (by omega) (by omega) (by omega) (by omega)
  simp only [q1, q2, q3]
  by_cases c1 : trn P a b p < 0
  · rw [if_pos c1, fl_t (p := byd P a b p) (Or.inl c1)]
  · rw [if_neg c1]
    by_cases c2 : trn P a b p = 0
    · rw [if_pos c2]
      by_cases c3 : sqd P a p ≤ sqd P a b
      · rw [if_pos c3, fl_f (p := byd P a b p) (by unfold byd; omega)]
      · rw [if_neg c3, fl_t (p := byd P a b p) (Or.inr ⟨c2, by omega⟩)]
    · rw [if_neg c2, fl_f (p := byd P a b p) (by unfold byd; omega)]
theorem xnx_loop {P : Pts} (hP : OkP P) (h16 : P.length ≤ 16) {σ : Sg} (hA : PA P σ) {N a : Nat} (ha : a < P.length) : ∀ (m p b : Nat), p ≤ P.length → P.length - p < m → b < P.length → b ≠ a → f_hu_next_c4 N m (nI a) (nI b) (nI p) σ = some (nI (nxg P a (P.length - p) p b)) := by
  intro m
  induction m with
  | zero => intro p b h1 h2; omega
  | succ m ih =>
    intro p b hp hm hb hba
    show f_hu_next_c4_s N (f_hu_next_c4 N m) (nI a) (nI b) (nI p) σ = _
    unfold f_hu_next_c4_s
    have q0 : nI P.length ≤ nI p ↔ P.length ≤ p := nI_leI (by omega) (by omega)
    have q1 : nI p = nI a ↔ p = a := nI_eq (by omega) (by omega)
    have q2 : nI b = nI a ↔ b = a := nI_eq (by omega) (by omega)
    simp only [hA.1, q0, q1, q2]
    by_cases c0 : P.length ≤ p
    · rw [if_pos c0, show P.length - p = 0 by omega]; rfl
    · rw [if_neg c0, if_neg hba, nI_1]
      rw [show P.length - p = (P.length - (p + 1)) + 1 by omega]
      show _ = some (nI (nxg P a (P.length - (p + 1)) (p + 1) (nxs P a b p)))
      by_cases c1 : p = a
      · rw [if_pos c1, ih (p + 1) b (by omega) (by omega) hb hba, nxs_f (fun z => z.1 c1)]
      · rw [if_neg c1, byd_eq hP h16 hA ha hb (by omega), bind_some]
        rcases Classical.em (byd P a b p) with h | h
        · rw [fl_t h, if_neg (by decide), ih (p + 1) p (by omega) (by omega) (by omega) c1, nxs_t ⟨c1, h⟩]
        · rw [fl_f h, if_pos rfl, ih (p + 1) b (by omega) (by omega) hb hba, nxs_f (fun z => h z.2)]
theorem byd_self (P : Pts) (a b : Nat) : ¬ byd P a b b := by
  have h : trn P a b b = 0 := by unfold trn; grind
  unfold byd; omega
theorem xnx_eq {P : Pts} (hP : OkP P) (h16 : P.length ≤ 16) {σ : Sg} (hA : PA P σ) {N a : Nat} (hN : 600 ≤ N) (ha : a < P.length) : f_hu_next N σ (nI a) = some (nI (nxt P a)) := by
  have h2 := hP.1
  unfold f_hu_next
  obtain ⟨N1, rfl⟩ : ∃ N1, N = N1 + 2 := ⟨N - 2, by omega⟩
  have e0 : ¬ (nI P.length ≤ nI 0) := by rw [nI_leI (by omega) (by omega)]; omega
  have e1 : ¬ (nI P.length ≤ nI 1) := by rw [nI_leI (by omega) (by omega)]; omega
  show f_hu_next_c4_s (N1 + 2) (f_hu_next_c4 (N1 + 2) (N1 + 1)) (nI a) (nI a) (nI 0) σ = _
  unfold f_hu_next_c4_s
  rw [hA.1, if_neg e0]
  unfold nxt
  by_cases c : a = 0
  · subst c
    rw [if_pos rfl, if_pos rfl, nI_1]
    show f_hu_next_c4_s (N1 + 2) (f_hu_next_c4 (N1 + 2) N1) (nI 0) (nI 0) (nI 1) σ = _
    unfold f_hu_next_c4_s
    rw [hA.1, if_neg e1, if_neg (by decide), if_pos rfl, nI_1, xnx_loop hP h16 hA ha N1 2 1 (by omega) (by omega) (by omega) (by omega)]
    congr 2
    obtain ⟨d, hd⟩ : ∃ d, P.length = d + 2 := ⟨P.length - 2, by omega⟩
    rw [hd]
    show _ = nxg P 0 d 2 (nxs P 0 (nxs P 0 1 0) 1)
    rw [nxs_f (fun z => z.1 rfl), nxs_f (fun z => byd_self P 0 1 z.2)]
    rfl
  · have q : ¬ (nI 0 = nI a) := fun z => c ((nI_eq (a := 0) (b := a) (by omega) (by omega)).mp z).symm
    rw [if_neg q, if_pos rfl, if_neg c, nI_1, xnx_loop hP h16 hA ha (N1 + 1) 1 0 (by omega) (by omega) (by omega) (fun z => c z.symm)]
    congr 2
    obtain ⟨d, hd⟩ : ∃ d, P.length = d + 1 := ⟨P.length - 1, by omega⟩
    rw [hd]
    show _ = nxg P a d 1 (nxs P a 0 0)
    rw [nxs_f (fun z => byd_self P a 0 z.2)]
    rfl
/-- the corners that are laid -/
def KX (P : Pts) (s : Nat) (σ : Sg) : Prop := σ.1 12 5 = nI s ∧ ∀ j, j < s → σ.1 15 j = iI (gX P (itr P j)) ∧ σ.1 16 j = iI (gY P (itr P j))
theorem wrap_loop {P : Pts} (hP : OkP P) (h16 : P.length ≤ 16) {σ0 : Sg} {c N : Nat} (hN : 600 ≤ N) (hc : c ≤ P.length) (hcc : itr P c = itr P 0) (hcm : ∀ j, 0 < j → j < c → itr P j ≠ itr P 0) :
    ∀ (m s : Nat) (σ : Sg), s < c → c - s < m → FH σ0 σ → PA P σ → KX P s σ → ∃ σ', f_hu_wrap_c25 N m (nI (itr P 0)) (nI (itr P s)) σ = some σ' ∧ FH σ0 σ' ∧ PA P σ' ∧ KX P c σ' := by
  intro m
  induction m with
  | zero => intro s σ h1 h2; omega
  | succ m ih =>
    intro s σ hs hm hF hA hK
    show ∃ σ', f_hu_wrap_c25_s N (f_hu_wrap_c25 N m) (nI (itr P 0)) (nI (itr P s)) σ = some σ' ∧ _
    unfold f_hu_wrap_c25_s
    have hl := itr_lt hP s
    have i1 : ib (nI (itr P s)) 16 := (ib_nI (by omega)).mpr (by omega)
    have i2 : ib (nI s) 16 := (ib_nI (by omega)).mpr (by omega)
    rw [hK.1, if_pos i1, if_pos i2, nm_eq, nI_clamp (show s < 2 ^ 31 by omega), nI_clamp (show itr P s < 2 ^ 31 by omega), (hA.2 _ hl).1]
    have e1 : (uI σ 15 s (iI (gX P (itr P s)))).1 12 5 = nI s := by rw [uI_1, if_neg (by omega), hK.1]
    have e2 : (uI σ 15 s (iI (gX P (itr P s)))).1 14 (itr P s) = iI (gY P (itr P s)) := by rw [uI_1, if_neg (by omega), (hA.2 _ hl).2]
    rw [e1, if_pos i2, nm_eq, nI_clamp (show s < 2 ^ 31 by omega), e2, nm_eq]
    have e3 : (uI (uI σ 15 s (iI (gX P (itr P s)))) 16 s (iI (gY P (itr P s)))).1 12 5 = nI s := by rw [uI_1, if_neg (by omega), e1]
    rw [e3, nI_1]
    generalize hσ : uI (uI (uI σ 15 s (iI (gX P (itr P s)))) 16 s (iI (gY P (itr P s)))) 12 5 (nI (s + 1)) = σ1
    have F1 : FH σ σ1 := by
      rw [← hσ]
      exact ((FH.up σ _ (by decide) (by decide)).tr (FH.up _ _ (by decide) (by decide))).tr (FH.up _ _ (by decide) (by decide))
    have A1 : PA P σ1 := by
      refine ⟨?_, fun p hp => ⟨?_, ?_⟩⟩
      · rw [← hσ, uI_1, if_neg (by omega), uI_1, if_neg (by omega), uI_1, if_neg (by omega), hA.1]
      · rw [← hσ, uI_1, if_neg (by omega), uI_1, if_neg (by omega), uI_1, if_neg (by omega), (hA.2 p hp).1]
      · rw [← hσ, uI_1, if_neg (by omega), uI_1, if_neg (by omega), uI_1, if_neg (by omega), (hA.2 p hp).2]
    have K1 : KX P (s + 1) σ1 := by
      refine ⟨by rw [← hσ, uI_1, if_pos ⟨rfl, rfl⟩], fun j hj => ⟨?_, ?_⟩⟩
      · rw [← hσ, uI_1, if_neg (by omega), uI_1, if_neg (by omega), uI_1]
        by_cases e : j = s
        · subst e; rw [if_pos ⟨rfl, rfl⟩]
        · rw [if_neg (by omega), (hK.2 j (by omega)).1]
      · rw [← hσ, uI_1, if_neg (by omega), uI_1]
        by_cases e : j = s
        · subst e; rw [if_pos ⟨rfl, rfl⟩]
        · rw [if_neg (by omega), uI_1, if_neg (by omega), (hK.2 j (by omega)).2]
    rw [xnx_eq hP h16 A1 hN hl, bind_some]
    show ∃ σ', (if nI (itr P (s + 1)) = nI (itr P 0) then some σ1 else if σ1.1 12 5 < 16 then f_hu_wrap_c25 N m (nI (itr P 0)) (nI (itr P (s + 1))) σ1 else some σ1) = some σ' ∧ _
    have hl1 := itr_lt hP (s + 1)
    have hl0 := itr_lt hP 0
    have q : nI (itr P (s + 1)) = nI (itr P 0) ↔ itr P (s + 1) = itr P 0 := nI_eq (by omega) (by omega)
    by_cases c1 : itr P (s + 1) = itr P 0
    · rw [if_pos (q.mpr c1)]
      have : s + 1 = c := by
        rcases Nat.lt_or_ge (s + 1) c with h | h
        · exact absurd c1 (hcm (s + 1) (by omega) h)
        · omega
      subst this
      exact ⟨σ1, rfl, hF.tr F1, A1, K1⟩
    · rw [if_neg (fun z => c1 (q.mp z))]
      have hsc : s + 1 < c := by
        rcases Nat.lt_or_ge (s + 1) c with h | h
        · exact h
        · have : s + 1 = c := by omega
          rw [this] at c1
          exact absurd hcc c1
      have q2 : nI (s + 1) < 16 := by rw [show (16 : Int32) = nI 16 from rfl, nI_ltI (by omega) (by omega)]; omega
      rw [K1.1, if_pos q2]
      exact ih (s + 1) σ1 hsc (by omega) (hF.tr F1) A1 K1
/-- how many corners: none without points -/
noncomputable def cN (P : Pts) : Nat := @dite Nat (OkP P) (Classical.propDecidable _) (fun h => Classical.choose (itr_per h)) (fun _ => 0)
theorem cN_ok {P : Pts} (h : OkP P) : 0 < cN P ∧ cN P ≤ P.length ∧ itr P (cN P) = itr P 0 ∧ ∀ j, 0 < j → j < cN P → itr P j ≠ itr P 0 := by
  unfold cN
  rw [dif_pos h]
  exact Classical.choose_spec (itr_per h)
theorem cN_0 {P : Pts} (h : P.length = 0) : cN P = 0 := by
  unfold cN
  rw [dif_neg (fun z => by have := z.1; omega)]
/-- the class's hull -/
theorem wrap_eq {T : TS} {σ : Sg} (hO : Ok T) (hR : RX T σ) {N : Nat} (hN : 600 ≤ N) : ∃ σ', f_hu_wrap N σ = some σ' ∧ FH σ σ' ∧ KX (PL T) (cN (PL T)) σ' := by
  obtain ⟨σ1, e1, F1, A1⟩ := collect_eq hO hR hN
  have h16 := PL_16 hO
  unfold f_hu_wrap
  rw [e1, bind_some, nm_eq]
  have e2 : (uI σ1 12 5 0).1 12 2 = nI (PL T).length := by rw [uI_1, if_neg (by omega), A1.1]
  have F2 : FH σ (uI σ1 12 5 0) := F1.tr (FH.up σ1 _ (by decide) (by decide))
  have A2 : PA (PL T) (uI σ1 12 5 0) := by
    refine ⟨e2, fun p hp => ⟨?_, ?_⟩⟩
    · rw [uI_1, if_neg (by omega), (A1.2 p hp).1]
    · rw [uI_1, if_neg (by omega), (A1.2 p hp).2]
  have K2 : KX (PL T) 0 (uI σ1 12 5 0) := ⟨by rw [uI_1, if_pos ⟨rfl, rfl⟩]; rfl, fun j hj => by omega⟩
  have q : nI (PL T).length = 0 ↔ (PL T).length = 0 := nI_eq (b := 0) (by omega) (by omega)
  rw [e2]
  rcases PL_even (T := T) (tN T) with h | h
  · rw [if_pos (q.mpr h), cN_0 (P := PL T) h]
    exact ⟨_, rfl, F2, K2⟩
  · have hP := PL_ok hO h
    obtain ⟨c1, c2, c3, c4⟩ := cN_ok hP
    rw [if_neg (fun z => by have := q.mp z; unfold PL at this; omega), xlm_eq hP h16 A2 hN, bind_some]
    obtain ⟨σ3, e3, F3, -, K3⟩ := wrap_loop hP h16 hN c2 c3 c4 N 0 _ c1 (by omega) F2 A2 K2
    exact ⟨σ3, e3, F3, K3⟩
