/-! THE MODEL'S HULL -/
/-- what every answer of the model rests on is kept, and so is the class -/
def FMc (a b : Sg) : Prop := (∀ p, p < 20 → b.1 p = a.1 p ∧ b.2 p = a.2 p) ∧ (∀ p, 21 ≤ p → p ≤ 26 → b.1 p = a.1 p) ∧ (b.1 20 0 = a.1 20 0 ∧ b.1 20 2 = a.1 20 2 ∧ b.1 20 8 = a.1 20 8 ∧ b.1 20 9 = a.1 20 9 ∧ b.1 20 10 = a.1 20 10)
def FMb (a b : Sg) : Prop := FMc a b ∧ b.2 20 24 = a.2 20 24
theorem FMc.rf (a : Sg) : FMc a a := ⟨fun _ _ => ⟨rfl, rfl⟩, fun _ _ _ => rfl, rfl, rfl, rfl, rfl, rfl⟩
theorem FMc.tr {a b c : Sg} (h1 : FMc a b) (h2 : FMc b c) : FMc a c := ⟨fun p hp => ⟨((h2.1 p hp).1).trans (h1.1 p hp).1, ((h2.1 p hp).2).trans (h1.1 p hp).2⟩, fun p q r => (h2.2.1 p q r).trans (h1.2.1 p q r), h2.2.2.1.trans h1.2.2.1, h2.2.2.2.1.trans h1.2.2.2.1, h2.2.2.2.2.1.trans h1.2.2.2.2.1, h2.2.2.2.2.2.1.trans h1.2.2.2.2.2.1, h2.2.2.2.2.2.2.trans h1.2.2.2.2.2.2⟩
theorem FMb.rf (a : Sg) : FMb a a := ⟨FMc.rf a, rfl⟩
theorem FMb.tr {a b c : Sg} (h1 : FMb a b) (h2 : FMb b c) : FMb a c := ⟨h1.1.tr h2.1, h2.2.trans h1.2⟩
theorem FMc.upI (σ : Sg) {p k : Nat} (x : Int32) (h : (p = 20 ∧ k ≠ 0 ∧ k ≠ 2 ∧ k ≠ 8 ∧ k ≠ 9 ∧ k ≠ 10) ∨ 27 ≤ p) : FMc σ (uI σ p k x) := by
  refine ⟨fun q hq => ⟨?_, rfl⟩, fun q h1 h2 => ?_, ?_, ?_, ?_, ?_, ?_⟩
  · funext j; rw [uI_1, if_neg (by omega)]
  · funext j; rw [uI_1, if_neg (by omega)]
  all_goals (rw [uI_1, if_neg (by omega)])
theorem FMb.upI (σ : Sg) {p k : Nat} (x : Int32) (h : (p = 20 ∧ k ≠ 0 ∧ k ≠ 2 ∧ k ≠ 8 ∧ k ≠ 9 ∧ k ≠ 10) ∨ 27 ≤ p) : FMb σ (uI σ p k x) := ⟨FMc.upI σ x h, rfl⟩
theorem FMc.upJ (σ : Sg) {p k : Nat} (x : Int64) (h : 20 ≤ p) : FMc σ (uJ σ p k x) := by
  refine ⟨fun q hq => ⟨rfl, ?_⟩, fun q h1 h2 => rfl, rfl, rfl, rfl, rfl, rfl⟩
  funext j; rw [uJ_2, if_neg (by omega)]
theorem FMb.upJ (σ : Sg) {p k : Nat} (x : Int64) (h : 20 ≤ p) (h2 : p ≠ 20 ∨ k ≠ 24) : FMb σ (uJ σ p k x) := ⟨FMc.upJ σ x h, by rw [uJ_2, if_neg (by omega)]⟩
theorem FMc.rm {T : TS} {a b : Sg} (h : FMc a b) (hr : RM T a) : RM T b := by
  obtain ⟨-, h2, -, h3, h4, -, -⟩ := h
  unfold RM
  rw [h3, h4, h2 22 (by decide) (by decide), h2 23 (by decide) (by decide), h2 24 (by decide) (by decide), h2 25 (by decide) (by decide), h2 26 (by decide) (by decide)]
  exact hr
def MA (P : Pts) (σ : Sg) : Prop := σ.1 20 16 = nI P.length ∧ ∀ p, p < P.length → σ.2 28 p = iL (gX P p) ∧ σ.2 29 p = iL (gY P p)
theorem m_add {P : Pts} {σ : Sg} (h : MA P σ) (hl : P.length < 16) (x y : Int) : MA (P ++ [(x, y)]) (uI (uJ (uJ σ 28 P.length (iL x)) 29 P.length (iL y)) 20 16 (nI (P.length + 1))) := by
  refine ⟨by rw [uI_1, if_pos ⟨rfl, rfl⟩, List.length_append]; rfl, fun p hp => ?_⟩
  rw [List.length_append, List.length_singleton] at hp
  rw [uI_2, uJ_2, uJ_2, uJ_2, uJ_2]
  by_cases e : p = P.length
  · subst e
    rw [if_neg (by omega), if_pos ⟨rfl, rfl⟩, if_pos ⟨rfl, rfl⟩, g_last.1, g_last.2]
    exact ⟨rfl, rfl⟩
  · rw [if_neg (by omega), if_neg (by omega), if_neg (by omega), if_neg (by omega), (g_app p (by omega)).1, (g_app p (by omega)).2]
    exact h.2 p (by omega)
/-- one side of a station's chord is laid -/
theorem lay1 {T : TS} {σ : Sg} (hO : Ok T) (hR : RM T σ) {P : Pts} (hA : MA P σ) (hl : P.length < 16) {k N : Nat} (hk : k < tN T) (hm : tM T k = false) (kc : Int32 → Sg → Option Sg) (n : Nat) (side : Nat) (x : Int) (hs : side = 1 ∨ side = 2) (hb : f_mo_bound σ (nI k) (nI side) = some (iI x)) (hx : -10400 ≤ x ∧ x ≤ 10400) :
    f_mo_layPoints_c17 N kc (n + 1) (nI k) (nI side) σ = f_mo_layPoints_c17 N kc n (nI k) (nI (side + 1)) (uI (uJ (uJ σ 28 P.length (iL x)) 29 P.length (iL (tH T k))) 20 16 (nI (P.length + 1))) := by
  have h8 : tN T ≤ 8 := hO.1
  have oh := (hO.2.2.1 k hk).1
  show f_mo_layPoints_c17_s N kc (f_mo_layPoints_c17 N kc n) (nI k) (nI side) σ = _
  unfold f_mo_layPoints_c17_s
  have q0 : ¬ ((3 : Int32) ≤ nI side) := by rw [show (3 : Int32) = nI 3 from rfl, nI_leI (by omega) (by omega)]; omega
  have i1 : ib (nI k) 8 := (ib_nI (by omega)).mpr (by omega)
  have i2 : ib (nI P.length) 16 := (ib_nI (by omega)).mpr hl
  rw [if_neg q0, if_pos i1, nI_clamp (show k < 2 ^ 31 by omega), (hR.2.2 k hk).2.1, if_pos ((b01_0 _).mpr hm), hb, bind_some, hA.1, if_pos i2, nm_eq, uJ_1, hA.1, if_pos i2, nm_eq, nm_eq, nI_clamp (show P.length < 2 ^ 31 by omega), uJ_1, uJ_1, hA.1, (hR.2.2 k hk).1, nI_1, nI_1, iI_L (by omega) (by omega), iI_L (by omega) (by omega)]
theorem lay_loop {T : TS} {σ0 : Sg} (hO : Ok T) (hR : RM T σ0) {N : Nat} (hN : 600 ≤ N) : ∀ (m s : Nat) (σ : Sg), s ≤ tN T → tN T - s < m → FMb σ0 σ → MA (ptsL T s) σ → ∃ σ', f_mo_layPoints_c7 N m (nI s) σ = some σ' ∧ FMb σ0 σ' ∧ MA (PL T) σ' := by
  have h8 : tN T ≤ 8 := hO.1
  intro m
  induction m with
  | zero => intro s σ h1 h2; omega
  | succ m ih =>
    intro s σ hs hm hF hA
    have hX := hF.1.rm hR
    show ∃ σ', f_mo_layPoints_c7_s N (f_mo_layPoints_c7 N m) (nI s) σ = some σ' ∧ _
    unfold f_mo_layPoints_c7_s
    have q0 : nI (tN T) ≤ nI s ↔ tN T ≤ s := nI_leI (by omega) (by omega)
    simp only [hX.1, q0]
    by_cases c0 : tN T ≤ s
    · rw [if_pos c0]
      have : s = tN T := by omega
      subst this
      exact ⟨σ, rfl, hF, hA⟩
    · rw [if_neg c0]
      have hk : s < tN T := by omega
      obtain ⟨N1, rfl⟩ : ∃ N1, N = N1 + 3 := ⟨N - 3, by omega⟩
      by_cases c1 : tM T s = false
      · have hl := ptsL_len T s
        have eb := ends_b hO hk
        have B := m_bound hO hX hk
        rw [show (1 : Int32) = nI 1 from rfl, lay1 hO hX hA (by omega) hk c1 _ (N1 + 2) 1 (li T s) (Or.inl rfl) B.2.1 (by omega)]
        have A1 := m_add hA (by omega) (li T s) (tH T s)
        generalize hσ1 : uI (uJ (uJ σ 28 (ptsL T s).length (iL (li T s))) 29 (ptsL T s).length (iL (tH T s))) 20 16 (nI ((ptsL T s).length + 1)) = σ1 at A1 ⊢
        have F1 : FMb σ σ1 := by
          rw [← hσ1]
          exact ((FMb.upJ σ _ (by decide) (Or.inl (by decide))).tr (FMb.upJ _ _ (by decide) (Or.inl (by decide)))).tr (FMb.upI _ _ (Or.inl (by decide)))
        have hX1 := (hF.tr F1).1.rm hR
        have B1 := m_bound hO hX1 hk
        have hl1 : (ptsL T s ++ [(li T s, tH T s)]).length < 16 := by rw [List.length_append]; simp; omega
        rw [lay1 hO hX1 A1 hl1 hk c1 _ (N1 + 1) 2 (ri T s) (Or.inr rfl) B1.2.2.1 (by omega)]
        have A2 := m_add A1 hl1 (ri T s) (tH T s)
        generalize hσ2 : uI (uJ (uJ σ1 28 (ptsL T s ++ [(li T s, tH T s)]).length (iL (ri T s))) 29 (ptsL T s ++ [(li T s, tH T s)]).length (iL (tH T s))) 20 16 (nI ((ptsL T s ++ [(li T s, tH T s)]).length + 1)) = σ2 at A2 ⊢
        have F2 : FMb σ1 σ2 := by
          rw [← hσ2]
          exact ((FMb.upJ σ1 _ (by decide) (Or.inl (by decide))).tr (FMb.upJ _ _ (by decide) (Or.inl (by decide)))).tr (FMb.upI _ _ (Or.inl (by decide)))
        show ∃ σ', f_mo_layPoints_c17_s (N1 + 3) (f_mo_layPoints_c7 (N1 + 3) m) (f_mo_layPoints_c17 (N1 + 3) (f_mo_layPoints_c7 (N1 + 3) m) N1) (nI s) (nI 3) σ2 = some σ' ∧ _
        unfold f_mo_layPoints_c17_s
        rw [if_pos (by decide), nI_1]
        refine ih (s + 1) σ2 (by omega) (by omega) ((hF.tr F1).tr F2) ?_
        have : ptsL T (s + 1) = ptsL T s ++ [(li T s, tH T s)] ++ [(ri T s, tH T s)] := by
          conv => lhs; unfold ptsL
          rw [if_neg (by rw [c1]; decide)]
          simp
        rw [this]
        exact A2
      · show ∃ σ', f_mo_layPoints_c17_s (N1 + 3) (f_mo_layPoints_c7 (N1 + 3) m) (f_mo_layPoints_c17 (N1 + 3) (f_mo_layPoints_c7 (N1 + 3) m) (N1 + 2)) (nI s) 1 σ = some σ' ∧ _
        unfold f_mo_layPoints_c17_s
        have i1 : ib (nI s) 8 := (ib_nI (by omega)).mpr (by omega)
        rw [if_neg (by decide), if_pos i1, nI_clamp (show s < 2 ^ 31 by omega), (hX.2.2 s hk).2.1, if_neg (fun z => c1 ((b01_0 _).mp z)), nI_1]
        refine ih (s + 1) σ (by omega) (by omega) hF ?_
        have : ptsL T (s + 1) = ptsL T s := by
          conv => lhs; unfold ptsL
          rw [if_pos (by simpa using c1)]
          simp
        rw [this]
        exact hA
theorem lay_eq {T : TS} {σ : Sg} (hO : Ok T) (hR : RM T σ) {N : Nat} (hN : 600 ≤ N) : ∃ σ', f_mo_layPoints N σ = some σ' ∧ FMb σ σ' ∧ MA (PL T) σ' := by
  have h8 : tN T ≤ 8 := hO.1
  unfold f_mo_layPoints
  rw [nm_eq, show (0 : Int32) = nI 0 from rfl]
  exact lay_loop hO hR hN N 0 _ (by omega) (by omega) (FMb.upI σ _ (Or.inl (by decide))) ⟨by rw [uI_1, if_pos ⟨rfl, rfl⟩]; rfl, fun p hp => by simp [ptsL] at hp⟩
theorem mtrn_eq {P : Pts} (hP : OkP P) (h16 : P.length ≤ 16) {σ : Sg} (hA : MA P σ) {a b c : Nat} (ha : a < P.length) (hb : b < P.length) (hc : c < P.length) : f_mo_turn σ (nI a) (nI b) (nI c) = some (iL (trn P a b c)) ∧ f_mo_square σ (nI a) (nI b) = some (iL (sqd P a b)) := by
  have ia : ib (nI a) 16 := (ib_nI (by omega)).mpr (by omega)
  have ib' : ib (nI b) 16 := (ib_nI (by omega)).mpr (by omega)
  have ic : ib (nI c) 16 := (ib_nI (by omega)).mpr (by omega)
  unfold f_mo_turn f_mo_square
  simp only [if_pos ia, if_pos ib', if_pos ic, nI_clamp (show a < 2 ^ 31 by omega), nI_clamp (show b < 2 ^ 31 by omega), nI_clamp (show c < 2 ^ 31 by omega), (hA.2 a ha).1, (hA.2 a ha).2, (hA.2 b hb).1, (hA.2 b hb).2, (hA.2 c hc).1, (hA.2 c hc).2, iL_sub, iL_mul, iL_add]
  exact ⟨rfl, rfl⟩
theorem mnx_loop {P : Pts} (hP : OkP P) (h16 : P.length ≤ 16) {σ : Sg} (hA : MA P σ) {N a : Nat} (ha : a < P.length) : ∀ (m p b : Nat), p ≤ P.length → P.length - p < m → b < P.length → f_mo_nextCorner_c12 N m (nI a) (nI b) (nI p) σ = some (nI (nxg P a (P.length - p) p b)) := by
  intro m
  induction m with
  | zero => intro p b h1 h2; omega
  | succ m ih =>
    intro p b hp hm hb
    show f_mo_nextCorner_c12_s N (f_mo_nextCorner_c12 N m) (nI a) (nI b) (nI p) σ = _
    unfold f_mo_nextCorner_c12_s
    have q0 : nI P.length ≤ nI p ↔ P.length ≤ p := nI_leI (by omega) (by omega)
    simp only [hA.1, q0]
    by_cases c0 : P.length ≤ p
    · rw [if_pos c0, show P.length - p = 0 by omega]; rfl
    · rw [if_neg c0]
      have hp' : p < P.length := by omega
      have t := trn_b hP ha hb hp'
      have t2 := trn_b hP ha hp' hp'
      have q1 : nI p = nI a ↔ p = a := nI_eq (by omega) (by omega)
      have q2 : iL (trn P a b p) = 0 ↔ trn P a b p = 0 := iL_eq (b := 0) (by omega) (by omega) (by omega) (by omega)
      have q3 : iL (sqd P a p) ≤ iL (sqd P a b) ↔ _ := iL_le (by omega) (by omega) (by omega) (by omega)
      have q4 : iL (trn P a b p) < 0 ↔ trn P a b p < 0 := iL_lt (b := 0) (by omega) (by omega) (by omega) (by omega)
      rw [show P.length - p = (P.length - (p + 1)) + 1 by omega]
      show _ = some (nI (nxg P a (P.length - (p + 1)) (p + 1) (nxs P a b p)))
      unfold f_mo_nextCorner_c56 f_mo_nextCorner_c57
      rw [(mtrn_eq hP h16 hA ha hb hp').1, (mtrn_eq hP h16 hA ha hb hb).2, (mtrn_eq hP h16 hA ha hp' hp').2]
      simp only [bind_some, q1, q2, q3, q4, nI_1]
      have yes : p ≠ a → byd P a b p → f_mo_nextCorner_c12 N m (nI a) (nI p) (nI (p + 1)) σ = some (nI (nxg P a (P.length - (p + 1)) (p + 1) (nxs P a b p))) := fun h1 h2 => by
        rw [ih (p + 1) p (by omega) (by omega) (by omega), nxs_t ⟨h1, h2⟩]
      have no : ¬ (p ≠ a ∧ byd P a b p) → f_mo_nextCorner_c12 N m (nI a) (nI b) (nI (p + 1)) σ = some (nI (nxg P a (P.length - (p + 1)) (p + 1) (nxs P a b p))) := fun h1 => by
        rw [ih (p + 1) b (by omega) (by omega) hb, nxs_f h1]
      by_cases c1 : p = a
      · simp only [if_pos c1, if_true, ite_self]
        exact no (fun z => z.1 c1)
      · simp only [if_neg c1]
        by_cases c2 : trn P a b p = 0
        · have c3 : ¬ trn P a b p < 0 := by omega
          by_cases c4 : sqd P a p ≤ sqd P a b
          · simp only [if_pos c2, if_neg c3, if_pos c4, if_true]
            exact no (fun z => by have := z.2; unfold byd at this; omega)
          · simp only [if_pos c2, if_neg c3, if_neg c4]
            rw [if_neg (by decide)]
            exact yes c1 (Or.inr ⟨c2, by omega⟩)
        · simp only [if_neg c2]
          by_cases c3 : trn P a b p < 0
          · rw [if_pos c3]
            exact yes c1 (Or.inl c3)
          · rw [if_neg c3, if_pos trivial]
            exact no (fun z => by have := z.2; unfold byd at this; omega)
theorem mnx_eq {P : Pts} (hP : OkP P) (h16 : P.length ≤ 16) {σ : Sg} (hA : MA P σ) {N a : Nat} (hN : 600 ≤ N) (ha : a < P.length) : f_mo_nextCorner N σ (nI a) = some (nI (nxt P a)) := by
  have h2 := hP.1
  unfold f_mo_nextCorner nxt
  have q : nI a = 0 ↔ a = 0 := nI_eq (b := 0) (by omega) (by omega)
  by_cases c : a = 0
  · rw [if_pos (q.mpr c), if_pos c, show (1 : Int32) = nI 1 from rfl, show (0 : Int32) = nI 0 from rfl, mnx_loop hP h16 hA ha N 0 1 (by omega) (by omega) (by omega), Nat.sub_zero]
  · rw [if_neg (fun z => c (q.mp z)), if_neg c, show (0 : Int32) = nI 0 from rfl, mnx_loop hP h16 hA ha N 0 0 (by omega) (by omega) (by omega), Nat.sub_zero]
def KM (P : Pts) (s : Nat) (σ : Sg) : Prop := σ.1 20 19 = nI s ∧ ∀ j, j < s → σ.1 30 j = nI (itr P j)
theorem mwrap_loop {P : Pts} (hP : OkP P) (h16 : P.length ≤ 16) {σ0 : Sg} {c N : Nat} (hN : 600 ≤ N) (hc : c ≤ P.length) (hcc : itr P c = itr P 0) (hcm : ∀ j, 0 < j → j < c → itr P j ≠ itr P 0) :
    ∀ (m s : Nat) (σ : Sg), 0 < s → s ≤ c → c - s < m → FMb σ0 σ → MA P σ → KM P s σ → ∃ σ', f_mo_layCorners_c107 N m (nI (itr P 0)) (nI (itr P s)) σ = some σ' ∧ FMb σ0 σ' ∧ MA P σ' ∧ KM P c σ' := by
  intro m
  induction m with
  | zero => intro s σ h0 h1 h2; omega
  | succ m ih =>
    intro s σ h0 hs hm hF hA hK
    show ∃ σ', f_mo_layCorners_c107_s N (f_mo_layCorners_c107 N m) (nI (itr P 0)) (nI (itr P s)) σ = some σ' ∧ _
    unfold f_mo_layCorners_c107_s
    have hl := itr_lt hP s
    have hl0 := itr_lt hP 0
    have q : nI (itr P s) = nI (itr P 0) ↔ itr P s = itr P 0 := nI_eq (by omega) (by omega)
    by_cases c1 : itr P s = itr P 0
    · rw [if_pos (q.mpr c1)]
      have : s = c := by
        rcases Nat.lt_or_ge s c with h | h
        · exact absurd c1 (hcm s h0 h)
        · omega
      subst this
      exact ⟨σ, rfl, hF, hA, hK⟩
    · rw [if_neg (fun z => c1 (q.mp z))]
      have hsc : s < c := by
        rcases Nat.lt_or_ge s c with h | h
        · exact h
        · have : s = c := by omega
          rw [this] at c1
          exact absurd hcc c1
      have i1 : ib (nI s) 17 := (ib_nI (by omega)).mpr (by omega)
      rw [hK.1, if_pos i1, nm_eq, nm_eq, nI_clamp (show s < 2 ^ 31 by omega)]
      have e1 : (uI σ 30 s (nI (itr P s))).1 20 19 = nI s := by rw [uI_1, if_neg (by omega), hK.1]
      rw [e1, nI_1]
      generalize hσ : uI (uI σ 30 s (nI (itr P s))) 20 19 (nI (s + 1)) = σ1
      have F1 : FMb σ σ1 := by
        rw [← hσ]
        exact (FMb.upI σ _ (Or.inr (by decide))).tr (FMb.upI _ _ (Or.inl (by decide)))
      have A1 : MA P σ1 := by
        refine ⟨?_, fun p hp => ?_⟩
        · rw [← hσ, uI_1, if_neg (by omega), uI_1, if_neg (by omega), hA.1]
        · rw [← hσ, uI_2, uI_2]
          exact hA.2 p hp
      have K1 : KM P (s + 1) σ1 := by
        refine ⟨by rw [← hσ, uI_1, if_pos ⟨rfl, rfl⟩], fun j hj => ?_⟩
        rw [← hσ, uI_1, if_neg (by omega), uI_1]
        by_cases e : j = s
        · subst e; rw [if_pos ⟨rfl, rfl⟩]
        · rw [if_neg (by omega), hK.2 j (by omega)]
      rw [mnx_eq hP h16 A1 hN hl, bind_some]
      exact ih (s + 1) σ1 (by omega) (by omega) (by omega) (hF.tr F1) A1 K1
theorem mlm_loop {P : Pts} (hP : OkP P) (h16 : P.length ≤ 16) {σ0 : Sg} {N : Nat} (hN : 600 ≤ N) {σ : Sg} (hF : FMb σ0 σ) (hA : MA P σ) : ∀ (m p b : Nat), p ≤ P.length → P.length - p < m → b < P.length → lmg P (P.length - p) p b = lmf P → ∃ σ', f_mo_layCorners_c21 N m (nI b) (nI p) σ = some σ' ∧ FMb σ0 σ' ∧ MA P σ' ∧ KM P (cN P) σ' := by
  intro m
  induction m with
  | zero => intro p b h1 h2; omega
  | succ m ih =>
    intro p b hp hm hb hlm
    show ∃ σ', f_mo_layCorners_c21_s N (f_mo_layCorners_c21 N m) (nI b) (nI p) σ = some σ' ∧ _
    unfold f_mo_layCorners_c21_s
    have q0 : nI P.length ≤ nI p ↔ P.length ≤ p := nI_leI (by omega) (by omega)
    simp only [hA.1, q0]
    by_cases c0 : P.length ≤ p
    · rw [if_pos c0, nm_eq, nm_eq]
      rw [show P.length - p = 0 by omega] at hlm
      have hb0 : b = itr P 0 := hlm
      subst hb0
      obtain ⟨c1, c2, c3, c4⟩ := cN_ok hP
      generalize hσ : uI (uI σ 30 0 (nI (itr P 0))) 20 19 1 = σ1
      have F1 : FMb σ σ1 := by
        rw [← hσ]
        exact (FMb.upI σ _ (Or.inr (by decide))).tr (FMb.upI _ _ (Or.inl (by decide)))
      have A1 : MA P σ1 := by
        refine ⟨?_, fun p hp => ?_⟩
        · rw [← hσ, uI_1, if_neg (by omega), uI_1, if_neg (by omega), hA.1]
        · rw [← hσ, uI_2, uI_2]
          exact hA.2 p hp
      have K1 : KM P 1 σ1 := by
        refine ⟨by rw [← hσ, uI_1, if_pos ⟨rfl, rfl⟩]; rfl, fun j hj => ?_⟩
        have : j = 0 := by omega
        subst this
        rw [← hσ, uI_1, if_neg (by omega), uI_1, if_pos ⟨rfl, rfl⟩]
      rw [mnx_eq hP h16 A1 hN hb, bind_some]
      exact mwrap_loop hP h16 hN c2 c3 c4 N 1 σ1 (by omega) (by omega) (by omega) (hF.tr F1) A1 K1
    · rw [if_neg c0]
      have i1 : ib (nI p) 16 := (ib_nI (by omega)).mpr (by omega)
      have i2 : ib (nI b) 16 := (ib_nI (by omega)).mpr (by omega)
      have bp := hP.2.2 p (by omega)
      have bb := hP.2.2 b hb
      have q1 : iL (gX P p) < iL (gX P b) ↔ _ := iL_lt (by omega) (by omega) (by omega) (by omega)
      have q2 : iL (gX P p) = iL (gX P b) ↔ _ := iL_eq (by omega) (by omega) (by omega) (by omega)
      have q3 : iL (gY P b) ≤ iL (gY P p) ↔ _ := iL_le (by omega) (by omega) (by omega) (by omega)
      simp only [if_pos i1, if_pos i2, nI_clamp (show p < 2 ^ 31 by omega), nI_clamp (show b < 2 ^ 31 by omega), (hA.2 p (by omega)).1, (hA.2 p (by omega)).2, (hA.2 b hb).1, (hA.2 b hb).2, q1, q2, q3, nI_1]
      rw [show P.length - p = (P.length - (p + 1)) + 1 by omega] at hlm
      have hlm : lmg P (P.length - (p + 1)) (p + 1) (lms P b p) = lmf P := hlm
      by_cases c1 : gX P p < gX P b
      · rw [if_pos c1]
        exact ih (p + 1) p (by omega) (by omega) (by omega) (by rw [lms_t (Or.inl c1)] at hlm; exact hlm)
      · rw [if_neg c1]
        by_cases c2 : gX P p = gX P b
        · rw [if_pos c2]
          by_cases c3 : gY P b ≤ gY P p
          · rw [if_pos c3]
            exact ih (p + 1) b (by omega) (by omega) hb (by rw [lms_f (by omega)] at hlm; exact hlm)
          · rw [if_neg c3]
            exact ih (p + 1) p (by omega) (by omega) (by omega) (by rw [lms_t (Or.inr ⟨c2, by omega⟩)] at hlm; exact hlm)
        · rw [if_neg c2]
          exact ih (p + 1) b (by omega) (by omega) hb (by rw [lms_f (by omega)] at hlm; exact hlm)
/-- the model's corners -/
theorem mcor_eq {T : TS} {σ : Sg} (hO : Ok T) (hR : RM T σ) {N : Nat} (hN : 600 ≤ N) : ∃ σ', f_mo_layCorners N σ = some σ' ∧ FMb σ σ' ∧ MA (PL T) σ' ∧ KM (PL T) (cN (PL T)) σ' := by
  obtain ⟨σ1, e1, F1, A1⟩ := lay_eq hO hR hN
  have h16 := PL_16 hO
  unfold f_mo_layCorners
  rw [e1, bind_some, nm_eq]
  have e2 : (uI σ1 20 19 0).1 20 16 = nI (PL T).length := by rw [uI_1, if_neg (by omega), A1.1]
  have F2 : FMb σ (uI σ1 20 19 0) := F1.tr (FMb.upI σ1 _ (Or.inl (by decide)))
  have A2 : MA (PL T) (uI σ1 20 19 0) := ⟨e2, fun p hp => by rw [uI_2]; exact A1.2 p hp⟩
  have q : nI (PL T).length = 0 ↔ (PL T).length = 0 := nI_eq (b := 0) (by omega) (by omega)
  rw [e2]
  rcases PL_even (T := T) (tN T) with h | h
  · rw [if_pos (q.mpr h), cN_0 (P := PL T) h]
    exact ⟨_, rfl, F2, A2, by rw [uI_1, if_pos ⟨rfl, rfl⟩]; rfl, fun j hj => by omega⟩
  · have hP := PL_ok hO h
    rw [if_neg (fun z => by have := q.mp z; unfold PL at this; omega), show (0 : Int32) = nI 0 from rfl, show (1 : Int32) = nI 1 from rfl]
    have h2 := hP.1
    exact mlm_loop hP h16 hN F2 A2 N 1 0 (by omega) (by omega) (by omega) rfl
