/-! DROP -/
def shf (k j : Nat) : Nat := if j < k then j else j + 1
def gi (k i j : Nat) : Nat := if k ≤ j ∧ j < i then j + 1 else j
def drT (T : TS) (k : Nat) : TS := (tN T - 1, fun j => tH T (shf k j), fun j => tM T (shf k j), fun j => tG T (shf k j), fun j => tB T (shf k j), fun j => tE T (shf k j), tS T)
theorem ok_dr {T : TS} (hO : Ok T) {k : Nat} (hk : k < tN T) : Ok (drT T k) := by
  have h8 := hO.1
  have sl : ∀ j, j < tN T - 1 → shf k j < tN T := fun j hj => by unfold shf; split <;> omega
  refine ⟨by show tN T - 1 ≤ 8; omega, hO.2.1, fun j hj => ?_, fun i j hi hj e => ?_⟩
  · have hj' : j < tN T - 1 := hj
    exact hO.2.2.1 (shf k j) (sl j hj')
  · have hi' : i < tN T - 1 := hi
    have hj' : j < tN T - 1 := hj
    have := hO.2.2.2 (shf k i) (shf k j) (sl i hi') (sl j hj') e
    unfold shf at this
    split at this <;> split at this <;> omega
noncomputable def drR (T : TS) (a : Int32) : Int32 := if fl (∃ k, k < tN T ∧ a = nI k) = 0 then -100000002 else nI (tN T - 1)
noncomputable def drD (T : TS) (a : Int32) : TS := if fl (∃ k, k < tN T ∧ a = nI k) = 0 then T else drT T a.toNatClampNeg
noncomputable def drW (T : TS) (a we : Int32) : Int32 := if fl (∃ k, k < tN T ∧ a = nI k) = 0 then we else we + 1
theorem gi_0 (k j : Nat) : gi k k j = j := by unfold gi; rw [if_neg (by omega)]
theorem gi_s {k i : Nat} (h : k ≤ i) (j : Nat) : (if j = i then gi k i (i + 1) else gi k i j) = gi k (i + 1) j := by
  unfold gi
  split
  · rw [if_neg (by omega), if_pos (by omega)]; omega
  · by_cases c : k ≤ j ∧ j < i
    · rw [if_pos c, if_pos (by omega)]
    · rw [if_neg c, if_neg (by omega)]
theorem gi_e {k n j : Nat} (hj : j < n - 1) : gi k (n - 1) j = shf k j := by
  unfold gi shf
  by_cases c : j < k
  · rw [if_neg (by omega), if_pos c]
  · rw [if_pos (by omega), if_neg c]
def ARr (q : Nat) (T : TS) (g : Nat → Nat) (σ : Sg) : Prop := ∀ j, j < tN T → σ.1 q j = iI (tH T (g j)) ∧ σ.1 (q + 1) j = b01 (tM T (g j)) ∧ σ.1 (q + 2) j = iI (tG T (g j)) ∧ σ.1 (q + 3) j = iI (tB T (g j)) ∧ σ.1 (q + 4) j = iI (tE T (g j))
def cp (q : Nat) (σ : Sg) (i : Nat) : Sg := uI (uI (uI (uI (uI σ q i (σ.1 q (i + 1))) (q + 1) i ((σ.1 (q + 1) (i + 1)) &&& 1)) (q + 2) i (σ.1 (q + 2) (i + 1))) (q + 3) i (σ.1 (q + 3) (i + 1))) (q + 4) i (σ.1 (q + 4) (i + 1))
theorem cp_ne {q p : Nat} (σ : Sg) (i : Nat) (h : p < q ∨ q + 4 < p) : (cp q σ i).1 p = σ.1 p := by
  unfold cp
  rw [uI_ne _ _ _ (by omega), uI_ne _ _ _ (by omega), uI_ne _ _ _ (by omega), uI_ne _ _ _ (by omega), uI_ne _ _ _ (by omega)]
theorem cp_at {q : Nat} (σ : Sg) (i j : Nat) : (cp q σ i).1 q j = (if j = i then σ.1 q (i + 1) else σ.1 q j) ∧ (cp q σ i).1 (q + 1) j = (if j = i then σ.1 (q + 1) (i + 1) &&& 1 else σ.1 (q + 1) j) ∧ (cp q σ i).1 (q + 2) j = (if j = i then σ.1 (q + 2) (i + 1) else σ.1 (q + 2) j) ∧ (cp q σ i).1 (q + 3) j = (if j = i then σ.1 (q + 3) (i + 1) else σ.1 (q + 3) j) ∧ (cp q σ i).1 (q + 4) j = (if j = i then σ.1 (q + 4) (i + 1) else σ.1 (q + 4) j) := by
  have sm : ∀ (p : Nat) (τ : Sg) (x : Int32), (uI τ p i x).1 p j = if j = i then x else τ.1 p j := fun p τ x => by
    rw [uI_1]
    by_cases c : j = i
    · rw [if_pos ⟨rfl, c⟩, if_pos c]
    · rw [if_neg (fun z => c z.2), if_neg c]
  unfold cp
  refine ⟨?_, ?_, ?_, ?_, ?_⟩
  · rw [uI_ne _ _ _ (by omega), uI_ne _ _ _ (by omega), uI_ne _ _ _ (by omega), uI_ne _ _ _ (by omega), sm]
  · rw [uI_ne _ _ _ (by omega), uI_ne _ _ _ (by omega), uI_ne _ _ _ (by omega), sm, uI_ne _ _ _ (by omega)]
  · rw [uI_ne _ _ _ (by omega), uI_ne _ _ _ (by omega), sm, uI_ne _ _ _ (by omega), uI_ne _ _ _ (by omega)]
  · rw [uI_ne _ _ _ (by omega), sm, uI_ne _ _ _ (by omega), uI_ne _ _ _ (by omega), uI_ne _ _ _ (by omega)]
  · rw [sm, uI_ne _ _ _ (by omega), uI_ne _ _ _ (by omega), uI_ne _ _ _ (by omega), uI_ne _ _ _ (by omega)]
theorem ar_cp {q : Nat} {T : TS} {k i : Nat} {σ : Sg} (hk : k ≤ i) (hi : i + 1 < tN T) (h : ARr q T (gi k i) σ) : ARr q T (gi k (i + 1)) (cp q σ i) := by
  intro j hj
  obtain ⟨c1, c2, c3, c4, c5⟩ := cp_at (q := q) σ i j
  obtain ⟨a1, a2, a3, a4, a5⟩ := h j hj
  obtain ⟨b1, b2, b3, b4, b5⟩ := h (i + 1) hi
  rw [c1, c2, c3, c4, c5, ← gi_s hk j]
  by_cases c : j = i
  · simp only [if_pos c]
    exact ⟨b1, by rw [b2, b01_and], b3, b4, b5⟩
  · simp only [if_neg c]
    exact ⟨a1, a2, a3, a4, a5⟩
theorem x_rm_loop {T : TS} {k : Nat} {σ0 : Sg} (hO : Ok T) {N : Nat} : ∀ (m i : Nat) (σ : Sg), k ≤ i → i < tN T → tN T - i ≤ m → FC σ0 σ → σ.1 4 5 = nI (tN T) → σ.1 4 6 = iI (tS T) → ARr 5 T (gi k i) σ → ∃ σ', f_ro_remove_c11 N m (nI i) σ = some σ' ∧ FC σ0 σ' ∧ RX (drT T k) σ' := by
  have h8 := hO.1
  intro m
  induction m with
  | zero => intro i σ h1 h2 h3; omega
  | succ m ih =>
    intro i σ hk hi hm hF h5 h6 hA
    show ∃ σ', f_ro_remove_c11_s N (f_ro_remove_c11 N m) (nI i) σ = _ ∧ _
    unfold f_ro_remove_c11_s
    have q0 : nI (tN T) ≤ nI (i + 1) ↔ tN T ≤ i + 1 := nI_leI (by omega) (by omega)
    rw [h5, nI_1]
    by_cases c0 : tN T ≤ i + 1
    · rw [if_pos (q0.mpr c0), nm_eq, show (1 : Int32) = nI 1 from rfl, pk_sub (by omega)]
      refine ⟨_, rfl, hF.tr (FC.upI σ _ _ (by omega) (by omega)), ?_, ?_, fun j hj => ?_⟩
      · rw [uI_1, if_pos ⟨rfl, rfl⟩]; rfl
      · rw [uI_1, if_neg (by omega)]; exact h6
      · have hj' : j < tN T - 1 := hj
        have := hA j (by omega)
        rw [show i = tN T - 1 by omega, gi_e hj'] at this
        rw [uI_ne _ _ _ (show (5 : Nat) ≠ 4 by decide), uI_ne _ _ _ (show (6 : Nat) ≠ 4 by decide), uI_ne _ _ _ (show (7 : Nat) ≠ 4 by decide), uI_ne _ _ _ (show (8 : Nat) ≠ 4 by decide), uI_ne _ _ _ (show (9 : Nat) ≠ 4 by decide)]
        exact this
    · rw [if_neg (fun z => c0 (q0.mp z))]
      rw [if_pos ((ib_nI (by omega)).mpr (by omega)), if_pos ((ib_nI (by omega)).mpr (by omega)), nI_clamp (show i < 2 ^ 31 by omega), nI_clamp (show i + 1 < 2 ^ 31 by omega), nm_eq, nm_eq, nm_eq, nm_eq, nm_eq]
      rw [uI_ne _ _ _ (show (6 : Nat) ≠ 5 by decide), uI_ne _ _ _ (show (7 : Nat) ≠ 6 by decide), uI_ne _ _ _ (show (7 : Nat) ≠ 5 by decide), uI_ne _ _ _ (show (8 : Nat) ≠ 7 by decide), uI_ne _ _ _ (show (8 : Nat) ≠ 6 by decide), uI_ne _ _ _ (show (8 : Nat) ≠ 5 by decide), uI_ne _ _ _ (show (9 : Nat) ≠ 8 by decide), uI_ne _ _ _ (show (9 : Nat) ≠ 7 by decide), uI_ne _ _ _ (show (9 : Nat) ≠ 6 by decide), uI_ne _ _ _ (show (9 : Nat) ≠ 5 by decide)]
      refine ih (i + 1) (cp 5 σ i) (by omega) (by omega) (by omega) ?_ ?_ ?_ (ar_cp hk (by omega) hA)
      · unfold cp
        exact hF.tr (((((FC.upI σ _ _ (by omega) (by omega)).tr (FC.upI _ _ _ (by omega) (by omega))).tr (FC.upI _ _ _ (by omega) (by omega))).tr (FC.upI _ _ _ (by omega) (by omega))).tr (FC.upI _ _ _ (by omega) (by omega)))
      · rw [cp_ne _ _ (by omega)]; exact h5
      · rw [cp_ne _ _ (by omega)]; exact h6
theorem x_drop {T : TS} {pg : Nat → Int32} {pl : Nat} {ca we : Int32} {σ : Sg} (h : XI T pg pl ca we σ) {N : Nat} (hN : 600 ≤ N) (a : Int32) : ∃ σ', f_ss_drop N σ a = some (drR T a, σ') ∧ FX σ σ' ∧ XI (drD T a) pg pl ca (drW T a we) σ' := by
  obtain ⟨⟨hO, hR, hw, hK⟩, hp, h7, h8⟩ := id h
  have hn8 := hO.1
  unfold f_ss_drop drR drD drW
  rw [x_has hO hR]
  by_cases c0 : ∃ k, k < tN T ∧ a = nI k
  · have ee := fl_t c0
    rw [ee]
    simp only [if_neg (show ¬ ((1 : Int32) = 0) by decide)]
    obtain ⟨k, hk, rfl⟩ := c0
    have ck : (nI k).toNatClampNeg = k := nI_clamp (show k < 2 ^ 31 by omega)
    unfold f_ro_remove
    rw [x_has hO hR, ee, if_neg (show ¬ ((1 : Int32) = 0) by decide), ck]
    obtain ⟨σ1, e1, F1, R1⟩ := x_rm_loop hO (N := N) (k := k) N k σ (Nat.le_refl _) hk (by omega) (FC.rf σ) hR.1 hR.2.1 (fun j hj => by rw [gi_0]; exact hR.2.2 j hj)
    rw [e1, bind_some, nm_eq, F1.1 0 (by omega), h8]
    have R2 : RX (drT T k) (uI σ1 0 8 (we + 1)) := by
      unfold RX
      rw [uI_ne _ _ _ (show (4 : Nat) ≠ 0 by decide), uI_ne _ _ _ (show (5 : Nat) ≠ 0 by decide), uI_ne _ _ _ (show (6 : Nat) ≠ 0 by decide), uI_ne _ _ _ (show (7 : Nat) ≠ 0 by decide), uI_ne _ _ _ (show (8 : Nat) ≠ 0 by decide), uI_ne _ _ _ (show (9 : Nat) ≠ 0 by decide)]
      exact R1
    obtain ⟨σ2, e2, F2, Q2⟩ := x_settle (ok_dr hO hk) R2 hN
    rw [e2, bind_some, Q2.2.1.1]
    refine ⟨σ2, rfl, (F1.fx.tr (FX.upI _ _ _ (by omega))).tr F2.fx, Q2, ?_, ?_, ?_⟩
    · unfold PGx
      rw [F2.1 0 (by omega), F2.1 1 (by omega), uI_1, if_neg (by omega), uI_ne _ _ _ (show (1 : Nat) ≠ 0 by decide), F1.1 0 (by omega), F1.1 1 (by omega)]
      exact hp
    · rw [F2.1 0 (by omega), uI_1, if_neg (by omega), F1.1 0 (by omega)]; exact h7
    · rw [F2.1 0 (by omega), uI_1, if_pos ⟨rfl, rfl⟩]
  · rw [fl_f c0]
    simp only [if_true]
    exact ⟨σ, rfl, FX.rf σ, h⟩
theorem m_rm_loop {T : TS} {k : Nat} {σ0 : Sg} (hO : Ok T) {N : Nat} : ∀ (m i : Nat) (σ : Sg), k ≤ i → i < tN T → tN T - i ≤ m → FL σ0 σ → σ.1 20 = σ0.1 20 → σ.1 21 = σ0.1 21 → σ0.1 20 2 = nI (tN T - 1) → σ0.1 20 8 = iI (tS T) → ARr 22 T (gi k i) σ → ∃ σ', f_mo_drop_c33 N m (nI i) σ = some (nI (tN T - 1), σ') ∧ FL σ0 σ' ∧ σ'.1 20 = σ0.1 20 ∧ σ'.1 21 = σ0.1 21 ∧ RM (drT T k) σ' := by
  have h8 := hO.1
  intro m
  induction m with
  | zero => intro i σ h1 h2 h3; omega
  | succ m ih =>
    intro i σ hk hi hm hF g20 g21 h5 h6 hA
    show ∃ σ', f_mo_drop_c33_s N (f_mo_drop_c33 N m) (nI i) σ = _ ∧ _
    unfold f_mo_drop_c33_s
    have q0 : nI (tN T - 1) ≤ nI i ↔ tN T - 1 ≤ i := nI_leI (by omega) (by omega)
    rw [g20, h5, nI_1]
    by_cases c0 : tN T - 1 ≤ i
    · rw [if_pos (q0.mpr c0)]
      refine ⟨σ, rfl, hF, g20, g21, ?_, ?_, fun j hj => ?_⟩
      · rw [g20]; exact h5
      · rw [g20]; exact h6
      · have hj' : j < tN T - 1 := hj
        have := hA j (by omega)
        rw [show i = tN T - 1 by omega, gi_e hj'] at this
        exact this
    · rw [if_neg (fun z => c0 (q0.mp z))]
      rw [if_pos ((ib_nI (by omega)).mpr (by omega)), if_pos ((ib_nI (by omega)).mpr (by omega)), nI_clamp (show i < 2 ^ 31 by omega), nI_clamp (show i + 1 < 2 ^ 31 by omega), nm_eq, nm_eq, nm_eq, nm_eq, nm_eq]
      rw [uI_ne _ _ _ (show (23 : Nat) ≠ 22 by decide), uI_ne _ _ _ (show (24 : Nat) ≠ 23 by decide), uI_ne _ _ _ (show (24 : Nat) ≠ 22 by decide), uI_ne _ _ _ (show (25 : Nat) ≠ 24 by decide), uI_ne _ _ _ (show (25 : Nat) ≠ 23 by decide), uI_ne _ _ _ (show (25 : Nat) ≠ 22 by decide), uI_ne _ _ _ (show (26 : Nat) ≠ 25 by decide), uI_ne _ _ _ (show (26 : Nat) ≠ 24 by decide), uI_ne _ _ _ (show (26 : Nat) ≠ 23 by decide), uI_ne _ _ _ (show (26 : Nat) ≠ 22 by decide)]
      refine ih (i + 1) (cp 22 σ i) (by omega) (by omega) (by omega) ?_ ?_ ?_ h5 h6 (ar_cp hk (by omega) hA)
      · unfold cp
        exact hF.tr (((((FL.upI σ _ _ (by omega)).tr (FL.upI _ _ _ (by omega))).tr (FL.upI _ _ _ (by omega))).tr (FL.upI _ _ _ (by omega))).tr (FL.upI _ _ _ (by omega)))
      · rw [cp_ne _ _ (by omega)]; exact g20
      · rw [cp_ne _ _ (by omega)]; exact g21
theorem m_drop {T : TS} {pg : Nat → Int32} {pl : Nat} {ca we : Int32} {σ : Sg} (hO : Ok T) (h : MI T pg pl ca we σ) {N : Nat} (hN : 600 ≤ N) (a : Int32) : ∃ σ', f_mo_drop N σ a = some (drR T a, σ') ∧ FL σ σ' ∧ MI (drD T a) pg pl ca (drW T a we) σ' := by
  obtain ⟨hR, ⟨h24, hp, hg⟩, h9, h10⟩ := id h
  have hn8 := hO.1
  unfold f_mo_drop drR drD drW
  rw [m_isSt hO hR, bind_some]
  by_cases c0 : ∃ k, k < tN T ∧ a = nI k
  · have ee := fl_t c0
    rw [ee]
    simp only [if_neg (show ¬ ((1 : Int32) = 0) by decide)]
    obtain ⟨k, hk, rfl⟩ := c0
    have ck : (nI k).toNatClampNeg = k := nI_clamp (show k < 2 ^ 31 by omega)
    rw [nm_eq, nm_eq, ck, hR.1, show (1 : Int32) = nI 1 from rfl, pk_sub (by omega), show nI 1 = (1 : Int32) from rfl, uI_1, if_neg (by omega), h10]
    have A0 : ARr 22 T (gi k k) (uI (uI σ 20 2 (nI (tN T - 1))) 20 10 (we + 1)) := fun j hj => by
      rw [gi_0, uI_ne _ _ _ (show (22 : Nat) ≠ 20 by decide), uI_ne _ _ _ (show (22 : Nat) ≠ 20 by decide), uI_ne _ _ _ (show (22 + 1 : Nat) ≠ 20 by decide), uI_ne _ _ _ (show (22 + 1 : Nat) ≠ 20 by decide), uI_ne _ _ _ (show (22 + 2 : Nat) ≠ 20 by decide), uI_ne _ _ _ (show (22 + 2 : Nat) ≠ 20 by decide), uI_ne _ _ _ (show (22 + 3 : Nat) ≠ 20 by decide), uI_ne _ _ _ (show (22 + 3 : Nat) ≠ 20 by decide), uI_ne _ _ _ (show (22 + 4 : Nat) ≠ 20 by decide), uI_ne _ _ _ (show (22 + 4 : Nat) ≠ 20 by decide)]
      exact hR.2.2 j hj
    obtain ⟨σ1, e1, F1, g20, g21, R1⟩ := m_rm_loop hO (N := N) (k := k) N k (uI (uI σ 20 2 (nI (tN T - 1))) 20 10 (we + 1)) (Nat.le_refl _) hk (by omega) (FL.rf _) rfl rfl (by rw [uI_1, if_neg (by omega), uI_1, if_pos ⟨rfl, rfl⟩]) (by rw [uI_1, if_neg (by omega), uI_1, if_neg (by omega)]; exact hR.2.1) A0
    rw [e1]
    refine ⟨σ1, rfl, ((FL.upI σ _ _ (by omega)).tr (FL.upI _ _ _ (by omega))).tr F1, R1, ⟨h24, ?_, fun j hj => ?_⟩, ?_, ?_⟩
    · rw [g20, uI_1, if_neg (by omega), uI_1, if_neg (by omega)]; exact hp
    · rw [g21, uI_ne _ _ _ (show (21 : Nat) ≠ 20 by decide), uI_ne _ _ _ (show (21 : Nat) ≠ 20 by decide)]; exact hg j hj
    · rw [g20, uI_1, if_neg (by omega), uI_1, if_neg (by omega)]; exact h9
    · rw [g20, uI_1, if_pos ⟨rfl, rfl⟩]
  · rw [fl_f c0]
    simp only [if_true]
    exact ⟨σ, rfl, FL.rf σ, h⟩
