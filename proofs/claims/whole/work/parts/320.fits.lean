/-! WHICH THREE CLASH; the model's fitsFor says whether none does -/
noncomputable def fl (p : Prop) : Int32 := @ite Int32 p (Classical.propDecidable p) 1 0
theorem fl_t {p : Prop} (h : p) : fl p = 1 := by unfold fl; exact if_pos h
theorem fl_f {p : Prop} (h : ¬ p) : fl p = 0 := by unfold fl; exact if_neg h
theorem fl_c {p q : Prop} (h : p ↔ q) : fl p = fl q := by rw [propext h]
theorem fl_01 (p : Prop) : fl p = 0 ∨ fl p = 1 := by
  rcases Classical.em p with h | h
  · exact Or.inr (fl_t h)
  · exact Or.inl (fl_f h)
theorem fl_0 {p : Prop} : fl p = 0 ↔ ¬ p := by
  constructor
  · intro h hp
    rw [fl_t hp] at h
    exact absurd h (by decide)
  · exact fl_f
/-- low i, middle j, high k -/
def dnt (T : TS) (i j k : Nat) : Prop := tM T j = true ∨ li T i * (tH T k - tH T j) + li T k * (tH T j - tH T i) < lo T j * (tH T k - tH T i) ∨ ro T j * (tH T k - tH T i) < ri T i * (tH T k - tH T j) + ri T k * (tH T j - tH T i)
def cla (T : TS) (i j k : Nat) : Prop := tM T i = false ∧ tM T k = false ∧ tH T i < tH T j ∧ tH T j < tH T k ∧ dnt T i j k
/-- among some stations none clash -/
def PW (T : TS) (sm : Nat → Bool) : Prop := ∀ i j k, i < tN T → j < tN T → k < tN T → sm i = true → sm j = true → sm k = true → ¬ cla T i j k
/-- numbers of lines: within 10400 * 400 twice -/
theorem ln_b {a b x y : Int} (a1 : -10400 ≤ a) (a2 : a ≤ 10400) (b1 : -10400 ≤ b) (b2 : b ≤ 10400) (x1 : -400 ≤ x) (x2 : x ≤ 400) (y1 : -400 ≤ y) (y2 : y ≤ 400) : (-8320000 ≤ a * x + b * y ∧ a * x + b * y ≤ 8320000) ∧ (-4160000 ≤ a * x ∧ a * x ≤ 4160000) ∧ (-4160000 ≤ b * y ∧ b * y ≤ 4160000) := by
  have h1 := mb (A := 10400) (B := 400) a1 a2 x1 x2
  have h2 := mb (A := 10400) (B := 400) b1 b2 y1 y2
  omega
theorem between_eq {a b h : Int} (h1 : -100000 ≤ h ∧ h ≤ 100000) (a1 : -100000 ≤ a ∧ a ≤ 100000) (b1 : -100000 ≤ b ∧ b ≤ 100000) : f_mo_isBetween (iI h) (iI a) (iI b) = if (a < h ∧ h < b) ∨ (b < h ∧ h < a) then 1 else 0 := by
  have e1 : iI h ≤ iI a ↔ h ≤ a := iI_le (by omega) (by omega) (by omega) (by omega)
  have e2 : iI h < iI b ↔ h < b := iI_lt (by omega) (by omega) (by omega) (by omega)
  have e3 : iI h ≤ iI b ↔ h ≤ b := iI_le (by omega) (by omega) (by omega) (by omega)
  have e4 : iI a ≤ iI h ↔ a ≤ h := iI_le (by omega) (by omega) (by omega) (by omega)
  unfold f_mo_isBetween f_mo_isBetween_c10
  simp only [e1, e2, e3, e4]
  (repeat' split) <;> first | rfl | (exfalso; omega)
theorem lets_eq {T : TS} {σ : Sg} (hO : Ok T) (h : RM T σ) {i j k : Nat} (hi : i < tN T) (hj : j < tN T) (hk : k < tN T) (hm : tM T j = false) : f_mo_letsBoth σ (nI i) (nI j) (nI k) = some (fl (¬ dnt T i j k)) := by
  have h8 : tN T ≤ 8 := hO.1
  obtain ⟨bi0, bi1, bi2, bi3⟩ := m_bound hO h hi
  obtain ⟨bj0, bj1, bj2, bj3⟩ := m_bound hO h hj
  obtain ⟨bk0, bk1, bk2, bk3⟩ := m_bound hO h hk
  obtain ⟨-, -, hr⟩ := h
  have ri' := (hr i hi).1
  have rj' := (hr j hj).1
  have rk' := (hr k hk).1
  have ei := ends_b hO hi
  have ej := ends_b hO hj
  have ek := ends_b hO hk
  have oi := (hO.2.2.1 i hi).1
  have oj := (hO.2.2.1 j hj).1
  have ok := (hO.2.2.1 k hk).1
  have ii : ib (nI i) 8 := (ib_nI (by omega)).mpr (by omega)
  have ij : ib (nI j) 8 := (ib_nI (by omega)).mpr (by omega)
  have ik : ib (nI k) 8 := (ib_nI (by omega)).mpr (by omega)
  have l1 := ln_b (a := li T i) (b := li T k) (x := tH T k - tH T j) (y := tH T j - tH T i) (by omega) (by omega) (by omega) (by omega) (by omega) (by omega) (by omega) (by omega)
  have l2 := ln_b (a := ri T i) (b := ri T k) (x := tH T k - tH T j) (y := tH T j - tH T i) (by omega) (by omega) (by omega) (by omega) (by omega) (by omega) (by omega) (by omega)
  have l3 := ln_b (a := lo T j) (b := ro T j) (x := tH T k - tH T i) (y := tH T k - tH T i) (by omega) (by omega) (by omega) (by omega) (by omega) (by omega) (by omega) (by omega)
  unfold f_mo_letsBoth
  simp only [if_pos ii, if_pos ij, if_pos ik, nI_clamp (show i < 2 ^ 31 by omega), nI_clamp (show j < 2 ^ 31 by omega), nI_clamp (show k < 2 ^ 31 by omega), ri', rj', rk', bi1, bi2, bj0, bj3, bk1, bk2, bind_some, iI_sub]
  rw [iI_L (a := li T i) (by omega) (by omega), iI_L (a := li T k) (by omega) (by omega), iI_L (a := ri T i) (by omega) (by omega), iI_L (a := ri T k) (by omega) (by omega), iI_L (a := lo T j) (by omega) (by omega), iI_L (a := ro T j) (by omega) (by omega), iI_L (a := tH T k - tH T i) (by omega) (by omega), iI_L (a := tH T j - tH T i) (by omega) (by omega)]
  simp only [iL_sub, iL_mul, iL_add]
  have e0 : tH T k - tH T i - (tH T j - tH T i) = tH T k - tH T j := by omega
  rw [e0]
  have q1 : iL (li T i * (tH T k - tH T j) + li T k * (tH T j - tH T i)) < iL (lo T j * (tH T k - tH T i)) ↔ _ := iL_lt (by omega) (by omega) (by omega) (by omega)
  have q2 : iL (ro T j * (tH T k - tH T i)) < iL (ri T i * (tH T k - tH T j) + ri T k * (tH T j - tH T i)) ↔ _ := iL_lt (by omega) (by omega) (by omega) (by omega)
  simp only [q1, q2]
  by_cases c1 : li T i * (tH T k - tH T j) + li T k * (tH T j - tH T i) < lo T j * (tH T k - tH T i)
  · rw [if_pos c1, fl_f (fun z => z (Or.inr (Or.inl c1)))]
  · rw [if_neg c1]
    by_cases c2 : ro T j * (tH T k - tH T i) < ri T i * (tH T k - tH T j) + ri T k * (tH T j - tH T i)
    · rw [if_pos c2, fl_f (fun z => z (Or.inr (Or.inr c2)))]
    · rw [if_neg c2, fl_t (fun z => by
        rcases z with z | z | z
        · rw [hm] at z; cases z
        · exact c1 z
        · exact c2 z)]
theorem b01_ite (b : Bool) : b01 b = if b = true then 1 else 0 := rfl
/-- has, isHit: by a picture of the bits -/
theorem hit_eq {T : TS} {σ : Sg} (hO : Ok T) (h : RM T σ) {a : Int32} {sm : Nat → Bool} (hs : ∀ k, k < tN T → f_mo_has a (nI k) = b01 (sm k)) {i : Nat} (hi : i < tN T) : f_mo_isHit σ a (nI i) = some (b01 (sm i && !tM T i)) := by
  have h8 : tN T ≤ 8 := hO.1
  obtain ⟨-, -, hr⟩ := h
  have ii : ib (nI i) 8 := (ib_nI (by omega)).mpr (by omega)
  unfold f_mo_isHit
  rw [hs i hi]
  simp only [if_pos ii, nI_clamp (show i < 2 ^ 31 by omega), (hr i hi).2.1, b01_0]
  cases sm i <;> cases tM T i <;> rfl
/-- what the innermost loop looks for -/
def vio (T : TS) (sm : Nat → Bool) (i j k : Nat) : Prop := sm i = true ∧ sm j = true ∧ sm k = true ∧ cla T i j k
theorem fits_in {T : TS} {σ : Sg} (hO : Ok T) (h : RM T σ) {a : Int32} {sm : Nat → Bool} (hs : ∀ k, k < tN T → f_mo_has a (nI k) = b01 (sm k)) {N : Nat} {kc : Int32 → Int32 → Int32 → Int32 → Sg → Option Int32} {i k : Nat} (hi : i < tN T) (hk : k < tN T) :
    ∀ (m j : Nat) (F : Prop), j ≤ tN T → tN T - j < m → f_mo_fitsFor_c27 N kc m a (fl F) (nI i) (nI k) (nI j) σ = kc a (fl (F ∧ ∀ j', j ≤ j' → j' < tN T → ¬ vio T sm i j' k)) (nI i) (nI k + 1) σ := by
  have h8 : tN T ≤ 8 := hO.1
  intro m
  induction m with
  | zero => intro j F h1 h2; omega
  | succ m ih =>
    intro j F hj hm
    show f_mo_fitsFor_c27_s N kc (f_mo_fitsFor_c27 N kc m) a (fl F) (nI i) (nI k) (nI j) σ = _
    unfold f_mo_fitsFor_c27_s
    have hn : σ.1 20 2 = nI (tN T) := h.1
    have q0 : nI (tN T) ≤ nI j ↔ tN T ≤ j := nI_leI (by omega) (by omega)
    simp only [hn, q0]
    by_cases c0 : tN T ≤ j
    · rw [if_pos c0]
      congr 1
      exact fl_c ⟨fun z => ⟨z, fun j' h1 h2 => by omega⟩, fun z => z.1⟩
    · rw [if_neg c0]
      have hj' : j < tN T := by omega
      have none_i : ∀ (q : ¬ (sm i = true ∧ tM T i = false)), (F ↔ (F ∧ ∀ j', j ≤ j' → j' < tN T → ¬ vio T sm i j' k)) := fun q => ⟨fun z => ⟨z, fun j' _ _ v => q ⟨v.1, v.2.2.2.1⟩⟩, fun z => z.1⟩
      have none_k : ∀ (q : ¬ (sm k = true ∧ tM T k = false)), (F ↔ (F ∧ ∀ j', j ≤ j' → j' < tN T → ¬ vio T sm i j' k)) := fun q => ⟨fun z => ⟨z, fun j' _ _ v => q ⟨v.2.2.1, v.2.2.2.2.1⟩⟩, fun z => z.1⟩
      rw [hit_eq hO h hs hi, bind_some]
      simp only [b01_0]
      by_cases ci : (sm i && !tM T i) = false
      · rw [if_pos ci]
        congr 1
        exact fl_c (none_i (fun z => by rw [z.1, z.2] at ci; cases ci))
      · rw [if_neg ci, hit_eq hO h hs hk, bind_some]
        simp only [b01_0]
        by_cases ck : (sm k && !tM T k) = false
        · rw [if_pos ck]
          congr 1
          exact fl_c (none_k (fun z => by rw [z.1, z.2] at ck; cases ck))
        · rw [if_neg ck]
          have ii : ib (nI i) 8 := (ib_nI (by omega)).mpr (by omega)
          have ij : ib (nI j) 8 := (ib_nI (by omega)).mpr (by omega)
          have ik : ib (nI k) 8 := (ib_nI (by omega)).mpr (by omega)
          have oi := (hO.2.2.1 i hi).1
          have oj := (hO.2.2.1 j hj').1
          have ok := (hO.2.2.1 k hk).1
          have q1 : iI (tH T k) ≤ iI (tH T i) ↔ tH T k ≤ tH T i := iI_le (by omega) (by omega) (by omega) (by omega)
          simp only [if_pos ii, if_pos ij, if_pos ik, nI_clamp (show i < 2 ^ 31 by omega), nI_clamp (show j < 2 ^ 31 by omega), nI_clamp (show k < 2 ^ 31 by omega), (h.2.2 i hi).1, (h.2.2 j hj').1, (h.2.2 k hk).1, (h.2.2 j hj').2.1, q1, hs j hj', b01_0]
          have hsi : sm i = true ∧ tM T i = false := by
            cases e1 : sm i <;> cases e2 : tM T i <;> simp [e1, e2] at ci ⊢
          have hsk : sm k = true ∧ tM T k = false := by
            cases e1 : sm k <;> cases e2 : tM T k <;> simp [e1, e2] at ck ⊢
          by_cases c1 : tH T k ≤ tH T i
          · rw [if_pos c1]
            congr 1
            exact fl_c ⟨fun z => ⟨z, fun j' _ _ v => by
              have := v.2.2.2.2.2
              omega⟩, fun z => z.1⟩
          · rw [if_neg c1]
            -- how one more station changes what is asked
            have more : ∀ (G : Prop), (G ↔ (F ∧ ¬ vio T sm i j k)) → fl (G ∧ ∀ j', j + 1 ≤ j' → j' < tN T → ¬ vio T sm i j' k) = fl (F ∧ ∀ j', j ≤ j' → j' < tN T → ¬ vio T sm i j' k) := fun G hG => fl_c ⟨fun z => ⟨(hG.mp z.1).1, fun j' h1 h2 => by
              rcases Nat.lt_or_ge j j' with h3 | h3
              · exact z.2 j' h3 h2
              · have : j' = j := by omega
                subst this
                exact (hG.mp z.1).2⟩, fun z => ⟨hG.mpr ⟨z.1, z.2 j (Nat.le_refl _) hj'⟩, fun j' h1 h2 => z.2 j' (by omega) h2⟩⟩
            have go : ∀ (G : Prop), (G ↔ (F ∧ ¬ vio T sm i j k)) → f_mo_fitsFor_c27 N kc m a (fl G) (nI i) (nI k) (nI j + 1) σ = kc a (fl (F ∧ ∀ j', j ≤ j' → j' < tN T → ¬ vio T sm i j' k)) (nI i) (nI k + 1) σ := fun G hG => by
              rw [nI_1, ih (j + 1) G (by omega) (by omega), more G hG]
            by_cases cj : sm j = false
            · rw [if_pos cj]
              exact go F ⟨fun z => ⟨z, fun v => by rw [v.2.1] at cj; cases cj⟩, fun z => z.1⟩
            · rw [if_neg cj, between_eq ⟨by omega, by omega⟩ ⟨by omega, by omega⟩ ⟨by omega, by omega⟩]
              by_cases cb : (tH T i < tH T j ∧ tH T j < tH T k) ∨ (tH T k < tH T j ∧ tH T j < tH T i)
              · rw [if_pos cb, if_neg (by decide)]
                have hb : tH T i < tH T j ∧ tH T j < tH T k := by omega
                have g0 : fl False = 0 := fl_f (fun z => z)
                by_cases cF : F
                · rw [fl_t cF, if_neg (by decide)]
                  by_cases cm : tM T j = false
                  · rw [if_pos cm, lets_eq hO h hi hj' hk cm, bind_some]
                    have g1 : fl (¬ dnt T i j k) = 0 ↔ dnt T i j k := by rw [fl_0]; exact Classical.not_not
                    by_cases cd : dnt T i j k
                    · rw [if_pos (g1.mpr cd), ← g0]
                      exact go False ⟨fun z => z.elim, fun z => z.2 ⟨hsi.1, by simpa using cj, hsk.1, hsi.2, hsk.2, hb.1, hb.2, cd⟩⟩
                    · rw [if_neg (fun z => cd (g1.mp z))]
                      have hh := go F ⟨fun z => ⟨z, fun v => cd v.2.2.2.2.2.2.2⟩, fun z => z.1⟩
                      rw [fl_t cF] at hh
                      exact hh
                  · rw [if_neg cm, ← g0]
                    exact go False ⟨fun z => z.elim, fun z => z.2 ⟨hsi.1, by simpa using cj, hsk.1, hsi.2, hsk.2, hb.1, hb.2, Or.inl (by simpa using cm)⟩⟩
                · rw [fl_f cF, if_pos rfl, ← fl_f cF]
                  exact go F ⟨fun z => (cF z).elim, fun z => (cF z.1).elim⟩
              · rw [if_neg cb, if_pos rfl]
                exact go F ⟨fun z => ⟨z, fun v => cb (Or.inl ⟨v.2.2.2.2.2.1, v.2.2.2.2.2.2.1⟩)⟩, fun z => z.1⟩
theorem fits_mid {T : TS} {σ : Sg} (hO : Ok T) (h : RM T σ) {a : Int32} {sm : Nat → Bool} (hs : ∀ k, k < tN T → f_mo_has a (nI k) = b01 (sm k)) {N : Nat} (hN : 600 ≤ N) {kc : Int32 → Int32 → Int32 → Sg → Option Int32} {i : Nat} (hi : i < tN T) :
    ∀ (m k : Nat) (F : Prop), k ≤ tN T → tN T - k < m → f_mo_fitsFor_c15 N kc m a (fl F) (nI i) (nI k) σ = kc a (fl (F ∧ ∀ k', k ≤ k' → k' < tN T → ∀ j', j' < tN T → ¬ vio T sm i j' k')) (nI i + 1) σ := by
  have h8 : tN T ≤ 8 := hO.1
  intro m
  induction m with
  | zero => intro k F h1 h2; omega
  | succ m ih =>
    intro k F hk hm
    show f_mo_fitsFor_c15_s N kc (f_mo_fitsFor_c15 N kc m) a (fl F) (nI i) (nI k) σ = _
    unfold f_mo_fitsFor_c15_s
    have hn : σ.1 20 2 = nI (tN T) := h.1
    have q0 : nI (tN T) ≤ nI k ↔ tN T ≤ k := nI_leI (by omega) (by omega)
    simp only [hn, q0]
    by_cases c0 : tN T ≤ k
    · rw [if_pos c0]
      congr 1
      exact fl_c ⟨fun z => ⟨z, fun k' h1 h2 => by omega⟩, fun z => z.1⟩
    · rw [if_neg c0, show (0 : Int32) = nI 0 from rfl, fits_in hO h hs hi (by omega) N 0 F (by omega) (by omega), nI_1, ih (k + 1) _ (by omega) (by omega)]
      congr 1
      exact fl_c ⟨fun z => ⟨z.1.1, fun k' h1 h2 j' h3 => by
        rcases Nat.lt_or_ge k k' with h4 | h4
        · exact z.2 k' h4 h2 j' h3
        · have : k' = k := by omega
          subst this
          exact z.1.2 j' (Nat.zero_le _) h3⟩, fun z => ⟨⟨z.1, fun j' _ h3 => z.2 k (Nat.le_refl _) (by omega) j' h3⟩, fun k' h1 h2 j' h3 => z.2 k' (by omega) h2 j' h3⟩⟩
theorem fits_out {T : TS} {σ : Sg} (hO : Ok T) (h : RM T σ) {a : Int32} {sm : Nat → Bool} (hs : ∀ k, k < tN T → f_mo_has a (nI k) = b01 (sm k)) {N : Nat} (hN : 600 ≤ N) :
    ∀ (m i : Nat) (F : Prop), i ≤ tN T → tN T - i < m → f_mo_fitsFor_c4 N m a (fl F) (nI i) σ = some (fl (F ∧ ∀ i', i ≤ i' → i' < tN T → ∀ k', k' < tN T → ∀ j', j' < tN T → ¬ vio T sm i' j' k')) := by
  have h8 : tN T ≤ 8 := hO.1
  intro m
  induction m with
  | zero => intro k F h1 h2; omega
  | succ m ih =>
    intro i F hi hm
    show f_mo_fitsFor_c4_s N (f_mo_fitsFor_c4 N m) a (fl F) (nI i) σ = _
    unfold f_mo_fitsFor_c4_s
    have hn : σ.1 20 2 = nI (tN T) := h.1
    have q0 : nI (tN T) ≤ nI i ↔ tN T ≤ i := nI_leI (by omega) (by omega)
    simp only [hn, q0]
    by_cases c0 : tN T ≤ i
    · rw [if_pos c0, if_pos (fl_01 F)]
      congr 1
      exact fl_c ⟨fun z => ⟨z, fun k' h1 h2 => by omega⟩, fun z => z.1⟩
    · rw [if_neg c0, show (0 : Int32) = nI 0 from rfl, fits_mid hO h hs hN (by omega) N 0 F (by omega) (by omega), nI_1, ih (i + 1) _ (by omega) (by omega)]
      congr 1
      exact fl_c ⟨fun z => ⟨z.1.1, fun i' h1 h2 k' h3 j' h5 => by
        rcases Nat.lt_or_ge i i' with h4 | h4
        · exact z.2 i' h4 h2 k' h3 j' h5
        · have : i' = i := by omega
          subst this
          exact z.1.2 k' (Nat.zero_le _) h3 j' h5⟩, fun z => ⟨⟨z.1, fun k' _ h3 j' h5 => z.2 i (Nat.le_refl _) (by omega) k' h3 j' h5⟩, fun i' h1 h2 k' h3 j' h5 => z.2 i' (by omega) h2 k' h3 j' h5⟩⟩
/-- fitsFor: none of the some clash -/
theorem fits_for {T : TS} {σ : Sg} (hO : Ok T) (h : RM T σ) {a : Int32} {sm : Nat → Bool} (hs : ∀ k, k < tN T → f_mo_has a (nI k) = b01 (sm k)) {N : Nat} (hN : 600 ≤ N) : f_mo_fitsFor N σ a = some (fl (PW T sm)) := by
  have h8 : tN T ≤ 8 := hO.1
  unfold f_mo_fitsFor
  rw [show (1 : Int32) = fl True from (fl_t trivial).symm, show (0 : Int32) = nI 0 from rfl, fits_out hO h hs hN N 0 True (by omega) (by omega)]
  congr 1
  exact fl_c ⟨fun z i j k hi hj hk si sj sk c => z.2 i (Nat.zero_le _) hi k hk j hj ⟨si, sj, sk, c⟩, fun z => ⟨trivial, fun i _ hi k hk j hj v => z i j k hi hj hk v.1 v.2.1 v.2.2.1 v.2.2.2⟩⟩
