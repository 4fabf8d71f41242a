/-! REACH: both sides look at the same fractions in the same order -/
theorem bet_x {a b h : Int} (h1 : -100000 ≤ h ∧ h ≤ 100000) (a1 : -100000 ≤ a ∧ a ≤ 100000) (b1 : -100000 ≤ b ∧ b ≤ 100000) : f_sp_isBetween (iI h) (iI a) (iI b) = if (h < a ∧ a < b) ∨ (b < a ∧ a < h) then 1 else 0 := by
  have e1 : iI a ≤ iI h ↔ a ≤ h := iI_le (by omega) (by omega) (by omega) (by omega)
  have e2 : iI a < iI b ↔ a < b := iI_lt (by omega) (by omega) (by omega) (by omega)
  have e3 : iI a ≤ iI b ↔ a ≤ b := iI_le (by omega) (by omega) (by omega) (by omega)
  have e4 : iI h ≤ iI a ↔ h ≤ a := iI_le (by omega) (by omega) (by omega) (by omega)
  unfold f_sp_isBetween f_sp_isBetween_c10
  simp only [e1, e2, e3, e4]
  (repeat' split) <;> first | rfl | (exfalso; omega)
theorem abs_x {a : Int} (a1 : -100000 ≤ a) (a2 : a ≤ 100000) : f_jm_abs_0f7a4 (iI a) = iI (if 0 ≤ a then a else -a) := by
  unfold f_jm_abs_0f7a4
  have e : (0 : Int32) ≤ iI a ↔ 0 ≤ a := iI_le (a := 0) (by omega) (by omega) (by omega) (by omega)
  simp only [e]
  split
  · rfl
  · exact iI_neg a
/-- near i, far k: the bound at h -/
def rcT (T : TS) (out inn : TS → Nat → Int) (h : Int) (i k : Nat) : Int := if tH T i < tH T k then out T i * (tH T k - h) - inn T k * (tH T i - h) else -(out T i * (tH T k - h) - inn T k * (tH T i - h))
def rcB (T : TS) (i k : Nat) : Int := if tH T i < tH T k then tH T k - tH T i else tH T i - tH T k
def btw (T : TS) (h : Int) (i k : Nat) : Prop := (h < tH T i ∧ tH T i < tH T k) ∨ (tH T k < tH T i ∧ tH T i < h)
noncomputable def rIn (up : FR → Int → Int → FR) (T : TS) (out inn : TS → Nat → Int) (h : Int) (i : Nat) : Nat → Nat → FR → FR
  | 0, _, o => o
  | d + 1, k, o => rIn up T out inn h i d (k + 1) (@ite FR (tM T k = false ∧ btw T h i k) (Classical.propDecidable _) (up o (rcT T out inn h i k) (rcB T i k)) o)
noncomputable def rOu (up : FR → Int → Int → FR) (T : TS) (out inn : TS → Nat → Int) (h : Int) : Nat → Nat → FR → FR
  | 0, _, o => o
  | d + 1, i, o => rOu up T out inn h d (i + 1) (if tM T i = true then o else rIn up T out inn h i (tN T) 0 (if tH T i = h then up o (out T i) 1 else o))
theorem rc_b {T : TS} {out inn : TS → Nat → Int} (hO : Ok T) {h : Int} (h1 : -200 ≤ h) (h2 : h ≤ 200) {i k : Nat} (hi : i < tN T) (hk : k < tN T) (ho : -10400 ≤ out T i ∧ out T i ≤ 10400) (hn : -10400 ≤ inn T k ∧ inn T k ≤ 10400) (hb : btw T h i k) : (-8320000 ≤ rcT T out inn h i k ∧ rcT T out inn h i k ≤ 8320000) ∧ (1 ≤ rcB T i k ∧ rcB T i k ≤ 400) := by
  have oi := (hO.2.2.1 i hi).1
  have ok := (hO.2.2.1 k hk).1
  have l := ln_b (a := out T i) (b := inn T k) (x := tH T k - h) (y := tH T i - h) (by omega) (by omega) (by omega) (by omega) (by omega) (by omega) (by omega) (by omega)
  unfold btw at hb
  unfold rcT rcB
  split <;> omega
def bds (T : TS) (f : TS → Nat → Int) : Prop := ∀ k, k < tN T → -10400 ≤ f T k ∧ f T k ≤ 10400
theorem bds_lo {T : TS} (hO : Ok T) : bds T lo := fun k hk => (ends_b hO hk).1
theorem bds_li {T : TS} (hO : Ok T) : bds T li := fun k hk => (ends_b hO hk).2.1
theorem bds_ri {T : TS} (hO : Ok T) : bds T ri := fun k hk => (ends_b hO hk).2.2.1
theorem bds_ro {T : TS} (hO : Ok T) : bds T ro := fun k hk => (ends_b hO hk).2.2.2
theorem rIn_k_upG {T : TS} {out inn : TS → Nat → Int} (hO : Ok T) (h0 : bds T out) (hn : bds T inn) {h : Int} (h1 : -200 ≤ h) (h2 : h ≤ 200) {i : Nat} (hi : i < tN T) : ∀ (d k : Nat) (o : FR), k + d ≤ tN T → FRk o → FRk (rIn upG T out inn h i d k o)
  | 0, k, o, _, ho => ho
  | d + 1, k, o, hd, ho => by
    show FRk (rIn upG T out inn h i d (k + 1) (@ite FR (tM T k = false ∧ btw T h i k) (Classical.propDecidable _) (upG o (rcT T out inn h i k) (rcB T i k)) o))
    refine rIn_k_upG hO h0 hn h1 h2 hi d (k + 1) _ (by omega) ?_
    rcases Classical.em (tM T k = false ∧ btw T h i k) with hc | hc
    · rw [if_pos hc]
      have b := rc_b hO h1 h2 hi (by omega : k < tN T) (h0 i hi) (hn k (by omega)) hc.2
      exact frk_upG ho b.1.1 b.1.2 b.2.1 b.2.2
    · rw [if_neg hc]; exact ho
theorem rOu_k_upG {T : TS} {out inn : TS → Nat → Int} (hO : Ok T) (h0 : bds T out) (hn : bds T inn) {h : Int} (h1 : -200 ≤ h) (h2 : h ≤ 200) : ∀ (d i : Nat) (o : FR), i + d ≤ tN T → FRk o → FRk (rOu upG T out inn h d i o)
  | 0, k, o, _, ho => ho
  | d + 1, i, o, hd, ho => by
    show FRk (rOu upG T out inn h d (i + 1) (if tM T i = true then o else rIn upG T out inn h i (tN T) 0 (if tH T i = h then upG o (out T i) 1 else o)))
    refine rOu_k_upG hO h0 hn h1 h2 d (i + 1) _ (by omega) ?_
    have b := h0 i (by omega)
    split
    · exact ho
    · refine rIn_k_upG hO h0 hn h1 h2 (by omega) (tN T) 0 _ (by omega) ?_
      split
      · exact frk_upG ho (by omega) (by omega) (by omega) (by omega)
      · exact ho
theorem rIn_k_upL {T : TS} {out inn : TS → Nat → Int} (hO : Ok T) (h0 : bds T out) (hn : bds T inn) {h : Int} (h1 : -200 ≤ h) (h2 : h ≤ 200) {i : Nat} (hi : i < tN T) : ∀ (d k : Nat) (o : FR), k + d ≤ tN T → FRk o → FRk (rIn upL T out inn h i d k o)
  | 0, k, o, _, ho => ho
  | d + 1, k, o, hd, ho => by
    show FRk (rIn upL T out inn h i d (k + 1) (@ite FR (tM T k = false ∧ btw T h i k) (Classical.propDecidable _) (upL o (rcT T out inn h i k) (rcB T i k)) o))
    refine rIn_k_upL hO h0 hn h1 h2 hi d (k + 1) _ (by omega) ?_
    rcases Classical.em (tM T k = false ∧ btw T h i k) with hc | hc
    · rw [if_pos hc]
      have b := rc_b hO h1 h2 hi (by omega : k < tN T) (h0 i hi) (hn k (by omega)) hc.2
      exact frk_upL ho b.1.1 b.1.2 b.2.1 b.2.2
    · rw [if_neg hc]; exact ho
theorem rOu_k_upL {T : TS} {out inn : TS → Nat → Int} (hO : Ok T) (h0 : bds T out) (hn : bds T inn) {h : Int} (h1 : -200 ≤ h) (h2 : h ≤ 200) : ∀ (d i : Nat) (o : FR), i + d ≤ tN T → FRk o → FRk (rOu upL T out inn h d i o)
  | 0, k, o, _, ho => ho
  | d + 1, i, o, hd, ho => by
    show FRk (rOu upL T out inn h d (i + 1) (if tM T i = true then o else rIn upL T out inn h i (tN T) 0 (if tH T i = h then upL o (out T i) 1 else o)))
    refine rOu_k_upL hO h0 hn h1 h2 d (i + 1) _ (by omega) ?_
    have b := h0 i (by omega)
    split
    · exact ho
    · refine rIn_k_upL hO h0 hn h1 h2 (by omega) (tN T) 0 _ (by omega) ?_
      split
      · exact frk_upL ho (by omega) (by omega) (by omega) (by omega)
      · exact ho
theorem x_rin_18 {T : TS} {σ0 : Sg} (hO : Ok T) (hR : RX T σ0) {N : Nat} {h : Int} (h1 : -200 ≤ h) (h2 : h ≤ 200) {i : Nat} (hi : i < tN T) (kc : Int32 → Int32 → Int32 → Sg → Option Sg) : ∀ (m k : Nat) (σ : Sg) (o : FR), k ≤ tN T → tN T - k < m → FP 18 σ0 σ → BX 18 (1) o σ → FRk o → ∃ σ', f_sp_bind_18_c56 N kc m (iI h) 0 (nI i) (nI k) σ = kc (iI h) 0 (nI (i + 1)) σ' ∧ FP 18 σ0 σ' ∧ BX 18 (1) (rIn upG T lo li h i (tN T - k) k o) σ' := by
  have h8 := hO.1
  intro m
  induction m with
  | zero => intro k σ o h1 h2; omega
  | succ m ih =>
    intro k σ o hk hm hF hB ho
    have hX := hF.rx (by decide) hR
    show ∃ σ', f_sp_bind_18_c56_s N kc (f_sp_bind_18_c56 N kc m) (iI h) 0 (nI i) (nI k) σ = kc (iI h) 0 (nI (i + 1)) σ' ∧ _
    unfold f_sp_bind_18_c56_s
    have q0 : nI (tN T) ≤ nI k ↔ tN T ≤ k := nI_leI (by omega) (by omega)
    simp only [hX.1, q0, nI_1]
    by_cases c0 : tN T ≤ k
    · rw [if_pos c0, show tN T - k = 0 by omega]
      exact ⟨σ, rfl, hF, hB⟩
    · rw [if_neg c0]
      have hk' : k < tN T := by omega
      have i1 : ib (nI k) 8 := (ib_nI (by omega)).mpr (by omega)
      have i2 : ib (nI i) 8 := (ib_nI (by omega)).mpr (by omega)
      have oi := (hO.2.2.1 i hi).1
      have ok := (hO.2.2.1 k hk').1
      simp only [if_pos i1, if_pos i2, nI_clamp (show k < 2 ^ 31 by omega), nI_clamp (show i < 2 ^ 31 by omega), (hX.2.2 k hk').2.1, (hX.2.2 k hk').1, (hX.2.2 i hi).1, b01_0]
      rw [show tN T - k = (tN T - (k + 1)) + 1 by omega]
      show ∃ σ', _ ∧ _ ∧ BX 18 (1) (rIn upG T lo li h i (tN T - (k + 1)) (k + 1) (@ite FR (tM T k = false ∧ btw T h i k) (Classical.propDecidable _) (upG o (rcT T lo li h i k) (rcB T i k)) o)) σ'
      by_cases c1 : tM T k = false
      · rw [if_pos c1, bet_x ⟨by omega, by omega⟩ ⟨by omega, by omega⟩ ⟨by omega, by omega⟩]
        by_cases c2 : btw T h i k
        · rw [if_pos (show (h < tH T i ∧ tH T i < tH T k) ∨ (tH T k < tH T i ∧ tH T i < h) from c2), if_neg (by decide), (x_inner hO hX hk').1, bind_some, (x_outer hO hX hi).1, bind_some, if_pos ⟨c1, c2⟩]
          have b := rc_b hO h1 h2 hi hk' (bds_lo hO i hi) (bds_li hO k hk') c2
          rw [iI_sub, iI_sub, iI_sub, abs_x (by omega) (by omega), abs_x (by omega) (by omega), iI_mul, iI_mul, iI_add]
          have et : li T k * (if 0 ≤ tH T i - tH T k then tH T i - tH T k else -(tH T i - tH T k)) + (lo T i - li T k) * (if 0 ≤ h - tH T k then h - tH T k else -(h - tH T k)) = 1 * rcT T lo li h i k := by
            unfold rcT
            unfold btw at c2
            by_cases c3 : tH T i < tH T k
            · rw [if_pos c3, if_neg (by omega), if_neg (by omega)]; grind
            · rw [if_neg c3, if_pos (by omega), if_pos (by omega)]; grind
          have eb : (if 0 ≤ tH T i - tH T k then tH T i - tH T k else -(tH T i - tH T k)) = rcB T i k := by
            unfold rcB
            unfold btw at c2
            by_cases c3 : tH T i < tH T k
            · rw [if_pos c3, if_neg (by omega)]; omega
            · rw [if_neg c3, if_pos (by omega)]
          rw [et, eb, iI_L (by omega) (by omega), iI_L (by omega) (by omega), nm_eq]
          obtain ⟨B1, F1⟩ := raise_18 hB ho b.1.1 b.1.2 b.2.1 b.2.2
          exact ih (k + 1) _ _ (by omega) (by omega) (hF.tr F1) B1 (frk_upG ho b.1.1 b.1.2 b.2.1 b.2.2)
        · rw [if_neg (show ¬ ((h < tH T i ∧ tH T i < tH T k) ∨ (tH T k < tH T i ∧ tH T i < h)) from c2), if_pos rfl, if_neg (fun z => c2 z.2)]
          exact ih (k + 1) σ o (by omega) (by omega) hF hB ho
      · rw [if_neg c1, if_neg (fun z => c1 z.1)]
        exact ih (k + 1) σ o (by omega) (by omega) hF hB ho
theorem x_rou_18 {T : TS} {σ0 : Sg} (hO : Ok T) (hR : RX T σ0) {N : Nat} (hN : 600 ≤ N) {h : Int} (h1 : -200 ≤ h) (h2 : h ≤ 200) : ∀ (m i : Nat) (σ : Sg) (o : FR), i ≤ tN T → tN T - i < m → FP 18 σ0 σ → BX 18 (1) o σ → FRk o → ∃ σ', f_sp_bind_18_c7 N m (iI h) 0 (nI i) σ = some σ' ∧ FP 18 σ0 σ' ∧ BX 18 (1) (rOu upG T lo li h (tN T - i) i o) σ' := by
  have h8 := hO.1
  intro m
  induction m with
  | zero => intro k σ o h1 h2; omega
  | succ m ih =>
    intro i σ o hi hm hF hB ho
    have hX := hF.rx (by decide) hR
    show ∃ σ', f_sp_bind_18_c7_s N (f_sp_bind_18_c7 N m) (iI h) 0 (nI i) σ = some σ' ∧ _
    unfold f_sp_bind_18_c7_s
    have q0 : nI (tN T) ≤ nI i ↔ tN T ≤ i := nI_leI (by omega) (by omega)
    simp only [hX.1, q0, nI_1]
    by_cases c0 : tN T ≤ i
    · rw [if_pos c0, show tN T - i = 0 by omega]
      exact ⟨σ, rfl, hF, hB⟩
    · rw [if_neg c0]
      have hi' : i < tN T := by omega
      have i2 : ib (nI i) 8 := (ib_nI (by omega)).mpr (by omega)
      have oi := (hO.2.2.1 i hi').1
      have bo := bds_lo hO i hi'
      have q1 : iI (tH T i) = iI h ↔ tH T i = h := iI_eq (by omega) (by omega) (by omega) (by omega)
      simp only [if_pos i2, nI_clamp (show i < 2 ^ 31 by omega), (hX.2.2 i hi').2.1, (hX.2.2 i hi').1, b01_0, q1]
      rw [show tN T - i = (tN T - (i + 1)) + 1 by omega]
      show ∃ σ', _ ∧ _ ∧ BX 18 (1) (rOu upG T lo li h (tN T - (i + 1)) (i + 1) (if tM T i = true then o else rIn upG T lo li h i (tN T) 0 (if tH T i = h then upG o (lo T i) 1 else o))) σ'
      by_cases c1 : tM T i = false
      · rw [if_pos c1, if_neg (show ¬ tM T i = true by rw [c1]; decide)]
        have fin : ∀ (σ1 : Sg) (o1 : FR), FP 18 σ0 σ1 → BX 18 (1) o1 σ1 → FRk o1 → ∃ σ', f_sp_bind_18_c56 N (f_sp_bind_18_c7 N m) N (iI h) 0 (nI i) 0 σ1 = some σ' ∧ FP 18 σ0 σ' ∧ BX 18 (1) (rOu upG T lo li h (tN T - (i + 1)) (i + 1) (rIn upG T lo li h i (tN T) 0 o1)) σ' := fun σ1 o1 F1 B1 k1 => by
          obtain ⟨σ2, e2, F2, B2⟩ := x_rin_18 hO hR h1 h2 hi' (f_sp_bind_18_c7 N m) N 0 σ1 o1 (by omega) (by omega) F1 B1 k1
          rw [show f_sp_bind_18_c56 N (f_sp_bind_18_c7 N m) N (iI h) 0 (nI i) 0 σ1 = f_sp_bind_18_c56 N (f_sp_bind_18_c7 N m) N (iI h) 0 (nI i) (nI 0) σ1 from rfl, e2]
          rw [Nat.sub_zero] at B2
          exact ih (i + 1) σ2 _ (by omega) (by omega) F2 B2 (rIn_k_upG hO (bds_lo hO) (bds_li hO) h1 h2 hi' (tN T) 0 o1 (by omega) k1)
        by_cases c2 : tH T i = h
        · rw [if_pos c2, if_pos c2, (x_outer hO hX hi').1, bind_some, iI_L (by omega) (by omega), nm_eq]
          obtain ⟨B1, F1⟩ := raise_18 (t := lo T i) (b := 1) hB ho (by omega) (by omega) (by omega) (by omega)
          rw [show iL (1 * lo T i) = iL (lo T i) from by congr 1; omega] at B1 F1
          exact fin _ _ (hF.tr F1) B1 (frk_upG ho (by omega) (by omega) (by omega) (by omega))
        · rw [if_neg c2, if_neg c2]
          exact fin σ o hF hB ho
      · rw [if_neg c1, if_pos (show tM T i = true by simpa using c1)]
        exact ih (i + 1) σ o (by omega) (by omega) hF hB ho
theorem x_bind_18 {T : TS} {σ : Sg} (hO : Ok T) (hR : RX T σ) {N : Nat} (hN : 600 ≤ N) {h : Int} (h1 : -200 ≤ h) (h2 : h ≤ 200) : ∃ σ', f_sp_bind_18 N σ (iI h) 0 = some σ' ∧ FP 18 σ σ' ∧ BX 18 (1) (rOu upG T lo li h (tN T) 0 none) σ' := by
  have h8 := hO.1
  unfold f_sp_bind_18
  rw [nm_eq]
  obtain ⟨B0, F0'⟩ := rel_18 σ
  exact x_rou_18 hO hR hN h1 h2 N 0 _ none (by omega) (by omega) F0' B0 frk_0
theorem x_rin_19 {T : TS} {σ0 : Sg} (hO : Ok T) (hR : RX T σ0) {N : Nat} {h : Int} (h1 : -200 ≤ h) (h2 : h ≤ 200) {i : Nat} (hi : i < tN T) (kc : Int32 → Int32 → Int32 → Sg → Option Sg) : ∀ (m k : Nat) (σ : Sg) (o : FR), k ≤ tN T → tN T - k < m → FP 19 σ0 σ → BX 19 (-1) o σ → FRk o → ∃ σ', f_sp_bind_19_c56 N kc m (iI h) 1 (nI i) (nI k) σ = kc (iI h) 1 (nI (i + 1)) σ' ∧ FP 19 σ0 σ' ∧ BX 19 (-1) (rIn upL T ro ri h i (tN T - k) k o) σ' := by
  have h8 := hO.1
  intro m
  induction m with
  | zero => intro k σ o h1 h2; omega
  | succ m ih =>
    intro k σ o hk hm hF hB ho
    have hX := hF.rx (by decide) hR
    show ∃ σ', f_sp_bind_19_c56_s N kc (f_sp_bind_19_c56 N kc m) (iI h) 1 (nI i) (nI k) σ = kc (iI h) 1 (nI (i + 1)) σ' ∧ _
    unfold f_sp_bind_19_c56_s
    have q0 : nI (tN T) ≤ nI k ↔ tN T ≤ k := nI_leI (by omega) (by omega)
    simp only [hX.1, q0, nI_1]
    by_cases c0 : tN T ≤ k
    · rw [if_pos c0, show tN T - k = 0 by omega]
      exact ⟨σ, rfl, hF, hB⟩
    · rw [if_neg c0]
      have hk' : k < tN T := by omega
      have i1 : ib (nI k) 8 := (ib_nI (by omega)).mpr (by omega)
      have i2 : ib (nI i) 8 := (ib_nI (by omega)).mpr (by omega)
      have oi := (hO.2.2.1 i hi).1
      have ok := (hO.2.2.1 k hk').1
      simp only [if_pos i1, if_pos i2, nI_clamp (show k < 2 ^ 31 by omega), nI_clamp (show i < 2 ^ 31 by omega), (hX.2.2 k hk').2.1, (hX.2.2 k hk').1, (hX.2.2 i hi).1, b01_0]
      rw [show tN T - k = (tN T - (k + 1)) + 1 by omega]
      show ∃ σ', _ ∧ _ ∧ BX 19 (-1) (rIn upL T ro ri h i (tN T - (k + 1)) (k + 1) (@ite FR (tM T k = false ∧ btw T h i k) (Classical.propDecidable _) (upL o (rcT T ro ri h i k) (rcB T i k)) o)) σ'
      by_cases c1 : tM T k = false
      · rw [if_pos c1, bet_x ⟨by omega, by omega⟩ ⟨by omega, by omega⟩ ⟨by omega, by omega⟩]
        by_cases c2 : btw T h i k
        · rw [if_pos (show (h < tH T i ∧ tH T i < tH T k) ∨ (tH T k < tH T i ∧ tH T i < h) from c2), if_neg (by decide), (x_inner hO hX hk').2, bind_some, (x_outer hO hX hi).2, bind_some, if_pos ⟨c1, c2⟩]
          have b := rc_b hO h1 h2 hi hk' (bds_ro hO i hi) (bds_ri hO k hk') c2
          rw [iI_sub, iI_sub, iI_sub, abs_x (by omega) (by omega), abs_x (by omega) (by omega), iI_mul, iI_mul, iI_add]
          have et : -(ri T k) * (if 0 ≤ tH T i - tH T k then tH T i - tH T k else -(tH T i - tH T k)) + (-(ro T i) - -(ri T k)) * (if 0 ≤ h - tH T k then h - tH T k else -(h - tH T k)) = -1 * rcT T ro ri h i k := by
            unfold rcT
            unfold btw at c2
            by_cases c3 : tH T i < tH T k
            · rw [if_pos c3, if_neg (by omega), if_neg (by omega)]; grind
            · rw [if_neg c3, if_pos (by omega), if_pos (by omega)]; grind
          have eb : (if 0 ≤ tH T i - tH T k then tH T i - tH T k else -(tH T i - tH T k)) = rcB T i k := by
            unfold rcB
            unfold btw at c2
            by_cases c3 : tH T i < tH T k
            · rw [if_pos c3, if_neg (by omega)]; omega
            · rw [if_neg c3, if_pos (by omega)]
          rw [et, eb, iI_L (by omega) (by omega), iI_L (by omega) (by omega), nm_eq]
          obtain ⟨B1, F1⟩ := raise_19 hB ho b.1.1 b.1.2 b.2.1 b.2.2
          exact ih (k + 1) _ _ (by omega) (by omega) (hF.tr F1) B1 (frk_upL ho b.1.1 b.1.2 b.2.1 b.2.2)
        · rw [if_neg (show ¬ ((h < tH T i ∧ tH T i < tH T k) ∨ (tH T k < tH T i ∧ tH T i < h)) from c2), if_pos rfl, if_neg (fun z => c2 z.2)]
          exact ih (k + 1) σ o (by omega) (by omega) hF hB ho
      · rw [if_neg c1, if_neg (fun z => c1 z.1)]
        exact ih (k + 1) σ o (by omega) (by omega) hF hB ho
theorem x_rou_19 {T : TS} {σ0 : Sg} (hO : Ok T) (hR : RX T σ0) {N : Nat} (hN : 600 ≤ N) {h : Int} (h1 : -200 ≤ h) (h2 : h ≤ 200) : ∀ (m i : Nat) (σ : Sg) (o : FR), i ≤ tN T → tN T - i < m → FP 19 σ0 σ → BX 19 (-1) o σ → FRk o → ∃ σ', f_sp_bind_19_c7 N m (iI h) 1 (nI i) σ = some σ' ∧ FP 19 σ0 σ' ∧ BX 19 (-1) (rOu upL T ro ri h (tN T - i) i o) σ' := by
  have h8 := hO.1
  intro m
  induction m with
  | zero => intro k σ o h1 h2; omega
  | succ m ih =>
    intro i σ o hi hm hF hB ho
    have hX := hF.rx (by decide) hR
    show ∃ σ', f_sp_bind_19_c7_s N (f_sp_bind_19_c7 N m) (iI h) 1 (nI i) σ = some σ' ∧ _
    unfold f_sp_bind_19_c7_s
    have q0 : nI (tN T) ≤ nI i ↔ tN T ≤ i := nI_leI (by omega) (by omega)
    simp only [hX.1, q0, nI_1]
    by_cases c0 : tN T ≤ i
    · rw [if_pos c0, show tN T - i = 0 by omega]
      exact ⟨σ, rfl, hF, hB⟩
    · rw [if_neg c0]
      have hi' : i < tN T := by omega
      have i2 : ib (nI i) 8 := (ib_nI (by omega)).mpr (by omega)
      have oi := (hO.2.2.1 i hi').1
      have bo := bds_ro hO i hi'
      have q1 : iI (tH T i) = iI h ↔ tH T i = h := iI_eq (by omega) (by omega) (by omega) (by omega)
      simp only [if_pos i2, nI_clamp (show i < 2 ^ 31 by omega), (hX.2.2 i hi').2.1, (hX.2.2 i hi').1, b01_0, q1]
      rw [show tN T - i = (tN T - (i + 1)) + 1 by omega]
      show ∃ σ', _ ∧ _ ∧ BX 19 (-1) (rOu upL T ro ri h (tN T - (i + 1)) (i + 1) (if tM T i = true then o else rIn upL T ro ri h i (tN T) 0 (if tH T i = h then upL o (ro T i) 1 else o))) σ'
      by_cases c1 : tM T i = false
      · rw [if_pos c1, if_neg (show ¬ tM T i = true by rw [c1]; decide)]
        have fin : ∀ (σ1 : Sg) (o1 : FR), FP 19 σ0 σ1 → BX 19 (-1) o1 σ1 → FRk o1 → ∃ σ', f_sp_bind_19_c56 N (f_sp_bind_19_c7 N m) N (iI h) 1 (nI i) 0 σ1 = some σ' ∧ FP 19 σ0 σ' ∧ BX 19 (-1) (rOu upL T ro ri h (tN T - (i + 1)) (i + 1) (rIn upL T ro ri h i (tN T) 0 o1)) σ' := fun σ1 o1 F1 B1 k1 => by
          obtain ⟨σ2, e2, F2, B2⟩ := x_rin_19 hO hR h1 h2 hi' (f_sp_bind_19_c7 N m) N 0 σ1 o1 (by omega) (by omega) F1 B1 k1
          rw [show f_sp_bind_19_c56 N (f_sp_bind_19_c7 N m) N (iI h) 1 (nI i) 0 σ1 = f_sp_bind_19_c56 N (f_sp_bind_19_c7 N m) N (iI h) 1 (nI i) (nI 0) σ1 from rfl, e2]
          rw [Nat.sub_zero] at B2
          exact ih (i + 1) σ2 _ (by omega) (by omega) F2 B2 (rIn_k_upL hO (bds_ro hO) (bds_ri hO) h1 h2 hi' (tN T) 0 o1 (by omega) k1)
        by_cases c2 : tH T i = h
        · rw [if_pos c2, if_pos c2, (x_outer hO hX hi').2, bind_some, iI_L (by omega) (by omega), nm_eq]
          obtain ⟨B1, F1⟩ := raise_19 (t := ro T i) (b := 1) hB ho (by omega) (by omega) (by omega) (by omega)
          rw [show iL (-1 * ro T i) = iL (-(ro T i)) from by congr 1; omega] at B1 F1
          exact fin _ _ (hF.tr F1) B1 (frk_upL ho (by omega) (by omega) (by omega) (by omega))
        · rw [if_neg c2, if_neg c2]
          exact fin σ o hF hB ho
      · rw [if_neg c1, if_pos (show tM T i = true by simpa using c1)]
        exact ih (i + 1) σ o (by omega) (by omega) hF hB ho
theorem x_bind_19 {T : TS} {σ : Sg} (hO : Ok T) (hR : RX T σ) {N : Nat} (hN : 600 ≤ N) {h : Int} (h1 : -200 ≤ h) (h2 : h ≤ 200) : ∃ σ', f_sp_bind_19 N σ (iI h) 1 = some σ' ∧ FP 19 σ σ' ∧ BX 19 (-1) (rOu upL T ro ri h (tN T) 0 none) σ' := by
  have h8 := hO.1
  unfold f_sp_bind_19
  rw [nm_eq]
  obtain ⟨B0, F0'⟩ := rel_19 σ
  exact x_rou_19 hO hR hN h1 h2 N 0 _ none (by omega) (by omega) F0' B0 frk_0
