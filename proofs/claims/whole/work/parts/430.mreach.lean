/-! REACH in the model -/
theorem m_rin_0 {T : TS} {σ0 : Sg} (hO : Ok T) (hR : RM T σ0) {N : Nat} {h : Int} (h1 : -200 ≤ h) (h2 : h ≤ 200) {i : Nat} (hi : i < tN T) (kc : Int32 → Int32 → Int32 → Int32 → Int32 → Sg → Option Sg) : ∀ (m k : Nat) (σ : Sg) (o : FR), k ≤ tN T → tN T - k < m → FMb σ0 σ → BM o σ → FRk o → ∃ σ', f_mo_layReach_c86 N kc m (iI h) 0 0 1 (nI i) (nI k) σ = kc (iI h) 0 0 1 (nI (i + 1)) σ' ∧ FMb σ0 σ' ∧ BM (rIn upG T lo li h i (tN T - k) k o) σ' := by
  have h8 := hO.1
  intro m
  induction m with
  | zero => intro k σ o h1 h2; omega
  | succ m ih =>
    intro k σ o hk hm hF hB ho
    have hX := hF.1.rm hR
    show ∃ σ', f_mo_layReach_c86_s N kc (f_mo_layReach_c86 N kc m) (iI h) 0 0 1 (nI i) (nI k) σ = kc (iI h) 0 0 1 (nI (i + 1)) σ' ∧ _
    unfold f_mo_layReach_c86_s
    have q0 : nI (tN T) ≤ nI k ↔ tN T ≤ k := nI_leI (by omega) (by omega)
    simp only [hX.1, q0, nI_1]
    by_cases c0 : tN T ≤ k
    · rw [if_pos c0, show tN T - k = 0 by omega]
      exact ⟨σ, rfl, hF, hB⟩
    · rw [if_neg c0]
      have hk' : k < tN T := by omega
      have i1 : ib (nI k) 8 := (ib_nI (by omega)).mpr (by omega)
      have i2 : ib (nI i) 8 := (ib_nI (by omega)).mpr (by omega)
      have oi := (hO.2.2.1 i hi).1
      have ok := (hO.2.2.1 k hk').1
      have bo := bds_lo hO i hi
      have bn := bds_li hO k hk'
      simp only [if_pos i1, if_pos i2, nI_clamp (show k < 2 ^ 31 by omega), nI_clamp (show i < 2 ^ 31 by omega), (hX.2.2 k hk').2.1, (hX.2.2 k hk').1, (hX.2.2 i hi).1, b01_0]
      rw [show tN T - k = (tN T - (k + 1)) + 1 by omega]
      show ∃ σ', _ ∧ _ ∧ BM (rIn upG T lo li h i (tN T - (k + 1)) (k + 1) (@ite FR (tM T k = false ∧ btw T h i k) (Classical.propDecidable _) (upG o (rcT T lo li h i k) (rcB T i k)) o)) σ'
      by_cases c1 : tM T k = false
      · rw [if_pos c1, between_eq ⟨by omega, by omega⟩ ⟨by omega, by omega⟩ ⟨by omega, by omega⟩]
        by_cases c2 : btw T h i k
        · have c2' : (h < tH T i ∧ tH T i < tH T k) ∨ (tH T k < tH T i ∧ tH T i < h) := c2
          rw [if_pos c2', if_neg (by decide), (m_bound hO hX hi).1, bind_some, (m_bound hO hX hk').2.1, bind_some, if_pos (show tM T k = false ∧ btw T h i k from ⟨c1, c2⟩)]
          have b := rc_b hO h1 h2 hi hk' bo bn c2
          rw [iI_sub, iI_sub, iI_L (a := lo T i) (by omega) (by omega), iI_L (a := li T k) (by omega) (by omega), iI_L (a := tH T k - h) (by omega) (by omega), iI_L (a := tH T i - h) (by omega) (by omega), iL_mul, iL_mul, iL_sub, iL_sub, show tH T k - h - (tH T i - h) = tH T k - tH T i by omega]
          have hl := look_upG hB ho b.1.1 b.1.2 b.2.1 b.2.2
          have el : f_mo_look σ (iL (lo T i * (tH T k - h) - li T k * (tH T i - h))) (iL (tH T k - tH T i)) 1 = f_mo_look σ (iL (rcT T lo li h i k)) (iL (rcB T i k)) 1 := by
            by_cases c3 : tH T i < tH T k
            · have e1 : rcT T lo li h i k = lo T i * (tH T k - h) - li T k * (tH T i - h) := by unfold rcT; rw [if_pos c3]
              have e2 : rcB T i k = tH T k - tH T i := by unfold rcB; rw [if_pos c3]
              rw [e1, e2]
            · have e1 : lo T i * (tH T k - h) - li T k * (tH T i - h) = -(rcT T lo li h i k) := by unfold rcT; rw [if_neg c3]; omega
              have e2 : tH T k - tH T i = -(rcB T i k) := by unfold rcB; rw [if_neg c3]; omega
              rw [e1, e2, hl.2]
          rw [if_pos trivial]
          rw [el, nm_eq]
          exact ih (k + 1) _ _ (by omega) (by omega) (hF.tr hl.1.2) hl.1.1 (frk_upG ho b.1.1 b.1.2 b.2.1 b.2.2)
        · rw [if_neg (show ¬ ((h < tH T i ∧ tH T i < tH T k) ∨ (tH T k < tH T i ∧ tH T i < h)) from c2), if_pos rfl, if_neg (fun z => c2 z.2)]
          exact ih (k + 1) σ o (by omega) (by omega) hF hB ho
      · rw [if_neg c1, if_neg (fun z => c1 z.1)]
        exact ih (k + 1) σ o (by omega) (by omega) hF hB ho
theorem m_rou_0 {T : TS} {σ0 : Sg} (hO : Ok T) (hR : RM T σ0) {N : Nat} (hN : 600 ≤ N) {h : Int} (h1 : -200 ≤ h) (h2 : h ≤ 200) : ∀ (m i : Nat) (σ : Sg) (o : FR), i ≤ tN T → tN T - i < m → FMb σ0 σ → BM o σ → FRk o → ∃ σ', f_mo_layReach_c28 N m (iI h) 0 0 1 (nI i) σ = some σ' ∧ FMb σ0 σ' ∧ BM (rOu upG T lo li h (tN T - i) i o) σ' := by
  have h8 := hO.1
  intro m
  induction m with
  | zero => intro k σ o h1 h2; omega
  | succ m ih =>
    intro i σ o hi hm hF hB ho
    have hX := hF.1.rm hR
    show ∃ σ', f_mo_layReach_c28_s N (f_mo_layReach_c28 N m) (iI h) 0 0 1 (nI i) σ = some σ' ∧ _
    unfold f_mo_layReach_c28_s
    have q0 : nI (tN T) ≤ nI i ↔ tN T ≤ i := nI_leI (by omega) (by omega)
    simp only [hX.1, q0, nI_1]
    by_cases c0 : tN T ≤ i
    · rw [if_pos c0, show tN T - i = 0 by omega]
      exact ⟨σ, rfl, hF, hB⟩
    · rw [if_neg c0]
      have hi' : i < tN T := by omega
      have i2 : ib (nI i) 8 := (ib_nI (by omega)).mpr (by omega)
      have oi := (hO.2.2.1 i hi').1
      have bo := bds_lo hO i hi'
      have q1 : iI (tH T i) = iI h ↔ tH T i = h := iI_eq (by omega) (by omega) (by omega) (by omega)
      simp only [if_pos i2, nI_clamp (show i < 2 ^ 31 by omega), (hX.2.2 i hi').2.1, (hX.2.2 i hi').1, b01_0, q1]
      rw [show tN T - i = (tN T - (i + 1)) + 1 by omega]
      show ∃ σ', _ ∧ _ ∧ BM (rOu upG T lo li h (tN T - (i + 1)) (i + 1) (if tM T i = true then o else rIn upG T lo li h i (tN T) 0 (if tH T i = h then upG o (lo T i) 1 else o))) σ'
      by_cases c1 : tM T i = false
      · rw [if_pos c1, if_neg (show ¬ tM T i = true by rw [c1]; decide)]
        have fin : ∀ (σ1 : Sg) (o1 : FR), FMb σ0 σ1 → BM o1 σ1 → FRk o1 → ∃ σ', f_mo_layReach_c86 N (f_mo_layReach_c28 N m) N (iI h) 0 0 1 (nI i) 0 σ1 = some σ' ∧ FMb σ0 σ' ∧ BM (rOu upG T lo li h (tN T - (i + 1)) (i + 1) (rIn upG T lo li h i (tN T) 0 o1)) σ' := fun σ1 o1 F1 B1 k1 => by
          obtain ⟨σ2, e2, F2, B2⟩ := m_rin_0 hO hR h1 h2 hi' (f_mo_layReach_c28 N m) N 0 σ1 o1 (by omega) (by omega) F1 B1 k1
          rw [show f_mo_layReach_c86 N (f_mo_layReach_c28 N m) N (iI h) 0 0 1 (nI i) 0 σ1 = f_mo_layReach_c86 N (f_mo_layReach_c28 N m) N (iI h) 0 0 1 (nI i) (nI 0) σ1 from rfl, e2]
          rw [Nat.sub_zero] at B2
          exact ih (i + 1) σ2 _ (by omega) (by omega) F2 B2 (rIn_k_upG hO (bds_lo hO) (bds_li hO) h1 h2 hi' (tN T) 0 o1 (by omega) k1)
        by_cases c2 : tH T i = h
        · rw [if_pos c2, if_pos c2, (m_bound hO hX hi').1, bind_some, iI_L (by omega) (by omega)]
          rw [if_pos trivial]
          rw [nm_eq]
          obtain ⟨⟨B1, F1⟩, -⟩ := look_upG (t := lo T i) (b := 1) hB ho (by omega) (by omega) (by omega) (by omega)
          exact fin _ _ (hF.tr F1) B1 (frk_upG ho (by omega) (by omega) (by omega) (by omega))
        · rw [if_neg c2, if_neg c2]
          exact fin σ o hF hB ho
      · rw [if_neg c1, if_pos (show tM T i = true by simpa using c1)]
        exact ih (i + 1) σ o (by omega) (by omega) hF hB ho
theorem m_reach_0 {T : TS} {σ : Sg} (hO : Ok T) (hR : RM T σ) {N : Nat} (hN : 600 ≤ N) {h : Int} (h1 : -200 ≤ h) (h2 : h ≤ 200) : ∃ σ', f_mo_layReach N σ (iI h) 0 = some σ' ∧ FMb σ σ' ∧ BM (rOu upG T lo li h (tN T) 0 none) σ' := by
  have h8 := hO.1
  unfold f_mo_layReach f_mo_layReach_c13
  obtain ⟨B0, F0'⟩ := begins_eq σ
  rw [nm_eq, if_pos rfl, if_pos rfl]
  exact m_rou_0 hO hR hN h1 h2 N 0 _ none (by omega) (by omega) F0' B0 frk_0
theorem m_rin_1 {T : TS} {σ0 : Sg} (hO : Ok T) (hR : RM T σ0) {N : Nat} {h : Int} (h1 : -200 ≤ h) (h2 : h ≤ 200) {i : Nat} (hi : i < tN T) (kc : Int32 → Int32 → Int32 → Int32 → Int32 → Sg → Option Sg) : ∀ (m k : Nat) (σ : Sg) (o : FR), k ≤ tN T → tN T - k < m → FMb σ0 σ → BM o σ → FRk o → ∃ σ', f_mo_layReach_c86 N kc m (iI h) 1 3 2 (nI i) (nI k) σ = kc (iI h) 1 3 2 (nI (i + 1)) σ' ∧ FMb σ0 σ' ∧ BM (rIn upL T ro ri h i (tN T - k) k o) σ' := by
  have h8 := hO.1
  intro m
  induction m with
  | zero => intro k σ o h1 h2; omega
  | succ m ih =>
    intro k σ o hk hm hF hB ho
    have hX := hF.1.rm hR
    show ∃ σ', f_mo_layReach_c86_s N kc (f_mo_layReach_c86 N kc m) (iI h) 1 3 2 (nI i) (nI k) σ = kc (iI h) 1 3 2 (nI (i + 1)) σ' ∧ _
    unfold f_mo_layReach_c86_s
    have q0 : nI (tN T) ≤ nI k ↔ tN T ≤ k := nI_leI (by omega) (by omega)
    simp only [hX.1, q0, nI_1]
    by_cases c0 : tN T ≤ k
    · rw [if_pos c0, show tN T - k = 0 by omega]
      exact ⟨σ, rfl, hF, hB⟩
    · rw [if_neg c0]
      have hk' : k < tN T := by omega
      have i1 : ib (nI k) 8 := (ib_nI (by omega)).mpr (by omega)
      have i2 : ib (nI i) 8 := (ib_nI (by omega)).mpr (by omega)
      have oi := (hO.2.2.1 i hi).1
      have ok := (hO.2.2.1 k hk').1
      have bo := bds_ro hO i hi
      have bn := bds_ri hO k hk'
      simp only [if_pos i1, if_pos i2, nI_clamp (show k < 2 ^ 31 by omega), nI_clamp (show i < 2 ^ 31 by omega), (hX.2.2 k hk').2.1, (hX.2.2 k hk').1, (hX.2.2 i hi).1, b01_0]
      rw [show tN T - k = (tN T - (k + 1)) + 1 by omega]
      show ∃ σ', _ ∧ _ ∧ BM (rIn upL T ro ri h i (tN T - (k + 1)) (k + 1) (@ite FR (tM T k = false ∧ btw T h i k) (Classical.propDecidable _) (upL o (rcT T ro ri h i k) (rcB T i k)) o)) σ'
      by_cases c1 : tM T k = false
      · rw [if_pos c1, between_eq ⟨by omega, by omega⟩ ⟨by omega, by omega⟩ ⟨by omega, by omega⟩]
        by_cases c2 : btw T h i k
        · have c2' : (h < tH T i ∧ tH T i < tH T k) ∨ (tH T k < tH T i ∧ tH T i < h) := c2
          rw [if_pos c2', if_neg (by decide), (m_bound hO hX hi).2.2.2, bind_some, (m_bound hO hX hk').2.2.1, bind_some, if_pos (show tM T k = false ∧ btw T h i k from ⟨c1, c2⟩)]
          have b := rc_b hO h1 h2 hi hk' bo bn c2
          rw [iI_sub, iI_sub, iI_L (a := ro T i) (by omega) (by omega), iI_L (a := ri T k) (by omega) (by omega), iI_L (a := tH T k - h) (by omega) (by omega), iI_L (a := tH T i - h) (by omega) (by omega), iL_mul, iL_mul, iL_sub, iL_sub, show tH T k - h - (tH T i - h) = tH T k - tH T i by omega]
          have hl := look_upL hB ho b.1.1 b.1.2 b.2.1 b.2.2
          have el : f_mo_look σ (iL (ro T i * (tH T k - h) - ri T k * (tH T i - h))) (iL (tH T k - tH T i)) 0 = f_mo_look σ (iL (rcT T ro ri h i k)) (iL (rcB T i k)) 0 := by
            by_cases c3 : tH T i < tH T k
            · have e1 : rcT T ro ri h i k = ro T i * (tH T k - h) - ri T k * (tH T i - h) := by unfold rcT; rw [if_pos c3]
              have e2 : rcB T i k = tH T k - tH T i := by unfold rcB; rw [if_pos c3]
              rw [e1, e2]
            · have e1 : ro T i * (tH T k - h) - ri T k * (tH T i - h) = -(rcT T ro ri h i k) := by unfold rcT; rw [if_neg c3]; omega
              have e2 : tH T k - tH T i = -(rcB T i k) := by unfold rcB; rw [if_neg c3]; omega
              rw [e1, e2, hl.2]
          first | rw [if_neg (show ¬ ((1 : Int32) = 0) by decide)] | rw [if_neg (show ¬ False from fun z => z)]
          rw [el, nm_eq]
          exact ih (k + 1) _ _ (by omega) (by omega) (hF.tr hl.1.2) hl.1.1 (frk_upL ho b.1.1 b.1.2 b.2.1 b.2.2)
        · rw [if_neg (show ¬ ((h < tH T i ∧ tH T i < tH T k) ∨ (tH T k < tH T i ∧ tH T i < h)) from c2), if_pos rfl, if_neg (fun z => c2 z.2)]
          exact ih (k + 1) σ o (by omega) (by omega) hF hB ho
      · rw [if_neg c1, if_neg (fun z => c1 z.1)]
        exact ih (k + 1) σ o (by omega) (by omega) hF hB ho
theorem m_rou_1 {T : TS} {σ0 : Sg} (hO : Ok T) (hR : RM T σ0) {N : Nat} (hN : 600 ≤ N) {h : Int} (h1 : -200 ≤ h) (h2 : h ≤ 200) : ∀ (m i : Nat) (σ : Sg) (o : FR), i ≤ tN T → tN T - i < m → FMb σ0 σ → BM o σ → FRk o → ∃ σ', f_mo_layReach_c28 N m (iI h) 1 3 2 (nI i) σ = some σ' ∧ FMb σ0 σ' ∧ BM (rOu upL T ro ri h (tN T - i) i o) σ' := by
  have h8 := hO.1
  intro m
  induction m with
  | zero => intro k σ o h1 h2; omega
  | succ m ih =>
    intro i σ o hi hm hF hB ho
    have hX := hF.1.rm hR
    show ∃ σ', f_mo_layReach_c28_s N (f_mo_layReach_c28 N m) (iI h) 1 3 2 (nI i) σ = some σ' ∧ _
    unfold f_mo_layReach_c28_s
    have q0 : nI (tN T) ≤ nI i ↔ tN T ≤ i := nI_leI (by omega) (by omega)
    simp only [hX.1, q0, nI_1]
    by_cases c0 : tN T ≤ i
    · rw [if_pos c0, show tN T - i = 0 by omega]
      exact ⟨σ, rfl, hF, hB⟩
    · rw [if_neg c0]
      have hi' : i < tN T := by omega
      have i2 : ib (nI i) 8 := (ib_nI (by omega)).mpr (by omega)
      have oi := (hO.2.2.1 i hi').1
      have bo := bds_ro hO i hi'
      have q1 : iI (tH T i) = iI h ↔ tH T i = h := iI_eq (by omega) (by omega) (by omega) (by omega)
      simp only [if_pos i2, nI_clamp (show i < 2 ^ 31 by omega), (hX.2.2 i hi').2.1, (hX.2.2 i hi').1, b01_0, q1]
      rw [show tN T - i = (tN T - (i + 1)) + 1 by omega]
      show ∃ σ', _ ∧ _ ∧ BM (rOu upL T ro ri h (tN T - (i + 1)) (i + 1) (if tM T i = true then o else rIn upL T ro ri h i (tN T) 0 (if tH T i = h then upL o (ro T i) 1 else o))) σ'
      by_cases c1 : tM T i = false
      · rw [if_pos c1, if_neg (show ¬ tM T i = true by rw [c1]; decide)]
        have fin : ∀ (σ1 : Sg) (o1 : FR), FMb σ0 σ1 → BM o1 σ1 → FRk o1 → ∃ σ', f_mo_layReach_c86 N (f_mo_layReach_c28 N m) N (iI h) 1 3 2 (nI i) 0 σ1 = some σ' ∧ FMb σ0 σ' ∧ BM (rOu upL T ro ri h (tN T - (i + 1)) (i + 1) (rIn upL T ro ri h i (tN T) 0 o1)) σ' := fun σ1 o1 F1 B1 k1 => by
          obtain ⟨σ2, e2, F2, B2⟩ := m_rin_1 hO hR h1 h2 hi' (f_mo_layReach_c28 N m) N 0 σ1 o1 (by omega) (by omega) F1 B1 k1
          rw [show f_mo_layReach_c86 N (f_mo_layReach_c28 N m) N (iI h) 1 3 2 (nI i) 0 σ1 = f_mo_layReach_c86 N (f_mo_layReach_c28 N m) N (iI h) 1 3 2 (nI i) (nI 0) σ1 from rfl, e2]
          rw [Nat.sub_zero] at B2
          exact ih (i + 1) σ2 _ (by omega) (by omega) F2 B2 (rIn_k_upL hO (bds_ro hO) (bds_ri hO) h1 h2 hi' (tN T) 0 o1 (by omega) k1)
        by_cases c2 : tH T i = h
        · rw [if_pos c2, if_pos c2, (m_bound hO hX hi').2.2.2, bind_some, iI_L (by omega) (by omega)]
          first | rw [if_neg (show ¬ ((1 : Int32) = 0) by decide)] | rw [if_neg (show ¬ False from fun z => z)]
          rw [nm_eq]
          obtain ⟨⟨B1, F1⟩, -⟩ := look_upL (t := ro T i) (b := 1) hB ho (by omega) (by omega) (by omega) (by omega)
          exact fin _ _ (hF.tr F1) B1 (frk_upL ho (by omega) (by omega) (by omega) (by omega))
        · rw [if_neg c2, if_neg c2]
          exact fin σ o hF hB ho
      · rw [if_neg c1, if_pos (show tM T i = true by simpa using c1)]
        exact ih (i + 1) σ o (by omega) (by omega) hF hB ho
theorem m_reach_1 {T : TS} {σ : Sg} (hO : Ok T) (hR : RM T σ) {N : Nat} (hN : 600 ≤ N) {h : Int} (h1 : -200 ≤ h) (h2 : h ≤ 200) : ∃ σ', f_mo_layReach N σ (iI h) 1 = some σ' ∧ FMb σ σ' ∧ BM (rOu upL T ro ri h (tN T) 0 none) σ' := by
  have h8 := hO.1
  unfold f_mo_layReach f_mo_layReach_c13
  obtain ⟨B0, F0'⟩ := begins_eq σ
  rw [nm_eq, if_neg (by decide), if_neg (by decide)]
  exact m_rou_1 hO hR hN h1 h2 N 0 _ none (by omega) (by omega) F0' B0 frk_0
/-! barred by one that missed -/
def bar (T : TS) (h : Int) (m k : Nat) : Prop := tM T m = true ∧ tM T k = false ∧ (tH T m = h ∨ (tH T k < tH T m ∧ tH T m < h) ∨ (h < tH T m ∧ tH T m < tH T k))
def brd (T : TS) (h : Int) : Prop := ∃ m k, m < tN T ∧ k < tN T ∧ bar T h m k
theorem mul_le0 {a b : Int} : a * b ≤ 0 ↔ ((a ≤ 0 ∧ 0 ≤ b) ∨ (0 ≤ a ∧ b ≤ 0)) := by
  constructor
  · intro h
    rcases Int.lt_or_le a 0 with h1 | h1
    · rcases Int.lt_or_le b 0 with h2 | h2
      · have : 0 < (-a) * (-b) := Int.mul_pos (by omega) (by omega)
        rw [Int.neg_mul_neg] at this
        omega
      · omega
    · rcases Int.lt_or_le 0 b with h2 | h2
      · rcases Int.lt_or_le 0 a with h3 | h3
        · have : 0 < a * b := Int.mul_pos h3 h2
          omega
        · omega
      · omega
  · rintro (⟨h1, h2⟩ | ⟨h1, h2⟩)
    · exact Int.mul_nonpos_of_nonpos_of_nonneg h1 h2
    · exact Int.mul_nonpos_of_nonneg_of_nonpos h1 h2
theorem x_bar_in {T : TS} {σ : Sg} (hO : Ok T) (hX : RX T σ) {N : Nat} {h : Int} (h1 : -200 ≤ h) (h2 : h ≤ 200) {a : Nat} (ha : a < tN T) (kc : Int32 → Int32 → Sg → Option Int32) : ∀ (m k : Nat), k ≤ tN T → tN T - k < m → (∃ j, k ≤ j ∧ j < tN T ∧ bar T h a j) ∧ f_sp_isBarred_c12 N kc m (iI h) (nI a) (nI k) σ = some 1 ∨ (¬ ∃ j, k ≤ j ∧ j < tN T ∧ bar T h a j) ∧ f_sp_isBarred_c12 N kc m (iI h) (nI a) (nI k) σ = kc (iI h) (nI (a + 1)) σ := by
  have h8 := hO.1
  intro m
  induction m with
  | zero => intro k h1 h2; omega
  | succ m ih =>
    intro k hk hm
    have e : f_sp_isBarred_c12 N kc (m + 1) (iI h) (nI a) (nI k) σ = f_sp_isBarred_c12_s N kc (f_sp_isBarred_c12 N kc m) (iI h) (nI a) (nI k) σ := rfl
    rw [e]
    unfold f_sp_isBarred_c12_s
    have q0 : nI (tN T) ≤ nI k ↔ tN T ≤ k := nI_leI (by omega) (by omega)
    simp only [hX.1, q0, nI_1]
    by_cases c0 : tN T ≤ k
    · rw [if_pos c0]
      exact Or.inr ⟨fun ⟨j, a1, a2, _⟩ => by omega, rfl⟩
    · rw [if_neg c0]
      have hk' : k < tN T := by omega
      have i1 : ib (nI k) 8 := (ib_nI (by omega)).mpr (by omega)
      have i2 : ib (nI a) 8 := (ib_nI (by omega)).mpr (by omega)
      have oa := (hO.2.2.1 a ha).1
      have ok := (hO.2.2.1 k hk').1
      have mm := mb (a := tH T a - tH T k) (A := 400) (b := tH T a - h) (B := 400) (by omega) (by omega) (by omega) (by omega)
      have q1 : (0 : Int32) < iI ((tH T a - tH T k) * (tH T a - h)) ↔ 0 < (tH T a - tH T k) * (tH T a - h) := iI_lt (a := 0) (by omega) (by omega) (by omega) (by omega)
      simp only [if_pos i1, if_pos i2, nI_clamp (show k < 2 ^ 31 by omega), nI_clamp (show a < 2 ^ 31 by omega), (hX.2.2 k hk').2.1, (hX.2.2 k hk').1, (hX.2.2 a ha).2.1, (hX.2.2 a ha).1, b01_0, iI_sub, iI_mul, q1]
      by_cases c1 : tM T a = false
      · rw [if_pos c1]
        exact Or.inr ⟨fun ⟨j, _, _, b⟩ => absurd (b.1.symm.trans c1) (by decide), rfl⟩
      · rw [if_neg c1]
        have c1' : tM T a = true := by simpa using c1
        have next : ¬ bar T h a k → ((∃ j, k ≤ j ∧ j < tN T ∧ bar T h a j) ∧ f_sp_isBarred_c12 N kc m (iI h) (nI a) (nI (k + 1)) σ = some 1 ∨ (¬ ∃ j, k ≤ j ∧ j < tN T ∧ bar T h a j) ∧ f_sp_isBarred_c12 N kc m (iI h) (nI a) (nI (k + 1)) σ = kc (iI h) (nI (a + 1)) σ) := fun hn => by
          rcases ih (k + 1) (by omega) (by omega) with ⟨⟨j, a1, a2, a3⟩, e⟩ | ⟨ne, e⟩
          · exact Or.inl ⟨⟨j, by omega, a2, a3⟩, e⟩
          · refine Or.inr ⟨fun ⟨j, a1, a2, a3⟩ => ?_, e⟩
            rcases Nat.lt_or_ge k j with h3 | h3
            · exact ne ⟨j, h3, a2, a3⟩
            · have : j = k := by omega
              subst this
              exact hn a3
        by_cases c2 : tM T k = false
        · rw [if_pos c2]
          have hne : tH T a ≠ tH T k := fun e => by
            have := hO.2.2.2 a k ha hk' e
            subst this
            rw [c1'] at c2; cases c2
          by_cases c3 : 0 < (tH T a - tH T k) * (tH T a - h)
          · rw [if_pos c3]
            refine next (fun b => ?_)
            have : (tH T a - tH T k) * (tH T a - h) ≤ 0 := mul_le0.mpr (by have := b.2.2; omega)
            omega
          · rw [if_neg c3]
            refine Or.inl ⟨⟨k, Nat.le_refl _, hk', c1', c2, ?_⟩, rfl⟩
            have := mul_le0.mp (Int.not_lt.mp c3)
            omega
        · rw [if_neg c2]
          exact next (fun b => c2 b.2.1)
theorem x_bar_out {T : TS} {σ : Sg} (hO : Ok T) (hX : RX T σ) {N : Nat} (hN : 600 ≤ N) {h : Int} (h1 : -200 ≤ h) (h2 : h ≤ 200) : ∀ (m a : Nat), a ≤ tN T → tN T - a < m → f_sp_isBarred_c2 N m (iI h) (nI a) σ = some (fl (∃ i k, a ≤ i ∧ i < tN T ∧ k < tN T ∧ bar T h i k)) := by
  have h8 := hO.1
  intro m
  induction m with
  | zero => intro k h1 h2; omega
  | succ m ih =>
    intro a ha hm
    show f_sp_isBarred_c2_s N (f_sp_isBarred_c2 N m) (iI h) (nI a) σ = _
    unfold f_sp_isBarred_c2_s
    have q0 : nI (tN T) ≤ nI a ↔ tN T ≤ a := nI_leI (by omega) (by omega)
    simp only [hX.1, q0]
    by_cases c0 : tN T ≤ a
    · rw [if_pos c0, fl_f (fun ⟨i, k, a1, a2, _⟩ => by omega)]
    · rw [if_neg c0, show (0 : Int32) = nI 0 from rfl]
      rcases x_bar_in hO hX h1 h2 (by omega : a < tN T) (f_sp_isBarred_c2 N m) N 0 (by omega) (by omega) with ⟨⟨j, -, a2, a3⟩, e⟩ | ⟨ne, e⟩
      · rw [e, fl_t ⟨a, j, Nat.le_refl _, by omega, a2, a3⟩]
      · rw [e, ih (a + 1) (by omega) (by omega)]
        congr 1
        refine fl_c ⟨fun ⟨i, k, a1, a2, a3, a4⟩ => ⟨i, k, by omega, a2, a3, a4⟩, fun ⟨i, k, a1, a2, a3, a4⟩ => ?_⟩
        rcases Nat.lt_or_ge a i with h3 | h3
        · exact ⟨i, k, h3, a2, a3, a4⟩
        · have : i = a := by omega
          subst this
          exact absurd ⟨k, Nat.zero_le _, a3, a4⟩ ne
theorem x_bar {T : TS} {σ : Sg} (hO : Ok T) (hX : RX T σ) {N : Nat} (hN : 600 ≤ N) {h : Int} (h1 : -200 ≤ h) (h2 : h ≤ 200) : f_sp_isBarred N σ (iI h) = some (fl (brd T h)) := by
  have h8 := hO.1
  unfold f_sp_isBarred
  rw [show (0 : Int32) = nI 0 from rfl, x_bar_out hO hX hN h1 h2 N 0 (by omega) (by omega)]
  exact congrArg some (fl_c ⟨fun ⟨i, k, _, a2, a3, a4⟩ => ⟨i, k, a2, a3, a4⟩, fun ⟨i, k, a2, a3, a4⟩ => ⟨i, k, Nat.zero_le _, a2, a3, a4⟩⟩)
theorem m_bar_in {T : TS} {σ : Sg} (hO : Ok T) (hX : RM T σ) {N : Nat} {h : Int} (h1 : -200 ≤ h) (h2 : h ≤ 200) {a : Nat} (ha : a < tN T) (kc : Int32 → Int32 → Int32 → Sg → Option Int32) : ∀ (m k : Nat) (F : Prop), k ≤ tN T → tN T - k < m → f_mo_isBarred_c15 N kc m (iI h) (fl F) (nI a) (nI k) σ = kc (iI h) (fl (F ∨ ∃ j, k ≤ j ∧ j < tN T ∧ bar T h a j)) (nI (a + 1)) σ := by
  have h8 := hO.1
  intro m
  induction m with
  | zero => intro k F h1 h2; omega
  | succ m ih =>
    intro k F hk hm
    show f_mo_isBarred_c15_s N kc (f_mo_isBarred_c15 N kc m) (iI h) (fl F) (nI a) (nI k) σ = _
    unfold f_mo_isBarred_c15_s
    have q0 : nI (tN T) ≤ nI k ↔ tN T ≤ k := nI_leI (by omega) (by omega)
    simp only [hX.1, q0, nI_1]
    by_cases c0 : tN T ≤ k
    · rw [if_pos c0]
      congr 1
      exact fl_c ⟨fun z => Or.inl z, fun z => by
        rcases z with z | ⟨j, a1, a2, _⟩
        · exact z
        · omega⟩
    · rw [if_neg c0]
      have hk' : k < tN T := by omega
      have i1 : ib (nI k) 8 := (ib_nI (by omega)).mpr (by omega)
      have i2 : ib (nI a) 8 := (ib_nI (by omega)).mpr (by omega)
      have oa := (hO.2.2.1 a ha).1
      have ok := (hO.2.2.1 k hk').1
      have q1 : iI (tH T a) = iI h ↔ tH T a = h := iI_eq (by omega) (by omega) (by omega) (by omega)
      have go : ∀ (G : Prop), (G ↔ (F ∨ bar T h a k)) → f_mo_isBarred_c15 N kc m (iI h) (fl G) (nI a) (nI (k + 1)) σ = kc (iI h) (fl (F ∨ ∃ j, k ≤ j ∧ j < tN T ∧ bar T h a j)) (nI (a + 1)) σ := fun G hG => by
        rw [ih (k + 1) G (by omega) (by omega)]
        congr 1
        refine fl_c ⟨fun z => ?_, fun z => ?_⟩
        · rcases z with z | ⟨j, a1, a2, a3⟩
          · rcases hG.mp z with z | z
            · exact Or.inl z
            · exact Or.inr ⟨k, Nat.le_refl _, hk', z⟩
          · exact Or.inr ⟨j, by omega, a2, a3⟩
        · rcases z with z | ⟨j, a1, a2, a3⟩
          · exact Or.inl (hG.mpr (Or.inl z))
          · rcases Nat.lt_or_ge k j with h3 | h3
            · exact Or.inr ⟨j, h3, a2, a3⟩
            · have : j = k := by omega
              subst this
              exact Or.inl (hG.mpr (Or.inr a3))
      have g1 : fl True = 1 := fl_t trivial
      have g0 : fl False = 0 := fl_f (fun z => z)
      simp only [if_pos i1, if_pos i2, nI_clamp (show k < 2 ^ 31 by omega), nI_clamp (show a < 2 ^ 31 by omega), (hX.2.2 k hk').2.1, (hX.2.2 k hk').1, (hX.2.2 a ha).2.1, (hX.2.2 a ha).1, b01_0, q1]
      rw [← g1, ← g0]
      by_cases cF : F
      · have e : ¬ (fl F = fl False) := by rw [fl_t cF, g0]; decide
        rw [if_neg e]
        exact go True ⟨fun _ => Or.inl cF, fun _ => trivial⟩
      · have e : fl F = fl False := by rw [fl_f cF, g0]
        rw [if_pos e]
        by_cases c1 : tM T a = false
        · rw [if_pos c1]
          exact go False ⟨fun z => z.elim, fun z => by
            rcases z with z | z
            · exact cF z
            · have := z.1; rw [c1] at this; cases this⟩
        · rw [if_neg c1]
          have c1' : tM T a = true := by simpa using c1
          by_cases c2 : tM T k = false
          · rw [if_pos c2]
            by_cases c3 : tH T a = h
            · rw [if_pos c3]
              exact go True ⟨fun _ => Or.inr ⟨c1', c2, Or.inl c3⟩, fun _ => trivial⟩
            · rw [if_neg c3, between_eq ⟨by omega, by omega⟩ ⟨by omega, by omega⟩ ⟨by omega, by omega⟩]
              by_cases c4 : (tH T k < tH T a ∧ tH T a < h) ∨ (h < tH T a ∧ tH T a < tH T k)
              · have e10 : ¬ (fl True = fl False) := by rw [g1, g0]; decide
                rw [if_pos c4]
                first | rw [if_neg e10] | (rw [g1, g0, if_neg (by decide), ← g1]) | (rw [g0, if_neg (by decide)])
                exact go True ⟨fun _ => Or.inr ⟨c1', c2, Or.inr c4⟩, fun _ => trivial⟩
              · rw [if_neg c4, g0, if_pos rfl, ← g0]
                exact go False ⟨fun z => z.elim, fun z => by
                  rcases z with z | z
                  · exact cF z
                  · rcases z.2.2 with z | z
                    · exact c3 z
                    · exact c4 z⟩
          · rw [if_neg c2]
            exact go False ⟨fun z => z.elim, fun z => by
              rcases z with z | z
              · exact cF z
              · exact c2 z.2.1⟩
theorem m_bar_out {T : TS} {σ : Sg} (hO : Ok T) (hX : RM T σ) {N : Nat} (hN : 600 ≤ N) {h : Int} (h1 : -200 ≤ h) (h2 : h ≤ 200) : ∀ (m a : Nat) (F : Prop), a ≤ tN T → tN T - a < m → f_mo_isBarred_c4 N m (iI h) (fl F) (nI a) σ = some (fl (F ∨ ∃ i k, a ≤ i ∧ i < tN T ∧ k < tN T ∧ bar T h i k)) := by
  have h8 := hO.1
  intro m
  induction m with
  | zero => intro k F h1 h2; omega
  | succ m ih =>
    intro a F ha hm
    show f_mo_isBarred_c4_s N (f_mo_isBarred_c4 N m) (iI h) (fl F) (nI a) σ = _
    unfold f_mo_isBarred_c4_s
    have q0 : nI (tN T) ≤ nI a ↔ tN T ≤ a := nI_leI (by omega) (by omega)
    simp only [hX.1, q0]
    by_cases c0 : tN T ≤ a
    · rw [if_pos c0, if_pos (fl_01 F)]
      exact congrArg some (fl_c ⟨fun z => Or.inl z, fun z => by
        rcases z with z | ⟨i, k, a1, a2, _⟩
        · exact z
        · omega⟩)
    · rw [if_neg c0, show (0 : Int32) = nI 0 from rfl, m_bar_in hO hX h1 h2 (by omega : a < tN T) (f_mo_isBarred_c4 N m) N 0 F (by omega) (by omega), ih (a + 1) _ (by omega) (by omega)]
      refine congrArg some (fl_c ⟨fun z => ?_, fun z => ?_⟩)
      · rcases z with (z | ⟨j, _, a2, a3⟩) | ⟨i, k, a1, a2, a3, a4⟩
        · exact Or.inl z
        · exact Or.inr ⟨a, j, Nat.le_refl _, by omega, a2, a3⟩
        · exact Or.inr ⟨i, k, by omega, a2, a3, a4⟩
      · rcases z with z | ⟨i, k, a1, a2, a3, a4⟩
        · exact Or.inl (Or.inl z)
        · rcases Nat.lt_or_ge a i with h3 | h3
          · exact Or.inr ⟨i, k, h3, a2, a3, a4⟩
          · have : i = a := by omega
            subst this
            exact Or.inl (Or.inr ⟨k, Nat.zero_le _, a3, a4⟩)
theorem m_bar {T : TS} {σ : Sg} (hO : Ok T) (hX : RM T σ) {N : Nat} (hN : 600 ≤ N) {h : Int} (h1 : -200 ≤ h) (h2 : h ≤ 200) : f_mo_isBarred N σ (iI h) = some (fl (brd T h)) := by
  have h8 := hO.1
  have g0 : fl False = 0 := fl_f (fun z => z)
  unfold f_mo_isBarred
  rw [show f_mo_isBarred_c4 N N (iI h) 0 0 σ = f_mo_isBarred_c4 N N (iI h) (fl False) (nI 0) σ by rw [g0]; rfl, m_bar_out hO hX hN h1 h2 N 0 False (by omega) (by omega)]
  exact congrArg some (fl_c ⟨fun z => by
    rcases z with z | ⟨i, k, _, a2, a3, a4⟩
    · exact z.elim
    · exact ⟨i, k, a2, a3, a4⟩, fun ⟨i, k, a2, a3, a4⟩ => Or.inr ⟨i, k, Nat.zero_le _, a2, a3, a4⟩⟩)
