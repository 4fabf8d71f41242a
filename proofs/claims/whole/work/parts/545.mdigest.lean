/-! DIGEST in the model -/
theorem m_mix (σ : Sg) (x : Int64) : FMc σ (f_mo_mix σ x) ∧ (f_mo_mix σ x).2 20 24 = 31 * σ.2 20 24 + x ∧ (f_mo_mix σ x).1 = σ.1 ∧ ∀ p, p ≠ 20 → (f_mo_mix σ x).2 p = σ.2 p := by
  unfold f_mo_mix
  rw [nm_eq]
  refine ⟨FMc.upJ σ _ (by omega), ?_, rfl, fun p hp => ?_⟩
  · rw [uJ_2, if_pos ⟨rfl, rfl⟩]
  · funext j
    rw [uJ_2, if_neg (fun z => hp z.1)]
theorem m_dg_count {T : TS} {pg : Nat → Int32} {pl : Nat} {ca we : Int32} {σ0 : Sg} (hO : Ok T) (h : MI T pg pl ca we σ0) {N : Nat} (hN : 600 ≤ N) : ∀ (m k : Nat) (σ : Sg) (a : Int64), k ≤ 6 → 6 - k < m → FMc σ0 σ → σ.2 20 24 = a → ∃ σ', f_mo_digest_c112 N m (nI k) σ = some (mxs (dC T pl ca we) (6 - k) k a, σ') ∧ FMc σ0 σ' := by
  intro m
  induction m with
  | zero => intro k σ a h1 h2; omega
  | succ m ih =>
    intro k σ a hk hm hF ha
    have h1 := h.fmc hF
    show ∃ σ', f_mo_digest_c112_s N (f_mo_digest_c112 N m) (nI k) σ = _ ∧ _
    unfold f_mo_digest_c112_s
    have q0 : (6 : Int32) ≤ nI k ↔ 6 ≤ k := nI_leI (a := 6) (by omega) (by omega)
    by_cases c : 6 ≤ k
    · rw [if_pos (q0.mpr c), show 6 - k = 0 by omega, ha]
      exact ⟨σ, rfl, hF⟩
    · rw [if_neg (fun z => c (q0.mp z)), m_howMany hO h1.1 hN _ h1.2.1.2.1, bind_some, nm_eq, nI_1, h1.2.2.1, h1.2.2.2, show 6 - k = (6 - (k + 1)) + 1 by omega]
      obtain ⟨F1, e1, -, -⟩ := m_mix σ (cntR T pl ca we (nI k)).toInt64
      exact ih (k + 1) _ _ (by omega) (by omega) (hF.tr F1) (by rw [e1, ha]; rfl)
theorem m_dg_page {T : TS} {pg : Nat → Int32} {pl : Nat} {ca we : Int32} {σ0 : Sg} (hO : Ok T) (h : MI T pg pl ca we σ0) {N : Nat} (hN : 600 ≤ N) : ∀ (m k : Nat) (σ : Sg) (a : Int64), k ≤ pl → pl - k < m → FMc σ0 σ → σ.2 20 24 = a → ∃ σ', f_mo_digest_c85 N m (nI k) σ = some (mxs (dC T pl ca we) 6 0 (mxs (dP pg) (pl - k) k a), σ') ∧ FMc σ0 σ' := by
  have h24 := h.2.1.1
  intro m
  induction m with
  | zero => intro k σ a h1 h2; omega
  | succ m ih =>
    intro k σ a hk hm hF ha
    have h1 := h.fmc hF
    show ∃ σ', f_mo_digest_c85_s N (f_mo_digest_c85 N m) (nI k) σ = _ ∧ _
    unfold f_mo_digest_c85_s
    have q0 : nI pl ≤ nI k ↔ pl ≤ k := nI_leI (by omega) (by omega)
    rw [h1.2.1.2.1]
    by_cases c : pl ≤ k
    · rw [if_pos (q0.mpr c), show pl - k = 0 by omega]
      exact m_dg_count hO h hN N 0 σ a (by omega) (by omega) hF ha
    · rw [if_neg (fun z => c (q0.mp z)), if_pos ((ib_nI (by omega)).mpr (by omega)), nI_clamp (show k < 2 ^ 31 by omega), h1.2.1.2.2 k (by omega), nm_eq, nI_1, show pl - k = (pl - (k + 1)) + 1 by omega]
      obtain ⟨F1, e1, -, -⟩ := m_mix σ (pg k).toInt64
      exact ih (k + 1) _ _ (by omega) (by omega) (hF.tr F1) (by rw [e1, ha]; rfl)
theorem m_dg_cor {T : TS} {σ0 : Sg} (hO : Ok T) {N : Nat} (hN : 600 ≤ N) : ∀ (m k : Nat) (σ : Sg) (a : Int64), k ≤ cN (PL T) → cN (PL T) - k < m → FMc σ0 σ → MA (PL T) σ → KM (PL T) (cN (PL T)) σ → σ.2 20 24 = a → ∃ σ', f_mo_mixKernel_c25 N m (nI k) σ = some σ' ∧ FMc σ0 σ' ∧ σ'.2 20 24 = mx2 (dX T) (dY T) (cN (PL T) - k) k a := by
  have h16 := c_16 hO
  have hl := PL_16 hO
  intro m
  induction m with
  | zero => intro k σ a h1 h2; omega
  | succ m ih =>
    intro k σ a hk hm hF hA hK ha
    show ∃ σ', f_mo_mixKernel_c25_s N (f_mo_mixKernel_c25 N m) (nI k) σ = _ ∧ _
    unfold f_mo_mixKernel_c25_s
    have q0 : nI (cN (PL T)) ≤ nI k ↔ cN (PL T) ≤ k := nI_leI (by omega) (by omega)
    rw [hK.1]
    by_cases c : cN (PL T) ≤ k
    · rw [if_pos (q0.mpr c), show cN (PL T) - k = 0 by omega]
      exact ⟨σ, rfl, hF, ha⟩
    · have hP : OkP (PL T) := by
        rcases PL_even (T := T) (tN T) with h0 | h0
        · rw [cN_0 (P := PL T) h0] at c; omega
        · exact PL_ok hO h0
      have lk := itr_lt hP k
      have i1 : ib (nI k) 17 := (ib_nI (by omega)).mpr (by omega)
      have i2 : ib (nI (itr (PL T) k)) 16 := (ib_nI (by omega)).mpr (by omega)
      obtain ⟨F1, e1, g1, g2⟩ := m_mix σ (iL (gX (PL T) (itr (PL T) k)))
      rw [if_neg (fun z => c (q0.mp z)), if_pos i1, nI_clamp (show k < 2 ^ 31 by omega), hK.2 k (by omega), if_pos i2, nI_clamp (show itr (PL T) k < 2 ^ 31 by omega), (hA.2 _ lk).1, nm_eq, g1, hK.2 k (by omega), if_pos i2, nI_clamp (show itr (PL T) k < 2 ^ 31 by omega), g2 29 (by decide), (hA.2 _ lk).2, nm_eq, nI_1, show cN (PL T) - k = (cN (PL T) - (k + 1)) + 1 by omega]
      obtain ⟨F2, e2, k1, k2⟩ := m_mix (f_mo_mix σ (iL (gX (PL T) (itr (PL T) k)))) (iL (gY (PL T) (itr (PL T) k)))
      refine ih (k + 1) _ _ (by omega) (by omega) ((hF.tr F1).tr F2) ?_ ?_ (by rw [e2, e1, ha]; rfl)
      · unfold MA
        rw [k1, g1, k2 28 (by decide), g2 28 (by decide), k2 29 (by decide), g2 29 (by decide)]
        exact hA
      · unfold KM
        rw [k1, g1]
        exact hK
theorem m_dg_ker {T : TS} {σ0 : Sg} (hO : Ok T) (hR0 : RM T σ0) {N : Nat} (hN : 600 ≤ N) : ∀ (m k : Nat) (σ : Sg) (a : Int64), k ≤ 4 → 4 - k < m → FMc σ0 σ → (k = 4 → MA (PL T) σ ∧ KM (PL T) (cN (PL T)) σ) → σ.2 20 24 = a → ∃ σ', f_mo_mixKernel_c2 N m (nI k) σ = some σ' ∧ FMc σ0 σ' ∧ σ'.2 20 24 = mx2 (dX T) (dY T) (cN (PL T)) 0 (mxs (dK T) (4 - k) k a) := by
  have h16 := c_16 hO
  intro m
  induction m with
  | zero => intro k σ a h1 h2; omega
  | succ m ih =>
    intro k σ a hk hm hF h4 ha
    show ∃ σ', f_mo_mixKernel_c2_s N (f_mo_mixKernel_c2 N m) (nI k) σ = _ ∧ _
    unfold f_mo_mixKernel_c2_s
    have q0 : (4 : Int32) ≤ nI k ↔ 4 ≤ k := nI_leI (a := 4) (by omega) (by omega)
    by_cases c : 4 ≤ k
    · rw [if_pos (q0.mpr c), show 4 - k = 0 by omega]
      obtain ⟨hA, hK⟩ := h4 (by omega)
      exact m_dg_cor hO hN N 0 σ a (by omega) (by omega) hF hA hK ha
    · obtain ⟨σ1, e1, F1, A1, K1⟩ := m_kernNow hO (hF.rm hR0) hN (nI k)
      rw [if_neg (fun z => c (q0.mp z)), e1, bind_some, nm_eq, nI_1, show 4 - k = (4 - (k + 1)) + 1 by omega]
      obtain ⟨F2, e2, k1, k2⟩ := m_mix σ1 (kv T (nI k)).toInt64
      refine ih (k + 1) _ _ (by omega) (by omega) ((hF.tr F1.1).tr F2) (fun _ => ⟨?_, ?_⟩) (by
        show (f_mo_mix σ1 (kv T (nI k)).toInt64).2 20 24 = _
        rw [e2, F1.2, ha]; rfl)
      · show MA (PL T) (f_mo_mix σ1 (kv T (nI k)).toInt64)
        unfold MA
        rw [k1, k2 28 (by decide), k2 29 (by decide)]
        exact A1
      · show KM (PL T) (cN (PL T)) (f_mo_mix σ1 (kv T (nI k)).toInt64)
        unfold KM
        rw [k1]
        exact K1
theorem m_dg_r4 {T : TS} {σ0 : Sg} (hO : Ok T) (hR0 : RM T σ0) {N : Nat} (hN : 600 ≤ N) {h : Int} (h1 : -200 ≤ h) (h2 : h ≤ 200) (kc : Int32 → Sg → Option Sg) : ∀ (m j : Nat) (σ : Sg) (a : Int64), j ≤ 4 → 4 - j < m → FMc σ0 σ → σ.2 20 24 = a → ∃ σ', f_mo_mixReach_c13 N kc m (iI h) (nI j) σ = kc (iI (h + 50)) σ' ∧ FMc σ0 σ' ∧ σ'.2 20 24 = mxs (dR T h) (4 - j) j a := by
  intro m
  induction m with
  | zero => intro j σ a h1 h2; omega
  | succ m ih =>
    intro j σ a hj hm hF ha
    show ∃ σ', f_mo_mixReach_c13_s N kc (f_mo_mixReach_c13 N kc m) (iI h) (nI j) σ = _ ∧ _
    unfold f_mo_mixReach_c13_s
    have q0 : (4 : Int32) ≤ nI j ↔ 4 ≤ j := nI_leI (a := 4) (by omega) (by omega)
    by_cases c : 4 ≤ j
    · rw [if_pos (q0.mpr c), show 4 - j = 0 by omega, show (50 : Int32) = iI 50 from rfl, iI_add]
      exact ⟨σ, rfl, hF, ha⟩
    · have d2 : nI j / 2 = nI (j / 2) := pk_div (d := 2) (by omega) (by omega) (by omega)
      have r2 : nI j - nI j / 2 * 2 = nI (j % 2) := pk_rem (d := 2) (by omega) (by omega) (by omega)
      have b1 : nI (j / 2) = 0 ∨ nI (j / 2) = 1 := by
        rcases (by omega : j / 2 = 0 ∨ j / 2 = 1) with e | e <;> rw [e]
        · exact Or.inl rfl
        · exact Or.inr rfl
      have b2 : nI (j % 2) = 0 ∨ nI (j % 2) = 1 := by
        rcases (by omega : j % 2 = 0 ∨ j % 2 = 1) with e | e <;> rw [e]
        · exact Or.inl rfl
        · exact Or.inr rfl
      obtain ⟨σ1, e1, F1⟩ := m_reachNow hO (hF.rm hR0) hN h1 h2 b1 b2
      rw [if_neg (fun z => c (q0.mp z)), r2, d2, e1, bind_some, nm_eq, nI_1, show 4 - j = (4 - (j + 1)) + 1 by omega]
      obtain ⟨F2, e2, k1, k2⟩ := m_mix σ1 (telF (rchL T h) (rchR T h) (outR T h) (nI (j / 2)) (nI (j % 2))).toInt64
      exact ih (j + 1) _ _ (by omega) (by omega) ((hF.tr F1.1).tr F2) (by
        show (f_mo_mix σ1 (telF (rchL T h) (rchR T h) (outR T h) (nI (j / 2)) (nI (j % 2))).toInt64).2 20 24 = _
        rw [e2, F1.2, ha]; rfl)
theorem m_dg_r {T : TS} {σ0 : Sg} (hO : Ok T) (hR0 : RM T σ0) {N : Nat} (hN : 600 ≤ N) : ∀ (m d : Nat) (h : Int) (σ : Sg) (a : Int64), h + 50 * (d : Int) = 250 → d ≤ 9 → d < m → FMc σ0 σ → σ.2 20 24 = a → ∃ σ', f_mo_mixReach_c4 N m (iI h) σ = some σ' ∧ FMc σ0 σ' ∧ σ'.2 20 24 = rcM T d h a := by
  intro m
  induction m with
  | zero => intro d h σ a h1 h2 h3; omega
  | succ m ih =>
    intro d h σ a hd h9 hm hF ha
    show ∃ σ', f_mo_mixReach_c4_s N (f_mo_mixReach_c4 N m) (iI h) σ = _ ∧ _
    unfold f_mo_mixReach_c4_s
    have q0 : (200 : Int32) < iI h ↔ 200 < h := iI_lt (a := 200) (by omega) (by omega) (by omega) (by omega)
    cases d with
    | zero =>
      rw [if_pos (q0.mpr (by omega))]
      exact ⟨σ, rfl, hF, ha⟩
    | succ d =>
      rw [if_neg (fun z => by have := q0.mp z; omega)]
      obtain ⟨σ1, e1, F1, a1⟩ := m_dg_r4 hO hR0 hN (h := h) (by omega) (by omega) (f_mo_mixReach_c4 N m) N 0 σ a (by omega) (by omega) hF ha
      rw [show f_mo_mixReach_c13 N (f_mo_mixReach_c4 N m) N (iI h) 0 σ = f_mo_mixReach_c13 N (f_mo_mixReach_c4 N m) N (iI h) (nI 0) σ from rfl, e1]
      exact ih d (h + 50) σ1 _ (by omega) (by omega) (by omega) F1 a1
theorem m_digest {T : TS} {pg : Nat → Int32} {pl : Nat} {ca we : Int32} {σ : Sg} (hO : Ok T) (h : MI T pg pl ca we σ) {N : Nat} (hN : 600 ≤ N) : ∃ σ', f_mo_digest N σ = some (digR T pg pl ca we, σ') ∧ FMc σ σ' := by
  have hn8 := hO.1
  have h24 := h.2.1.1
  have c72 : ∀ (τ : Sg) (b : Int64), FMc σ τ → τ.2 20 24 = b → ∃ σ', f_mo_digest_c72 N τ = some (mxs (dC T pl ca we) 6 0 (mxs (dP pg) pl 0 (if fl (chd T ∧ wr T = 0) = 0 then b else rcM T 9 (-200) b)), σ') ∧ FMc σ σ' := fun τ b hF hb => by
    unfold f_mo_digest_c72
    rw [m_can hO (hF.rm h.1) hN, bind_some]
    by_cases c : fl (chd T ∧ wr T = 0) = 0
    · rw [if_pos c, if_pos c]
      exact m_dg_page hO h hN N 0 τ b (by omega) (by omega) hF hb
    · rw [if_neg c, if_neg c]
      unfold f_mo_mixReach
      obtain ⟨σ1, e1, F1, a1⟩ := m_dg_r hO h.1 hN N 9 (-200) τ b (by omega) (by omega) (by omega) hF hb
      rw [show (-200 : Int32) = iI (-200) from rfl, e1, bind_some]
      exact m_dg_page hO h hN N 0 σ1 _ (by omega) (by omega) F1 a1
  have main : ∀ (m i : Nat) (τ : Sg) (a : Int64), i ≤ 9 * tN T → 9 * tN T - i < m → FMc σ τ → τ.2 20 24 = a → ∃ σ', f_mo_digest_c9 N m (nI i) τ = some (mxs (dC T pl ca we) 6 0 (mxs (dP pg) pl 0 (let b := 31 * (31 * mxs (dS T) (9 * tN T - i) i a + (fl (wr T = 0)).toInt64) + (nI (wr T)).toInt64; if fl (wr T = 0) = 0 then b else if fl (chd T) = 0 then mx2 (dX T) (dY T) (cN (PL T)) 0 (mxs (dK T) 4 0 b) else rcM T 9 (-200) (mx2 (dX T) (dY T) (cN (PL T)) 0 (mxs (dK T) 4 0 b)))), σ') ∧ FMc σ σ' := by
    intro m
    induction m with
    | zero => intro i τ a h1 h2; omega
    | succ m ih =>
      intro i τ a hi hm hF ha
      have hR := hF.rm h.1
      show ∃ σ', f_mo_digest_c9_s N (f_mo_digest_c9 N m) (nI i) τ = _ ∧ _
      unfold f_mo_digest_c9_s
      have e9 : (9 : Int32) * τ.1 20 2 = nI (9 * tN T) := by rw [hR.1]; exact pk_mul 9 (tN T)
      have q0 : nI (9 * tN T) ≤ nI i ↔ 9 * tN T ≤ i := nI_leI (by omega) (by omega)
      rw [e9]
      by_cases c : 9 * tN T ≤ i
      · rw [if_pos (q0.mpr c), show 9 * tN T - i = 0 by omega, m_fits hO hR hN, bind_some, nm_eq]
        obtain ⟨F1, e1, -, -⟩ := m_mix τ (fl (wr T = 0)).toInt64
        have hF1 := hF.tr F1
        rw [mwrong_eq hO (hF1.rm h.1) hN, bind_some, nm_eq]
        obtain ⟨F2, e2, -, -⟩ := m_mix (f_mo_mix τ (fl (wr T = 0)).toInt64) (nI (wr T)).toInt64
        have hF2 := hF1.tr F2
        rw [mfit_eq hO (hF2.rm h.1) hN, bind_some]
        have eb : (f_mo_mix (f_mo_mix τ (fl (wr T = 0)).toInt64) (nI (wr T)).toInt64).2 20 24 = 31 * (31 * a + (fl (wr T = 0)).toInt64) + (nI (wr T)).toInt64 := by rw [e2, e1, ha]
        show ∃ σ', _ = some (mxs (dC T pl ca we) 6 0 (mxs (dP pg) pl 0 (if fl (wr T = 0) = 0 then 31 * (31 * a + (fl (wr T = 0)).toInt64) + (nI (wr T)).toInt64 else if fl (chd T) = 0 then mx2 (dX T) (dY T) (cN (PL T)) 0 (mxs (dK T) 4 0 (31 * (31 * a + (fl (wr T = 0)).toInt64) + (nI (wr T)).toInt64)) else rcM T 9 (-200) (mx2 (dX T) (dY T) (cN (PL T)) 0 (mxs (dK T) 4 0 (31 * (31 * a + (fl (wr T = 0)).toInt64) + (nI (wr T)).toInt64))))), σ') ∧ _
        by_cases cw : fl (wr T = 0) = 0
        · obtain ⟨σ3, e3, F3⟩ := c72 _ _ hF2 eb
          rw [if_pos ((can_0 T).mpr (Or.inl cw))] at e3
          rw [if_pos cw, if_pos cw, e3]
          exact ⟨σ3, rfl, F3⟩
        · rw [if_neg cw, if_neg cw]
          unfold f_mo_mixKernel
          obtain ⟨σ4, e4, F4, a4⟩ := m_dg_ker hO h.1 hN N 0 _ _ (by omega) (by omega) hF2 (fun z => by omega) eb
          rw [show f_mo_mixKernel_c2 N N 0 (f_mo_mix (f_mo_mix τ (fl (wr T = 0)).toInt64) (nI (wr T)).toInt64) = some σ4 from e4, bind_some]
          obtain ⟨σ3, e3, F3⟩ := c72 σ4 _ F4 a4
          rw [e3]
          refine ⟨σ3, ?_, F3⟩
          by_cases cc : fl (chd T) = 0
          · rw [if_pos ((can_0 T).mpr (Or.inr cc)), if_pos cc]
          · rw [if_neg (fun z => ((can_0 T).mp z).elim cw cc), if_neg cc]
      · have d9 : nI i / 9 = nI (i / 9) := pk_div (d := 9) (by omega) (by omega) (by omega)
        have r9 : nI i - nI i / 9 * 9 = nI (i % 9) := pk_rem (d := 9) (by omega) (by omega) (by omega)
        rw [if_neg (fun z => c (q0.mp z)), r9, d9, m_stNow hO hR (show i / 9 < tN T by omega) (nlt0 (by omega)) ((nI_leI (b := 8) (by omega) (by omega)).mpr (by omega)), bind_some, nm_eq, nI_1, show 9 * tN T - i = (9 * tN T - (i + 1)) + 1 by omega]
        obtain ⟨F1, e1, -, -⟩ := m_mix τ (sv T (i / 9) (nI (i % 9))).toInt64
        exact ih (i + 1) _ _ (by omega) (by omega) (hF.tr F1) (by rw [e1, ha]; rfl)
  unfold f_mo_digest
  rw [nm_eq]
  obtain ⟨σ', e, F⟩ := main N 0 (uJ σ 20 24 1613) 1613 (by omega) (by omega) (FMc.upJ σ _ (by omega)) (by rw [uJ_2, if_pos ⟨rfl, rfl⟩])
  exact ⟨σ', e, F⟩
