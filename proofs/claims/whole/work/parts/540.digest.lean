/-! DIGEST -/
def mxs (f : Nat → Int64) : Nat → Nat → Int64 → Int64
  | 0, _, a => a
  | d + 1, k, a => mxs f d (k + 1) (31 * a + f k)
theorem mxs_add (f : Nat → Int64) : ∀ (d1 d2 k : Nat) (a : Int64), mxs f (d1 + d2) k a = mxs f d2 (k + d1) (mxs f d1 k a)
  | 0, d2, k, a => by rw [Nat.zero_add]; rfl
  | d1 + 1, d2, k, a => by
    rw [show d1 + 1 + d2 = (d1 + d2) + 1 by omega]
    show mxs f (d1 + d2) (k + 1) (31 * a + f k) = mxs f d2 (k + (d1 + 1)) (mxs f d1 (k + 1) (31 * a + f k))
    rw [mxs_add f d1 d2 (k + 1), show k + 1 + d1 = k + (d1 + 1) by omega]
def mx2 (f g : Nat → Int64) : Nat → Nat → Int64 → Int64
  | 0, _, a => a
  | d + 1, k, a => mx2 f g d (k + 1) (31 * (31 * a + f k) + g k)
noncomputable def dS (T : TS) (i : Nat) : Int64 := (sv T (i / 9) (nI (i % 9))).toInt64
noncomputable def dK (T : TS) (i : Nat) : Int64 := (kv T (nI i)).toInt64
noncomputable def dX (T : TS) (j : Nat) : Int64 := iL (gX (PL T) (itr (PL T) j))
noncomputable def dY (T : TS) (j : Nat) : Int64 := iL (gY (PL T) (itr (PL T) j))
noncomputable def dR (T : TS) (h : Int) (j : Nat) : Int64 := (telF (rchL T h) (rchR T h) (outR T h) (nI (j / 2)) (nI (j % 2))).toInt64
def dP (pg : Nat → Int32) (k : Nat) : Int64 := (pg k).toInt64
noncomputable def dC (T : TS) (pl : Nat) (ca we : Int32) (k : Nat) : Int64 := (cntR T pl ca we (nI k)).toInt64
noncomputable def rcM (T : TS) : Nat → Int → Int64 → Int64
  | 0, _, a => a
  | d + 1, h, a => rcM T d (h + 50) (mxs (dR T h) 4 0 a)
noncomputable def dgA (T : TS) : Int64 := 31 * (31 * mxs (dS T) (9 * tN T) 0 1613 + (fl (wr T = 0)).toInt64) + (nI (wr T)).toInt64
noncomputable def dgB (T : TS) : Int64 := mx2 (dX T) (dY T) (cN (PL T)) 0 (mxs (dK T) 4 0 (dgA T))
noncomputable def dgC (T : TS) : Int64 := if fl (wr T = 0) = 0 then dgA T else if fl (chd T) = 0 then dgB T else rcM T 9 (-200) (dgB T)
noncomputable def digR (T : TS) (pg : Nat → Int32) (pl : Nat) (ca we : Int32) : Int64 := mxs (dC T pl ca we) 6 0 (mxs (dP pg) pl 0 (dgC T))
/-! in the class -/
theorem x_dg_count {T : TS} {pg : Nat → Int32} {pl : Nat} {ca we : Int32} {σ : Sg} (h : XI T pg pl ca we σ) {N : Nat} (hN : 600 ≤ N) : ∀ (m k : Nat) (a : Int64), k ≤ 6 → 6 - k < m → f_ss_digest_c148 N m a (nI k) σ = some (mxs (dC T pl ca we) (6 - k) k a, σ) := by
  intro m
  induction m with
  | zero => intro k a h1 h2; omega
  | succ m ih =>
    intro k a hk hm
    show f_ss_digest_c148_s N (f_ss_digest_c148 N m) a (nI k) σ = _
    unfold f_ss_digest_c148_s
    have q0 : (5 : Int32) < nI k ↔ 5 < k := nI_ltI (a := 5) (by omega) (by omega)
    by_cases c : 5 < k
    · rw [if_pos (q0.mpr c), show 6 - k = 0 by omega]; rfl
    · rw [if_neg (fun z => c (q0.mp z)), x_count h.1.1 h.1.2.1 hN _ h.2.1.2.1, bind_some, nI_1, h.2.2.1, h.2.2.2, ih (k + 1) _ (by omega) (by omega), show 6 - k = (6 - (k + 1)) + 1 by omega]
      rfl
theorem x_dg_page {T : TS} {pg : Nat → Int32} {pl : Nat} {ca we : Int32} {σ : Sg} (h : XI T pg pl ca we σ) {N : Nat} (hN : 600 ≤ N) : ∀ (m k : Nat) (a : Int64), k ≤ pl → pl - k < m → f_ss_digest_c109 N m a (nI k) σ = some (mxs (dC T pl ca we) 6 0 (mxs (dP pg) (pl - k) k a), σ) := by
  have h24 := h.2.1.1
  intro m
  induction m with
  | zero => intro k a h1 h2; omega
  | succ m ih =>
    intro k a hk hm
    show f_ss_digest_c109_s N (f_ss_digest_c109 N m) a (nI k) σ = _
    unfold f_ss_digest_c109_s
    have q0 : nI pl ≤ nI k ↔ pl ≤ k := nI_leI (by omega) (by omega)
    have q1 : (24 : Int32) ≤ nI k ↔ 24 ≤ k := nI_leI (a := 24) (by omega) (by omega)
    rw [h.2.1.2.1]
    by_cases c : pl ≤ k
    · rw [if_pos (q0.mpr c), show pl - k = 0 by omega]
      exact x_dg_count h hN N 0 a (by omega) (by omega)
    · rw [if_neg (fun z => c (q0.mp z)), if_neg (fun z => by have := q1.mp z; omega), if_pos ((ib_nI (by omega)).mpr (by omega)), nI_clamp (show k < 2 ^ 31 by omega), h.2.1.2.2 k (by omega), nI_1, ih (k + 1) _ (by omega) (by omega), show pl - k = (pl - (k + 1)) + 1 by omega]
      rfl
theorem x_dg_cor {T : TS} {σ : Sg} (h : XQ T σ) (hw : ¬ fl (wr T = 0) = 0) {N : Nat} (hN : 600 ≤ N) : ∀ (m k : Nat) (a : Int64), k ≤ cN (PL T) → cN (PL T) - k < m → f_ss_mixKernel_c34 N m a (nI k) σ = some (mx2 (dX T) (dY T) (cN (PL T) - k) k a) := by
  have h16 := c_16 h.1
  have hl := PL_16 h.1
  intro m
  induction m with
  | zero => intro k a h1 h2; omega
  | succ m ih =>
    intro k a hk hm
    show f_ss_mixKernel_c34_s N (f_ss_mixKernel_c34 N m) a (nI k) σ = _
    unfold f_ss_mixKernel_c34_s
    have q0 : nI (cN (PL T)) ≤ nI k ↔ cN (PL T) ≤ k := nI_leI (by omega) (by omega)
    rw [h.2.2.2.1]
    by_cases c : cN (PL T) ≤ k
    · rw [if_pos (q0.mpr c), show cN (PL T) - k = 0 by omega]; rfl
    · have hP : OkP (PL T) := by
        rcases PL_even (T := T) (tN T) with h0 | h0
        · rw [cN_0 (P := PL T) h0] at c; omega
        · exact PL_ok h.1 h0
      have lk := itr_lt hP k
      have bk := hP.2.2 _ lk
      have qk : nI k < nI (cN (PL T)) ↔ k < cN (PL T) := nI_ltI (by omega) (by omega)
      have v0 : corR T (nI k) 0 = iI (gX (PL T) (itr (PL T) k)) := by
        unfold corR
        rw [if_pos (Or.inl rfl), if_neg hw, if_neg (nlt0 (by omega)), if_pos (qk.mpr (by omega)), if_pos rfl, nI_clamp (show k < 2 ^ 31 by omega)]
      have v1 : corR T (nI k) 1 = iI (gY (PL T) (itr (PL T) k)) := by
        unfold corR
        rw [if_pos (Or.inr rfl), if_neg hw, if_neg (nlt0 (by omega)), if_pos (qk.mpr (by omega)), if_neg (by decide), nI_clamp (show k < 2 ^ 31 by omega)]
      rw [if_neg (fun z => c (q0.mp z)), x_corner h, x_corner h, bind_some, bind_some, v0, v1, iI_L (by omega) (by omega), iI_L (by omega) (by omega), nI_1, ih (k + 1) _ (by omega) (by omega), show cN (PL T) - k = (cN (PL T) - (k + 1)) + 1 by omega]
      rfl
theorem kerR_in {T : TS} (hw : ¬ fl (wr T = 0) = 0) {k : Nat} (hk : k ≤ 3) : kerR T (nI k) = kv T (nI k) := by
  unfold kerR
  rw [if_neg (nlt0 (by omega)), if_pos (show nI k ≤ 3 from (nI_leI (b := 3) (by omega) (by omega)).mpr hk), if_neg hw]
theorem x_dg_ker {T : TS} {σ : Sg} (h : XQ T σ) (hw : ¬ fl (wr T = 0) = 0) {N : Nat} (hN : 600 ≤ N) : ∀ (m k : Nat) (a : Int64), k ≤ 4 → 4 - k < m → f_ss_mixKernel_c5 N m a (nI k) σ = some (mx2 (dX T) (dY T) (cN (PL T)) 0 (mxs (dK T) (4 - k) k a)) := by
  have h16 := c_16 h.1
  intro m
  induction m with
  | zero => intro k a h1 h2; omega
  | succ m ih =>
    intro k a hk hm
    show f_ss_mixKernel_c5_s N (f_ss_mixKernel_c5 N m) a (nI k) σ = _
    unfold f_ss_mixKernel_c5_s
    have q0 : (3 : Int32) < nI k ↔ 3 < k := nI_ltI (a := 3) (by omega) (by omega)
    by_cases c : 3 < k
    · rw [if_pos (q0.mpr c), show 4 - k = 0 by omega]
      exact x_dg_cor h hw hN N 0 a (by omega) (by omega)
    · rw [if_neg (fun z => c (q0.mp z)), x_kern h hN, bind_some, kerR_in hw (by omega), nI_1, ih (k + 1) _ (by omega) (by omega), show 4 - k = (4 - (k + 1)) + 1 by omega]
      rfl
theorem reaR_in {T : TS} (hw : ¬ fl (wr T = 0) = 0) (hc : ¬ fl (chd T) = 0) {h : Int} (h1 : -200 ≤ h) (h2 : h ≤ 200) {b c : Int32} (hb : b = 0 ∨ b = 1) (hcc : c = 0 ∨ c = 1) : reaR T (iI h) b c = telF (rchL T h) (rchR T h) (outR T h) b c := by
  unfold reaR
  have q1 : ¬ (iI h < -200 ∨ 200 < iI h) := by
    have a1 : iI h < -200 ↔ h < -200 := by
      rw [show (-200 : Int32) = iI (-200) from rfl]
      exact iI_lt (by omega) (by omega) (by omega) (by omega)
    have a2 : (200 : Int32) < iI h ↔ 200 < h := iI_lt (a := 200) (by omega) (by omega) (by omega) (by omega)
    rw [a1, a2]; omega
  rw [if_neg q1, if_pos hb, if_pos hcc, if_neg hw, if_neg hc, iI_toInt (by omega) (by omega)]
theorem x_dg_r2 {T : TS} {σ0 : Sg} (h0 : XQ T σ0) (hw : ¬ fl (wr T = 0) = 0) (hc : ¬ fl (chd T) = 0) {N : Nat} (hN : 600 ≤ N) {h : Int} (h1 : -200 ≤ h) (h2 : h ≤ 200) (kc : Int64 → Int32 → Sg → Option (Int64 × Sg)) : ∀ (m b : Nat) (a : Int64) (σ : Sg), b ≤ 2 → 2 - b < m → FSp σ0 σ → ∃ σ', f_ss_mixReach_c18 N kc m a (iI h) (nI b) σ = kc (mxs (dR T h) (2 * (2 - b)) (2 * b) a) (iI (h + 50)) σ' ∧ FSp σ0 σ' := by
  intro m
  induction m with
  | zero => intro b a σ h1 h2; omega
  | succ m ih =>
    intro b a σ hb hm hF
    show ∃ σ', f_ss_mixReach_c18_s N kc (f_ss_mixReach_c18 N kc m) a (iI h) (nI b) σ = _ ∧ _
    unfold f_ss_mixReach_c18_s
    have q0 : (1 : Int32) < nI b ↔ 1 < b := nI_ltI (a := 1) (by omega) (by omega)
    by_cases c : 1 < b
    · rw [if_pos (q0.mpr c), show 2 - b = 0 by omega, show (50 : Int32) = iI 50 from rfl, iI_add]
      exact ⟨σ, rfl, hF⟩
    · have hb1 : nI b = 0 ∨ nI b = 1 := by
        rcases (by omega : b = 0 ∨ b = 1) with rfl | rfl
        · exact Or.inl rfl
        · exact Or.inr rfl
      obtain ⟨σ1, e1, F1⟩ := x_reach (hF.xq h0) hN (iI h) (nI b) 0
      obtain ⟨σ2, e2, F2⟩ := x_reach (F1.xq (hF.xq h0)) hN (iI h) (nI b) 1
      rw [if_neg (fun z => c (q0.mp z)), e1, bind_some, e2, bind_some, nI_1, reaR_in hw hc h1 h2 hb1 (Or.inl rfl), reaR_in hw hc h1 h2 hb1 (Or.inr rfl)]
      obtain ⟨σ3, e3, F3⟩ := ih (b + 1) (31 * (31 * a + dR T h (2 * b)) + dR T h (2 * b + 1)) σ2 (by omega) (by omega) ((hF.tr F1).tr F2)
      refine ⟨σ3, ?_, F3⟩
      rw [show 2 * (2 - b) = (2 * (2 - (b + 1)) + 1) + 1 by omega]
      show _ = kc (mxs (dR T h) (2 * (2 - (b + 1))) (2 * b + 1 + 1) (31 * (31 * a + dR T h (2 * b)) + dR T h (2 * b + 1))) (iI (h + 50)) σ3
      rw [show 2 * b + 1 + 1 = 2 * (b + 1) by omega, ← e3]
      unfold dR
      rw [show 2 * b / 2 = b by omega, show 2 * b % 2 = 0 by omega, show (2 * b + 1) / 2 = b by omega, show (2 * b + 1) % 2 = 1 by omega]
      rfl
theorem x_dg_r {T : TS} {σ0 : Sg} (h0 : XQ T σ0) (hw : ¬ fl (wr T = 0) = 0) (hc : ¬ fl (chd T) = 0) {N : Nat} (hN : 600 ≤ N) : ∀ (m d : Nat) (h : Int) (a : Int64) (σ : Sg), h + 50 * (d : Int) = 250 → d ≤ 9 → d < m → FSp σ0 σ → ∃ σ', f_ss_mixReach_c7 N m a (iI h) σ = some (rcM T d h a, σ') ∧ FSp σ0 σ' := by
  intro m
  induction m with
  | zero => intro d h a σ h1 h2 h3; omega
  | succ m ih =>
    intro d h a σ hd h9 hm hF
    show ∃ σ', f_ss_mixReach_c7_s N (f_ss_mixReach_c7 N m) a (iI h) σ = _ ∧ _
    unfold f_ss_mixReach_c7_s
    have q0 : (200 : Int32) < iI h ↔ 200 < h := iI_lt (a := 200) (by omega) (by omega) (by omega) (by omega)
    cases d with
    | zero =>
      rw [if_pos (q0.mpr (by omega))]
      exact ⟨σ, rfl, hF⟩
    | succ d =>
      rw [if_neg (fun z => by have := q0.mp z; omega)]
      obtain ⟨σ1, e1, F1⟩ := x_dg_r2 h0 hw hc hN (h := h) (by omega) (by omega) (f_ss_mixReach_c7 N m) N 0 a σ (by omega) (by omega) hF
      rw [show f_ss_mixReach_c18 N (f_ss_mixReach_c7 N m) N a (iI h) 0 σ = f_ss_mixReach_c18 N (f_ss_mixReach_c7 N m) N a (iI h) (nI 0) σ from rfl, e1]
      exact ih d (h + 50) _ σ1 (by omega) (by omega) (by omega) F1
theorem x_dg_st {T : TS} {σ : Sg} (hO : Ok T) (hR : RX T σ) {N k : Nat} (hk : k < tN T) (kc : Int64 → Int32 → Sg → Option (Int64 × Sg)) : ∀ (m j : Nat) (a : Int64), j ≤ 9 → 9 - j < m → f_ss_digest_c20 N kc m a (nI k) (nI j) σ = kc (mxs (dS T) (9 - j) (9 * k + j) a) (nI (k + 1)) σ := by
  have h8 := hO.1
  intro m
  induction m with
  | zero => intro j a h1 h2; omega
  | succ m ih =>
    intro j a hj hm
    show f_ss_digest_c20_s N kc (f_ss_digest_c20 N kc m) a (nI k) (nI j) σ = _
    unfold f_ss_digest_c20_s
    have q0 : (8 : Int32) < nI j ↔ 8 < j := nI_ltI (a := 8) (by omega) (by omega)
    by_cases c : 8 < j
    · rw [if_pos (q0.mpr c), show 9 - j = 0 by omega, nI_1]; rfl
    · have v : staR T (nI k) (nI j) = sv T k (nI j) := by
        unfold staR
        rw [fl_t (p := ∃ i, i < tN T ∧ nI k = nI i) ⟨k, hk, rfl⟩, if_neg (by decide), if_neg (nlt0 (by omega)), if_pos (show nI j ≤ 8 from (nI_leI (b := 8) (by omega) (by omega)).mpr (by omega)), nI_clamp (show k < 2 ^ 31 by omega)]
      rw [if_neg (fun z => c (q0.mp z)), x_station hO hR, bind_some, v, nI_1, ih (j + 1) _ (by omega) (by omega), show 9 - j = (9 - (j + 1)) + 1 by omega]
      show _ = kc (mxs (dS T) (9 - (j + 1)) (9 * k + j + 1) (31 * a + dS T (9 * k + j))) (nI (k + 1)) σ
      unfold dS
      rw [show (9 * k + j) / 9 = k by omega, show (9 * k + j) % 9 = j by omega]
      rfl
theorem x_digest {T : TS} {pg : Nat → Int32} {pl : Nat} {ca we : Int32} {σ : Sg} (h : XI T pg pl ca we σ) {N : Nat} (hN : 600 ≤ N) : ∃ σ', f_ss_digest N σ = some (digR T pg pl ca we, σ') ∧ FSp σ σ' := by
  obtain ⟨hq, hp, h7, h8⟩ := id h
  have hO := hq.1
  have hR := hq.2.1
  have hn8 := hO.1
  have main : ∀ (m k : Nat) (a : Int64), k ≤ tN T → tN T - k < m → ∃ σ', f_ss_digest_c6 N m a (nI k) σ = some (mxs (dC T pl ca we) 6 0 (mxs (dP pg) pl 0 (let b := 31 * (31 * mxs (dS T) (9 * (tN T - k)) (9 * k) a + (fl (wr T = 0)).toInt64) + (nI (wr T)).toInt64; if fl (wr T = 0) = 0 then b else if fl (chd T) = 0 then mx2 (dX T) (dY T) (cN (PL T)) 0 (mxs (dK T) 4 0 b) else rcM T 9 (-200) (mx2 (dX T) (dY T) (cN (PL T)) 0 (mxs (dK T) 4 0 b)))), σ') ∧ FSp σ σ' := by
    intro m
    induction m with
    | zero => intro k a h1 h2; omega
    | succ m ih =>
      intro k a hk hm
      show ∃ σ', f_ss_digest_c6_s N (f_ss_digest_c6 N m) a (nI k) σ = _ ∧ _
      unfold f_ss_digest_c6_s
      have q0 : nI (tN T) ≤ nI k ↔ tN T ≤ k := nI_leI (by omega) (by omega)
      rw [hR.1]
      by_cases c : tN T ≤ k
      · rw [if_pos (q0.mpr c), x_allFit hq, x_fits hq, show f_ss_wrong σ = nI (wr T) from hq.2.2.1, show 9 * (tN T - k) = 0 by omega]
        show ∃ σ', _ = some (mxs (dC T pl ca we) 6 0 (mxs (dP pg) pl 0 (if fl (wr T = 0) = 0 then 31 * (31 * a + (fl (wr T = 0)).toInt64) + (nI (wr T)).toInt64 else if fl (chd T) = 0 then mx2 (dX T) (dY T) (cN (PL T)) 0 (mxs (dK T) 4 0 (31 * (31 * a + (fl (wr T = 0)).toInt64) + (nI (wr T)).toInt64)) else rcM T 9 (-200) (mx2 (dX T) (dY T) (cN (PL T)) 0 (mxs (dK T) 4 0 (31 * (31 * a + (fl (wr T = 0)).toInt64) + (nI (wr T)).toInt64))))), σ') ∧ _
        have pgx : ∀ (b : Int64) (τ : Sg), FSp σ τ → f_ss_digest_c109 N N b 0 τ = some (mxs (dC T pl ca we) 6 0 (mxs (dP pg) pl 0 b), τ) := fun b τ hF => x_dg_page (h.fsp hF) hN N 0 b (by omega) (by have := hp.1; omega)
        by_cases cw : fl (wr T = 0) = 0
        · rw [if_pos cw, if_pos cw, pgx _ σ (FSp.rf σ)]
          exact ⟨σ, rfl, FSp.rf σ⟩
        · rw [if_neg cw, if_neg cw]
          unfold f_ss_mixKernel
          rw [show ∀ b : Int64, f_ss_mixKernel_c5 N N b 0 σ = some (mx2 (dX T) (dY T) (cN (PL T)) 0 (mxs (dK T) 4 0 b)) from fun b => x_dg_ker hq cw hN N 0 b (by omega) (by omega), bind_some, x_chd hO hR hN, bind_some]
          by_cases cc : fl (chd T) = 0
          · rw [if_pos cc, if_pos cc, pgx _ σ (FSp.rf σ)]
            exact ⟨σ, rfl, FSp.rf σ⟩
          · rw [if_neg cc, if_neg cc]
            unfold f_ss_mixReach
            obtain ⟨σ1, e1, F1⟩ := x_dg_r hq cw cc hN N 9 (-200) (mx2 (dX T) (dY T) (cN (PL T)) 0 (mxs (dK T) 4 0 (31 * (31 * a + (fl (wr T = 0)).toInt64) + (nI (wr T)).toInt64))) σ (by omega) (by omega) (by omega) (FSp.rf σ)
            rw [show (-200 : Int32) = iI (-200) from rfl, e1, bind_some, pgx _ σ1 F1]
            exact ⟨σ1, rfl, F1⟩
      · rw [if_neg (fun z => c (q0.mp z)), show f_ss_digest_c20 N (f_ss_digest_c6 N m) N a (nI k) 0 σ = f_ss_digest_c20 N (f_ss_digest_c6 N m) N a (nI k) (nI 0) σ from rfl, x_dg_st hO hR (by omega) _ N 0 a (by omega) (by omega)]
        have e := mxs_add (dS T) 9 (9 * (tN T - (k + 1))) (9 * k) a
        rw [show 9 * (tN T - k) = 9 + 9 * (tN T - (k + 1)) by omega, e, show 9 * k + 9 = 9 * (k + 1) by omega]
        exact ih (k + 1) _ (by omega) (by omega)
  unfold f_ss_digest
  exact main N 0 1613 (by omega) (by omega)
