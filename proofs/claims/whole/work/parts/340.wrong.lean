/-! WRONG: the same search on both sides -/
theorem judge_low {T : TS} {σ0 : Sg} (hO : Ok T) (hR : RX T σ0) {N mid : Nat} (hN : 600 ≤ N) (hm : mid < tN T) (kc : Int32 → Sg → Option Sg) :
    ∀ (m low : Nat) (σ : Sg) (L : List Nat), low ≤ tN T → tN T - low < m → FV σ0 σ → LX σ L → CL T L (pr3 mid low 0) → ∃ σ' L', f_ve_judge_c17 N kc m (nI mid) (nI low) σ = kc (nI (mid + 1)) σ' ∧ FV σ0 σ' ∧ LX σ' L' ∧ CL T L' (pr3 (mid + 1) 0 0) := by
  have h8 : tN T ≤ 8 := hO.1
  intro m
  induction m with
  | zero => intro high σ L h1 h2; omega
  | succ m ih =>
    intro low σ L hh hfu hF hL hC
    have hX := hF.rx hR
    show ∃ σ' L', f_ve_judge_c17_s N kc (f_ve_judge_c17 N kc m) (nI mid) (nI low) σ = kc (nI (mid + 1)) σ' ∧ _
    unfold f_ve_judge_c17_s
    have q0 : nI (tN T) ≤ nI low ↔ tN T ≤ low := nI_leI (by omega) (by omega)
    simp only [hX.1, q0]
    by_cases c0 : tN T ≤ low
    · rw [if_pos c0, nI_1]
      refine ⟨σ, L, rfl, hF, hL, hC.congr (fun i j k hi hj hk hc => ?_)⟩
      unfold pr3; omega
    · rw [if_neg c0]
      have hl : low < tN T := by omega
      have il : ib (nI low) 8 := (ib_nI (by omega)).mpr (by omega)
      have im : ib (nI mid) 8 := (ib_nI (by omega)).mpr (by omega)
      have om := (hO.2.2.1 mid hm).1
      have ol := (hO.2.2.1 low hl).1
      have q1 : iI (tH T mid) ≤ iI (tH T low) ↔ tH T mid ≤ tH T low := iI_le (by omega) (by omega) (by omega) (by omega)
      simp only [if_pos im, if_pos il, nI_clamp (show mid < 2 ^ 31 by omega), nI_clamp (show low < 2 ^ 31 by omega), (hX.2.2 mid hm).1, (hX.2.2 low hl).1, (hX.2.2 low hl).2.1, q1, b01_0, nI_1]
      have skip : (∀ k, ¬ cla T low mid k) → ∃ σ' L', f_ve_judge_c17 N kc m (nI mid) (nI (low + 1)) σ = kc (nI (mid + 1)) σ' ∧ FV σ0 σ' ∧ LX σ' L' ∧ CL T L' (pr3 (mid + 1) 0 0) := fun hn => by
        refine ih (low + 1) σ L (by omega) (by omega) hF hL (hC.congr (fun i j k hi hj hk hc => ?_))
        have : ¬ (i = low ∧ j = mid) := fun e => by
          obtain ⟨rfl, rfl⟩ := e
          exact hn k hc
        unfold pr3; omega
      by_cases c1 : tH T mid ≤ tH T low
      · rw [if_pos c1]
        exact skip (fun k hc => by have := hc.2.2.1; omega)
      · rw [if_neg c1]
        by_cases c2 : tM T low = false
        · rw [if_pos c2]
          obtain ⟨σ1, L1, e1, hF1, hL1, hC1⟩ := gath hO hR (N := N) hl hm (by omega) c2 N 0 σ L (by omega) (by omega) hF hL hC
          unfold f_ve_gather
          rw [show (0 : Int32) = nI 0 from rfl, e1, bind_some]
          exact ih (low + 1) σ1 L1 (by omega) (by omega) hF1 hL1 (hC1.congr (fun i j k hi hj hk hc => by unfold pr3; omega))
        · rw [if_neg c2]
          exact skip (fun k hc => c2 hc.1)
def pc8 (w : Nat) : Nat := (List.range 8).countP fun i => w.testBit i
theorem bitc : ∀ w, w < 256 → f_ji_bitCount_0f7a4 (nI w) = nI (pc8 w) := by decide +kernel
theorem pc8_le (w : Nat) : pc8 w ≤ 8 := by
  have h : pc8 w ≤ (List.range 8).length := List.countP_le_length
  rw [List.length_range] at h
  exact h
theorem pc8_top : ∀ n, n < 9 → ∀ w, w < 2 ^ n → pc8 w ≤ pc8 (2 ^ n - 1) := by decide +kernel
theorem pc8_0 : pc8 0 = 0 := by decide
theorem pc8_pos : ∀ n, n < 9 → 0 < n → 0 < pc8 (2 ^ n - 1) := by decide +kernel
theorem p2_le : ∀ n, n < 9 → 2 ^ n ≤ 256 := by decide
theorem p2_pos (n : Nat) : 0 < 2 ^ n := Nat.pow_pos (by decide)
/-- without w -/
def wo (w : Nat) : Nat → Bool := fun x => !w.testBit x
noncomputable def wst (T : TS) (best w : Nat) : Nat := @ite Nat (pc8 w < pc8 best ∧ PW T (wo w)) (Classical.propDecidable _) w best
noncomputable def wgo (T : TS) : Nat → Nat → Nat → Nat
  | 0, _, best => best
  | d + 1, w, best => wgo T d (w + 1) (wst T best w)
noncomputable def wr (T : TS) : Nat := wgo T (2 ^ tN T) 0 (2 ^ tN T - 1)
theorem wst_t {T : TS} {best w : Nat} (h1 : pc8 w < pc8 best) (h2 : PW T (wo w)) : wst T best w = w := by unfold wst; exact if_pos ⟨h1, h2⟩
theorem wst_f {T : TS} {best w : Nat} (h : ¬ (pc8 w < pc8 best ∧ PW T (wo w))) : wst T best w = best := by unfold wst; exact if_neg h
theorem wst_lt {T : TS} {best w M : Nat} (h1 : best < M) (h2 : w < M) : wst T best w < M := by
  rcases Classical.em (pc8 w < pc8 best ∧ PW T (wo w)) with h | h
  · rw [wst_t h.1 h.2]; exact h2
  · rw [wst_f h]; exact h1
theorem wst_pc {T : TS} {best w M : Nat} (h1 : pc8 best ≤ M) : pc8 (wst T best w) ≤ M := by
  rcases Classical.em (pc8 w < pc8 best ∧ PW T (wo w)) with h | h
  · rw [wst_t h.1 h.2]; omega
  · rw [wst_f h]; exact h1
theorem wgo_add (T : TS) : ∀ (d w best : Nat), wgo T (d + 1) w best = wst T (wgo T d w best) (w + d)
  | 0, w, best => rfl
  | d + 1, w, best => by
    show wgo T (d + 1) (w + 1) (wst T best w) = _
    rw [wgo_add T d]
    show _ = wst T (wgo T d (w + 1) (wst T best w)) (w + (d + 1))
    rw [show w + 1 + d = w + (d + 1) by omega]
theorem wgo_lt {T : TS} {M : Nat} : ∀ (d w best : Nat), best < M → w + d ≤ M → wgo T d w best < M
  | 0, w, best, h, _ => h
  | d + 1, w, best, h, hd => wgo_lt d (w + 1) _ (wst_lt h (by omega)) (by omega)
theorem wgo_0 {T : TS} : ∀ (d w : Nat), wgo T d w 0 = 0
  | 0, w => rfl
  | d + 1, w => by
    show wgo T d (w + 1) (wst T 0 w) = 0
    rw [wst_f (fun z => by rw [pc8_0] at z; omega), wgo_0]
theorem wgo_P {T : TS} : ∀ (d w best : Nat), (wgo T d w best = best) ∨ PW T (wo (wgo T d w best))
  | 0, w, best => Or.inl rfl
  | d + 1, w, best => by
    show wgo T d (w + 1) (wst T best w) = best ∨ PW T (wo (wgo T d (w + 1) (wst T best w)))
    rcases wgo_P d (w + 1) (wst T best w) with h | h
    · rw [h]
      rcases Classical.em (pc8 w < pc8 best ∧ PW T (wo w)) with h1 | h1
      · rw [wst_t h1.1 h1.2]; exact Or.inr h1.2
      · rw [wst_f h1]; exact Or.inl rfl
    · exact Or.inr h
theorem wr_lt {T : TS} : wr T < 2 ^ tN T := wgo_lt _ _ _ (by have := p2_pos (tN T); omega) (by omega)
theorem pw_n0 {T : TS} (h : tN T = 0) (sm : Nat → Bool) : PW T sm := fun i j k hi => by omega
/-- nothing is wrong just if all fit -/
theorem wr_0 {T : TS} (hO : Ok T) : wr T = 0 ↔ PW T (fun _ => true) := by
  have e : wo 0 = fun _ => true := by funext x; simp [wo]
  have h8 := hO.1
  constructor
  · intro h
    unfold wr at h
    rcases wgo_P (T := T) (2 ^ tN T) 0 (2 ^ tN T - 1) with h1 | h1
    · rw [h] at h1
      have : tN T = 0 := by
        rcases Nat.eq_zero_or_pos (tN T) with h2 | h2
        · exact h2
        · have := Nat.pow_le_pow_right (n := 2) (by decide) h2
          omega
      exact pw_n0 this _
    · rw [h, e] at h1
      exact h1
  · intro h
    unfold wr
    obtain ⟨d, hd⟩ : ∃ d, 2 ^ tN T = d + 1 := ⟨2 ^ tN T - 1, by have := p2_pos (tN T); omega⟩
    rw [hd]
    show wgo T d (0 + 1) (wst T (d + 1 - 1) 0) = 0
    rcases Nat.eq_zero_or_pos (tN T) with h2 | h2
    · rw [h2] at hd
      have : d = 0 := by omega
      subst this
      rw [wst_f (by rw [pc8_0]; omega)]
      rfl
    · have := pc8_pos (tN T) (by omega) h2
      rw [show d + 1 - 1 = 2 ^ tN T - 1 by omega, wst_t (by rw [pc8_0]; exact this) (by rw [e]; exact h), wgo_0]
theorem mk3_and (i j k w : Nat) : mk3 i j k &&& w = 0 ↔ w.testBit i = false ∧ w.testBit j = false ∧ w.testBit k = false := by
  constructor
  · intro h
    have key : ∀ x, (x = i ∨ x = j ∨ x = k) → w.testBit x = false := fun x hx => by
      have h1 : (mk3 i j k &&& w).testBit x = false := by rw [h]; exact Nat.zero_testBit x
      rw [Nat.testBit_and, (mk3_bit i j k x).mpr hx, Bool.true_and] at h1
      exact h1
    exact ⟨key i (Or.inl rfl), key j (Or.inr (Or.inl rfl)), key k (Or.inr (Or.inr rfl))⟩
  · rintro ⟨h1, h2, h3⟩
    apply Nat.eq_of_testBit_eq
    intro x
    rw [Nat.zero_testBit, Nat.testBit_and]
    cases hx : (mk3 i j k).testBit x with
    | false => rfl
    | true =>
      rcases (mk3_bit i j k x).mp hx with rfl | rfl | rfl
      · rw [h1]; rfl
      · rw [h2]; rfl
      · rw [h3]; rfl
theorem cl_pw {T : TS} {L : List Nat} (hC : CL T L (fun _ _ _ => True)) (w : Nat) : PW T (wo w) ↔ ∀ x ∈ L, ¬ x &&& w = 0 := by
  constructor
  · intro h x hx e
    obtain ⟨i, j, k, hi, hj, hk, hc, -, rfl⟩ := (hC.2 x).mp hx
    obtain ⟨b1, b2, b3⟩ := (mk3_and i j k w).mp e
    exact h i j k hi hj hk (by simp [wo, b1]) (by simp [wo, b2]) (by simp [wo, b3]) hc
  · intro h i j k hi hj hk s1 s2 s3 hc
    refine h _ ((hC.2 _).mpr ⟨i, j, k, hi, hj, hk, hc, trivial, rfl⟩) ((mk3_and i j k w).mpr ⟨?_, ?_, ?_⟩)
    · simpa [wo] using s1
    · simpa [wo] using s2
    · simpa [wo] using s3
theorem cl_256 {T : TS} (hO : Ok T) {L : List Nat} {P : Nat → Nat → Nat → Prop} (hC : CL T L P) : ∀ x ∈ L, x < 256 := by
  intro x hx
  have h8 := hO.1
  obtain ⟨i, j, k, hi, hj, hk, -, -, rfl⟩ := (hC.2 x).mp hx
  exact mk3_lt i (by omega) j (by omega) k (by omega)
theorem cl_56 {T : TS} (hO : Ok T) {L : List Nat} {P : Nat → Nat → Nat → Prop} (hC : CL T L P) : L.length ≤ 56 := by
  have h8 := hO.1
  have hsub : L ⊆ M56 := by
    intro x hx
    obtain ⟨i, j, k, hi, hj, hk, hc, -, rfl⟩ := (hC.2 x).mp hx
    have h1 := hc.2.2.1
    have h2 := hc.2.2.2.1
    exact M56_in (by omega) (by omega) (by omega) (fun e => by subst e; omega) (fun e => by subst e; omega) (fun e => by subst e; omega)
  have := List.Nodup.length_le_of_subset hC.1 hsub
  rw [M56_len] at this
  exact this
theorem cure_loop {T : TS} (hO : Ok T) {σ : Sg} {L : List Nat} (hL : LX σ L) {P : Nat → Nat → Nat → Prop} (hC : CL T L P) {N w : Nat} (hw : w < 256) :
    ∀ (m t : Nat), t ≤ L.length → L.length - t < m → f_ve_isCure_c2 N m (nI w) (nI t) σ = some (fl (∀ t', t ≤ t' → t' < L.length → ¬ L.getD t' 0 &&& w = 0)) := by
  have h56 := cl_56 hO hC
  intro m
  induction m with
  | zero => intro t h1 h2; omega
  | succ m ih =>
    intro t ht hm
    show f_ve_isCure_c2_s N (f_ve_isCure_c2 N m) (nI w) (nI t) σ = _
    unfold f_ve_isCure_c2_s
    have q0 : nI L.length ≤ nI t ↔ L.length ≤ t := nI_leI (by omega) (by omega)
    simp only [hL.1, q0]
    by_cases c0 : L.length ≤ t
    · rw [if_pos c0, fl_t (fun t' h1 h2 => by omega)]
    · rw [if_neg c0]
      have it : ib (nI t) 56 := (ib_nI (by omega)).mpr (by omega)
      rw [if_pos it, nI_clamp (by omega), hL.2 t (by omega), n_and, nI_1, ih (t + 1) (by omega) (by omega)]
      have hx : L.getD t 0 < 256 := by
        have hm : L.getD t 0 ∈ L := by
          rw [List.getD_eq_getElem?_getD, List.getElem?_eq_getElem (by omega)]
          simp
        exact cl_256 hO hC _ hm
      have ha : L.getD t 0 &&& w < 256 := Nat.lt_of_le_of_lt Nat.and_le_right hw
      have q1 : nI (L.getD t 0 &&& w) = 0 ↔ L.getD t 0 &&& w = 0 := nI_eq (b := 0) (by omega) (by omega)
      by_cases c1 : L.getD t 0 &&& w = 0
      · rw [if_pos (q1.mpr c1), fl_f (fun z => z t (Nat.le_refl _) (by omega) c1)]
      · rw [if_neg (fun z => c1 (q1.mp z))]
        congr 1
        exact fl_c ⟨fun z t' h1 h2 => by
          rcases Nat.lt_or_ge t t' with h3 | h3
          · exact z t' h3 h2
          · have : t' = t := by omega
            subst this
            exact c1, fun z t' h1 h2 => z t' (by omega) h2⟩
theorem cure_eq {T : TS} (hO : Ok T) {σ : Sg} {L : List Nat} (hL : LX σ L) (hC : CL T L (fun _ _ _ => True)) {N w : Nat} (hN : 600 ≤ N) (hw : w < 256) : f_ve_isCure N σ (nI w) = some (fl (PW T (wo w))) := by
  have h56 := cl_56 hO hC
  unfold f_ve_isCure
  rw [show (0 : Int32) = nI 0 from rfl, cure_loop hO hL hC hw N 0 (by omega) (by omega)]
  congr 1
  refine fl_c (Iff.trans ?_ (cl_pw hC w).symm)
  constructor
  · intro h x hx
    obtain ⟨t, ht, rfl⟩ := List.getElem_of_mem hx
    have := h t (Nat.zero_le _) ht
    rw [List.getD_eq_getElem?_getD, List.getElem?_eq_getElem ht] at this
    simpa using this
  · intro h t _ ht
    refine h _ ?_
    rw [List.getD_eq_getElem?_getD, List.getElem?_eq_getElem ht]
    simp
theorem few_loop {T : TS} (hO : Ok T) {σ : Sg} {L : List Nat} (hL : LX σ L) (hC : CL T L (fun _ _ _ => True)) {N M : Nat} (hN : 600 ≤ N) (hM : M < 256) :
    ∀ (m w best : Nat), w ≤ M → M - w < m → best ≤ M → f_ve_fewest_c20 N m (nI M) (nI best) (nI w) σ = some (nI (wgo T (M - w) w best)) := by
  intro m
  induction m with
  | zero => intro w best h1 h2; omega
  | succ m ih =>
    intro w best hw hm hb
    show f_ve_fewest_c20_s N (f_ve_fewest_c20 N m) (nI M) (nI best) (nI w) σ = _
    unfold f_ve_fewest_c20_s
    have q0 : nI M ≤ nI w ↔ M ≤ w := nI_leI (by omega) (by omega)
    simp only [q0]
    by_cases c0 : M ≤ w
    · rw [if_pos c0, show M - w = 0 by omega]
      rfl
    · rw [if_neg c0, bitc best (by omega), bitc w (by omega)]
      have p1 := pc8_le w
      have p2 := pc8_le best
      have q1 : nI (pc8 best) ≤ nI (pc8 w) ↔ pc8 best ≤ pc8 w := nI_leI (by omega) (by omega)
      have ed : M - w = (M - (w + 1)) + 1 := by omega
      rw [ed, nI_1]
      show _ = some (nI (wgo T (M - (w + 1)) (w + 1) (wst T best w)))
      by_cases c1 : pc8 best ≤ pc8 w
      · rw [if_pos (q1.mpr c1), ih (w + 1) best (by omega) (by omega) hb, wst_f (by omega)]
      · rw [if_neg (fun z => c1 (q1.mp z)), cure_eq hO hL hC hN (by omega), bind_some]
        rcases Classical.em (PW T (wo w)) with h | h
        · rw [fl_t h, if_neg (by decide), ih (w + 1) w (by omega) (by omega) (by omega), wst_t (by omega) h]
        · rw [fl_f h, if_pos rfl, ih (w + 1) best (by omega) (by omega) hb, wst_f (fun z => h z.2)]
theorem all_eq : ∀ n, n < 9 → ((1 : Int32) <<< (nI n &&& 31)) - 1 = nI (2 ^ n - 1) := by decide +kernel
theorem few_eq {T : TS} (hO : Ok T) {σ : Sg} {L : List Nat} (hL : LX σ L) (hC : CL T L (fun _ _ _ => True)) {N : Nat} (hN : 600 ≤ N) : f_ve_fewest N σ (nI (tN T)) = some (nI (wr T)) := by
  have h8 := hO.1
  have h56 := cl_56 hO hC
  have h2 := p2_le (tN T) (by omega)
  have h1 := p2_pos (tN T)
  unfold f_ve_fewest
  have q0 : nI L.length = 0 ↔ L.length = 0 := nI_eq (b := 0) (by omega) (by omega)
  rw [hL.1]
  by_cases c0 : L.length = 0
  · rw [if_pos (q0.mpr c0)]
    have : L = [] := List.length_eq_zero_iff.mp c0
    have hw : wr T = 0 := (wr_0 hO).mpr (fun i j k hi hj hk _ _ _ hc => by
      have := (hC.2 (mk3 i j k)).mpr ⟨i, j, k, hi, hj, hk, hc, trivial, rfl⟩
      rw [‹L = []›] at this
      cases this)
    rw [hw]; rfl
  · rw [if_neg (fun z => c0 (q0.mp z)), all_eq _ (by omega), show (0 : Int32) = nI 0 from rfl, few_loop hO hL hC hN (by omega) N 0 _ (by omega) (by omega) (by omega)]
    congr 2
    unfold wr
    rw [show 2 ^ tN T = (2 ^ tN T - 1 - 0) + 1 by omega, wgo_add]
    simp only [Nat.sub_zero, Nat.zero_add, Nat.add_sub_cancel]
    rw [wst_f (fun z => ?_)]
    have := pc8_top (tN T) (by omega) (wgo T (2 ^ tN T - 1) 0 (2 ^ tN T - 1)) (wgo_lt _ _ _ (by omega) (by omega))
    omega
theorem judge_mid {T : TS} {σ0 : Sg} (hO : Ok T) (hR : RX T σ0) {N : Nat} (hN : 600 ≤ N) :
    ∀ (m mid : Nat) (σ : Sg) (L : List Nat), mid ≤ tN T → tN T - mid < m → FV σ0 σ → LX σ L → CL T L (pr3 mid 0 0) → ∃ σ', f_ve_judge_c7 N m (nI mid) σ = some σ' ∧ FV σ0 σ' ∧ σ'.1 10 2 = nI (wr T) := by
  have h8 : tN T ≤ 8 := hO.1
  intro m
  induction m with
  | zero => intro high σ L h1 h2; omega
  | succ m ih =>
    intro mid σ L hh hfu hF hL hC
    have hX := hF.rx hR
    show ∃ σ', f_ve_judge_c7_s N (f_ve_judge_c7 N m) (nI mid) σ = some σ' ∧ _
    unfold f_ve_judge_c7_s
    have q0 : nI (tN T) ≤ nI mid ↔ tN T ≤ mid := nI_leI (by omega) (by omega)
    simp only [hX.1, q0]
    by_cases c0 : tN T ≤ mid
    · rw [if_pos c0, few_eq hO hL (hC.congr (fun i j k hi hj hk hc => by unfold pr3; simp; omega)) hN, bind_some, nm_eq]
      refine ⟨_, rfl, ⟨fun p h1 h2 => ?_, by rw [uI_2]; exact hF.2⟩, ?_⟩
      · funext x
        simp only [uI_1, h1, false_and, if_false]
        rw [hF.1 p h1 h2]
      · simp [uI_1]
    · rw [if_neg c0]
      obtain ⟨σ1, L1, e1, hF1, hL1, hC1⟩ := judge_low hO hR hN (by omega : mid < tN T) (f_ve_judge_c7 N m) N 0 σ L (by omega) (by omega) hF hL hC
      rw [show (0 : Int32) = nI 0 from rfl, e1]
      exact ih (mid + 1) σ1 L1 (by omega) (by omega) hF1 hL1 hC1
/-- the class's verdict -/
theorem judge_eq {T : TS} {σ : Sg} (hO : Ok T) (hR : RX T σ) {N : Nat} (hN : 600 ≤ N) : ∃ σ', f_ve_judge N σ = some σ' ∧ FV σ σ' ∧ σ'.1 10 2 = nI (wr T) := by
  have h8 : tN T ≤ 8 := hO.1
  unfold f_ve_judge
  rw [nm_eq, show (0 : Int32) = nI 0 from rfl]
  refine judge_mid hO hR hN N 0 (uI σ 10 1 (nI 0)) [] (by omega) (by omega) ⟨fun p h1 h2 => ?_, rfl⟩ ⟨by simp [uI_1], fun t ht => by simp at ht⟩ ⟨List.nodup_nil, fun x => ?_⟩
  · funext x
    simp only [uI_1, h1, false_and, if_false]
  · constructor
    · intro h; cases h
    · rintro ⟨i, j, k, -, -, -, -, h, -⟩
      unfold pr3 at h
      omega
/-! the model's search -/
theorem many_eq {N : Nat} (hN : 600 ≤ N) : ∀ w, w < 256 → f_mo_many N (nI w) = some (nI (pc8 w)) := by
  obtain ⟨d, rfl⟩ : ∃ d, N = d + 9 := ⟨N - 9, by omega⟩
  have h : ∀ (N d : Nat) (a : Int32), f_mo_many_c4 N (d + 9) a 0 0 = some ((((((((0 + ((a >>> ((0 : Int32) &&& 31)) &&& 1)) + ((a >>> ((1 : Int32) &&& 31)) &&& 1)) + ((a >>> ((2 : Int32) &&& 31)) &&& 1)) + ((a >>> ((3 : Int32) &&& 31)) &&& 1)) + ((a >>> ((4 : Int32) &&& 31)) &&& 1)) + ((a >>> ((5 : Int32) &&& 31)) &&& 1)) + ((a >>> ((6 : Int32) &&& 31)) &&& 1)) + ((a >>> ((7 : Int32) &&& 31)) &&& 1)) := fun N d a => rfl
  intro w hw
  unfold f_mo_many
  rw [h]
  have h2 : ∀ w, w < 256 → ((((((((0 + ((nI w >>> ((0 : Int32) &&& 31)) &&& 1)) + ((nI w >>> ((1 : Int32) &&& 31)) &&& 1)) + ((nI w >>> ((2 : Int32) &&& 31)) &&& 1)) + ((nI w >>> ((3 : Int32) &&& 31)) &&& 1)) + ((nI w >>> ((4 : Int32) &&& 31)) &&& 1)) + ((nI w >>> ((5 : Int32) &&& 31)) &&& 1)) + ((nI w >>> ((6 : Int32) &&& 31)) &&& 1)) + ((nI w >>> ((7 : Int32) &&& 31)) &&& 1)) = nI (pc8 w) := by decide +kernel
  rw [h2 w hw]
theorem has_all : ∀ n, n < 9 → ∀ k, k < n → f_mo_has (nI (2 ^ n - 1)) (nI k) = 1 := by decide +kernel
theorem has_wo : ∀ n, n < 9 → ∀ w, w < 2 ^ n → ∀ k, k < n → f_mo_has (nI (2 ^ n - 1) &&& (nI w ^^^ (-1))) (nI k) = b01 (!w.testBit k) := by decide +kernel
theorem mall_eq {T : TS} {σ : Sg} (hO : Ok T) (h : RM T σ) : f_mo_all σ = nI (2 ^ tN T - 1) := by
  have h8 := hO.1
  unfold f_mo_all
  rw [h.1, all_eq _ (by omega)]
theorem mfit_eq {T : TS} {σ : Sg} (hO : Ok T) (h : RM T σ) {N : Nat} (hN : 600 ≤ N) : f_mo_fit N σ = some (fl (wr T = 0)) := by
  have h8 := hO.1
  unfold f_mo_fit
  rw [mall_eq hO h, fits_for hO h (sm := fun _ => true) (fun k hk => by rw [has_all _ (by omega) k hk]; rfl) hN, bind_some, if_pos (fl_01 _)]
  exact congrArg some (fl_c (wr_0 hO).symm)
theorem wrong_loop {T : TS} {σ : Sg} (hO : Ok T) (h : RM T σ) {N : Nat} (hN : 600 ≤ N) :
    ∀ (m w best : Nat), w ≤ 2 ^ tN T → 2 ^ tN T - w < m → best < 2 ^ tN T → f_mo_wrongNow_c7 N m (nI best) (nI w) σ = some (nI (wgo T (2 ^ tN T - w) w best)) := by
  have h8 := hO.1
  have h2 := p2_le (tN T) (by omega)
  intro m
  induction m with
  | zero => intro w best h1 h2; omega
  | succ m ih =>
    intro w best hw hm hb
    show f_mo_wrongNow_c7_s N (f_mo_wrongNow_c7 N m) (nI best) (nI w) σ = _
    unfold f_mo_wrongNow_c7_s
    have q0 : nI (2 ^ tN T - 1) < nI w ↔ 2 ^ tN T - 1 < w := nI_ltI (by omega) (by omega)
    simp only [mall_eq hO h, q0]
    by_cases c0 : 2 ^ tN T - 1 < w
    · rw [if_pos c0, show 2 ^ tN T - w = 0 by omega]
      rfl
    · rw [if_neg c0, many_eq hN w (by omega), many_eq hN best (by omega), bind_some, bind_some]
      have p1 := pc8_le w
      have p2 := pc8_le best
      have q1 : nI (pc8 best) ≤ nI (pc8 w) ↔ pc8 best ≤ pc8 w := nI_leI (by omega) (by omega)
      have ed : 2 ^ tN T - w = (2 ^ tN T - (w + 1)) + 1 := by omega
      rw [ed]
      show _ = some (nI (wgo T (2 ^ tN T - (w + 1)) (w + 1) (wst T best w)))
      unfold f_mo_wrongNow_c31
      rw [nI_1]
      by_cases c1 : pc8 best ≤ pc8 w
      · rw [if_pos (q1.mpr c1), if_pos rfl, ih (w + 1) best (by omega) (by omega) hb, wst_f (by omega)]
      · rw [if_neg (fun z => c1 (q1.mp z)), if_neg (by decide), mall_eq hO h, fits_for hO h (sm := wo w) (fun k hk => has_wo _ (by omega) w (by omega) k hk) hN, bind_some]
        rcases Classical.em (PW T (wo w)) with h | h
        · rw [fl_t h, if_neg (by decide), ih (w + 1) w (by omega) (by omega) (by omega), wst_t (by omega) h]
        · rw [fl_f h, if_pos rfl, ih (w + 1) best (by omega) (by omega) hb, wst_f (fun z => h z.2)]
theorem mwrong_eq {T : TS} {σ : Sg} (hO : Ok T) (h : RM T σ) {N : Nat} (hN : 600 ≤ N) : f_mo_wrongNow N σ = some (nI (wr T)) := by
  have h8 := hO.1
  have h2 := p2_le (tN T) (by omega)
  have h1 := p2_pos (tN T)
  unfold f_mo_wrongNow
  rw [mall_eq hO h, show (0 : Int32) = nI 0 from rfl, wrong_loop hO h hN N 0 _ (by omega) (by omega) (by omega), Nat.sub_zero]
  rfl
