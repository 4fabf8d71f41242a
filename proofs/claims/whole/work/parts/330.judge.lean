/-! THE CLASS'S VERDICT: the list of the threes that clash -/
theorem n_and (a b : Nat) : nI a &&& nI b = nI (a &&& b) := by
  apply Int32.toBitVec_inj.1
  show BitVec.ofNat 32 a &&& BitVec.ofNat 32 b = BitVec.ofNat 32 (a &&& b)
  apply BitVec.eq_of_getLsbD_eq
  intro i hi
  simp [hi]
theorem n_or (a b : Nat) : nI a ||| nI b = nI (a ||| b) := by
  apply Int32.toBitVec_inj.1
  show BitVec.ofNat 32 a ||| BitVec.ofNat 32 b = BitVec.ofNat 32 (a ||| b)
  apply BitVec.eq_of_getLsbD_eq
  intro i hi
  simp [hi]
theorem n_sh : ∀ i, i < 9 → (1 : Int32) <<< (nI i &&& 31) = nI (2 ^ i) := by decide +kernel
def mk3 (i j k : Nat) : Nat := (2 ^ i ||| 2 ^ j) ||| 2 ^ k
theorem mk3_bit (i j k x : Nat) : (mk3 i j k).testBit x = true ↔ x = i ∨ x = j ∨ x = k := by
  unfold mk3
  simp only [Nat.testBit_or, Nat.testBit_two_pow, Bool.or_eq_true, decide_eq_true_eq]
  omega
def M56 : List Nat := (List.range 256).filter fun w => (List.range 8).countP (fun i => w.testBit i) == 3
theorem M56_len : M56.length = 56 := by decide +kernel
theorem M56_in0 : ∀ i, i < 8 → ∀ j, j < 8 → ∀ k, k < 8 → (i = j ∨ j = k ∨ i = k ∨ mk3 i j k ∈ M56) := by decide +kernel
theorem M56_in {i j k : Nat} (hi : i < 8) (hj : j < 8) (hk : k < 8) (h1 : i ≠ j) (h2 : j ≠ k) (h3 : i ≠ k) : mk3 i j k ∈ M56 := by
  rcases M56_in0 i hi j hj k hk with h | h | h | h
  · exact absurd h h1
  · exact absurd h h2
  · exact absurd h h3
  · exact h
theorem mk3_lt : ∀ i, i < 8 → ∀ j, j < 8 → ∀ k, k < 8 → mk3 i j k < 256 := by decide +kernel
theorem mk3_inj {T : TS} {i j k i' j' k' : Nat} (h1 : tH T i < tH T j) (h2 : tH T j < tH T k) (h3 : tH T i' < tH T j') (h4 : tH T j' < tH T k') (h : mk3 i j k = mk3 i' j' k') : i = i' ∧ j = j' ∧ k = k' := by
  have a1 := (mk3_bit i' j' k' i).mp (by rw [← h]; exact (mk3_bit i j k i).mpr (by simp))
  have a2 := (mk3_bit i' j' k' j).mp (by rw [← h]; exact (mk3_bit i j k j).mpr (by simp))
  have a3 := (mk3_bit i' j' k' k).mp (by rw [← h]; exact (mk3_bit i j k k).mpr (by simp))
  rcases a1 with rfl | rfl | rfl <;> rcases a2 with rfl | rfl | rfl <;> rcases a3 with rfl | rfl | rfl <;> first | (exfalso; omega) | exact ⟨rfl, rfl, rfl⟩
theorem dent_eq {T : TS} {σ : Sg} (hO : Ok T) (h : RX T σ) {i j k : Nat} (hi : i < tN T) (hj : j < tN T) (hk : k < tN T) :
    f_ve_isDent σ (nI i) (nI j) (nI k) 0 = some (fl (li T i * (tH T k - tH T j) + li T k * (tH T j - tH T i) < lo T j * (tH T k - tH T i))) ∧ f_ve_isDent σ (nI i) (nI j) (nI k) 1 = some (fl (ro T j * (tH T k - tH T i) < ri T i * (tH T k - tH T j) + ri T k * (tH T j - tH T i))) := by
  have h8 : tN T ≤ 8 := hO.1
  obtain ⟨xi0, xi1⟩ := x_inner hO h hi
  obtain ⟨xk0, xk1⟩ := x_inner hO h hk
  obtain ⟨yj0, yj1⟩ := x_outer hO h hj
  obtain ⟨-, -, hr⟩ := h
  have ei := ends_b hO hi
  have ej := ends_b hO hj
  have ek := ends_b hO hk
  have oi := (hO.2.2.1 i hi).1
  have oj := (hO.2.2.1 j hj).1
  have ok := (hO.2.2.1 k hk).1
  have ii : ib (nI i) 8 := (ib_nI (by omega)).mpr (by omega)
  have ij : ib (nI j) 8 := (ib_nI (by omega)).mpr (by omega)
  have ik : ib (nI k) 8 := (ib_nI (by omega)).mpr (by omega)
  have l1 := ln_b (a := li T i) (b := li T k) (x := tH T k - tH T j) (y := tH T j - tH T i) (by omega) (by omega) (by omega) (by omega) (by omega) (by omega) (by omega) (by omega)
  have l2 := ln_b (a := ri T i) (b := ri T k) (x := tH T k - tH T j) (y := tH T j - tH T i) (by omega) (by omega) (by omega) (by omega) (by omega) (by omega) (by omega) (by omega)
  have l3 := ln_b (a := lo T j) (b := ro T j) (x := tH T k - tH T i) (y := tH T k - tH T i) (by omega) (by omega) (by omega) (by omega) (by omega) (by omega) (by omega) (by omega)
  have e0 : tH T k - tH T j + (tH T j - tH T i) = tH T k - tH T i := by omega
  unfold f_ve_isDent
  simp only [if_pos ii, if_pos ij, if_pos ik, nI_clamp (show i < 2 ^ 31 by omega), nI_clamp (show j < 2 ^ 31 by omega), nI_clamp (show k < 2 ^ 31 by omega), (hr i hi).1, (hr j hj).1, (hr k hk).1, xi0, xi1, xk0, xk1, yj0, yj1, bind_some, iI_sub, iI_add, iI_mul, e0, Int.neg_mul]
  have q1 : iI (lo T j * (tH T k - tH T i)) ≤ iI (li T i * (tH T k - tH T j) + li T k * (tH T j - tH T i)) ↔ _ := iI_le (by omega) (by omega) (by omega) (by omega)
  have q2 : iI (-(ro T j * (tH T k - tH T i))) ≤ iI (-(ri T i * (tH T k - tH T j)) + -(ri T k * (tH T j - tH T i))) ↔ _ := iI_le (by omega) (by omega) (by omega) (by omega)
  simp only [q1, q2]
  constructor
  · by_cases c : lo T j * (tH T k - tH T i) ≤ li T i * (tH T k - tH T j) + li T k * (tH T j - tH T i)
    · rw [if_pos c, fl_f (by omega)]
    · rw [if_neg c, fl_t (by omega)]
  · by_cases c : -(ro T j * (tH T k - tH T i)) ≤ -(ri T i * (tH T k - tH T j)) + -(ri T k * (tH T j - tH T i))
    · rw [if_pos c, fl_f (by omega)]
    · rw [if_neg c, fl_t (by omega)]
theorem clash_eq {T : TS} {σ : Sg} (hO : Ok T) (h : RX T σ) {i j k : Nat} (hi : i < tN T) (hj : j < tN T) (hk : k < tN T) : f_ve_isClash σ (nI i) (nI j) (nI k) = some (fl (dnt T i j k)) := by
  have h8 : tN T ≤ 8 := hO.1
  obtain ⟨d0, d1⟩ := dent_eq hO h hi hj hk
  have ij : ib (nI j) 8 := (ib_nI (by omega)).mpr (by omega)
  unfold f_ve_isClash
  simp only [if_pos ij, nI_clamp (show j < 2 ^ 31 by omega), (h.2.2 j hj).2.1, b01_0]
  by_cases cm : tM T j = false
  · rw [if_pos cm, d0, bind_some]
    by_cases c1 : li T i * (tH T k - tH T j) + li T k * (tH T j - tH T i) < lo T j * (tH T k - tH T i)
    · rw [fl_t c1, if_neg (by decide), fl_t (p := dnt T i j k) (Or.inr (Or.inl c1))]
    · rw [fl_f c1, if_pos rfl, d1, bind_some]
      by_cases c2 : ro T j * (tH T k - tH T i) < ri T i * (tH T k - tH T j) + ri T k * (tH T j - tH T i)
      · rw [fl_t c2, if_neg (by decide), fl_t (p := dnt T i j k) (Or.inr (Or.inr c2))]
      · rw [fl_f c2, if_pos rfl, fl_f (p := dnt T i j k) (fun z => by
          rcases z with z | z | z
          · rw [cm] at z; cases z
          · exact c1 z
          · exact c2 z)]
  · rw [if_neg cm, fl_t (p := dnt T i j k) (Or.inl (by simpa using cm))]
/-- nothing but the verdict's cells has changed -/
def FV (σ0 σ : Sg) : Prop := (∀ p, p ≠ 10 → p ≠ 11 → σ.1 p = σ0.1 p) ∧ σ.2 = σ0.2
theorem FV.rx {T : TS} {σ0 σ : Sg} (h : FV σ0 σ) (hr : RX T σ0) : RX T σ := by
  unfold RX
  rw [h.1 4 (by decide) (by decide), h.1 5 (by decide) (by decide), h.1 6 (by decide) (by decide), h.1 7 (by decide) (by decide), h.1 8 (by decide) (by decide), h.1 9 (by decide) (by decide)]
  exact hr
def LX (σ : Sg) (L : List Nat) : Prop := σ.1 10 1 = nI L.length ∧ ∀ t, t < L.length → σ.1 11 t = nI (L.getD t 0)
def CL (T : TS) (L : List Nat) (Pr : Nat → Nat → Nat → Prop) : Prop := L.Nodup ∧ ∀ x, x ∈ L ↔ ∃ i j k, i < tN T ∧ j < tN T ∧ k < tN T ∧ cla T i j k ∧ Pr i j k ∧ x = mk3 i j k
theorem CL.congr {T : TS} {L : List Nat} {P Q : Nat → Nat → Nat → Prop} (h : CL T L P) (hPQ : ∀ i j k, i < tN T → j < tN T → k < tN T → cla T i j k → (P i j k ↔ Q i j k)) : CL T L Q := by
  refine ⟨h.1, fun x => (h.2 x).trans ?_⟩
  constructor
  · rintro ⟨i, j, k, hi, hj, hk, hc, hp, hx⟩
    exact ⟨i, j, k, hi, hj, hk, hc, (hPQ i j k hi hj hk hc).mp hp, hx⟩
  · rintro ⟨i, j, k, hi, hj, hk, hc, hp, hx⟩
    exact ⟨i, j, k, hi, hj, hk, hc, (hPQ i j k hi hj hk hc).mpr hp, hx⟩
theorem CL.new {T : TS} {L : List Nat} {P : Nat → Nat → Nat → Prop} (hO : Ok T) (h : CL T L P) {i j k : Nat} (hi : i < tN T) (hj : j < tN T) (hk : k < tN T) (hc : cla T i j k) (hp : ¬ P i j k) : mk3 i j k ∉ L ∧ L.length < 56 := by
  have h8 : tN T ≤ 8 := hO.1
  have hn : mk3 i j k ∉ L := by
    intro hx
    obtain ⟨i', j', k', -, -, -, hc', hp', he⟩ := (h.2 _).mp hx
    obtain ⟨rfl, rfl, rfl⟩ := mk3_inj hc.2.2.1 hc.2.2.2.1 hc'.2.2.1 hc'.2.2.2.1 he
    exact hp hp'
  refine ⟨hn, ?_⟩
  have inM : ∀ {i j k : Nat}, i < tN T → j < tN T → k < tN T → cla T i j k → mk3 i j k ∈ M56 := by
    intro i j k hi hj hk hc
    have h1 := hc.2.2.1
    have h2 := hc.2.2.2.1
    exact M56_in (by omega) (by omega) (by omega) (fun e => by subst e; omega) (fun e => by subst e; omega) (fun e => by subst e; omega)
  have hsub : mk3 i j k :: L ⊆ M56 := by
    intro x hx
    rcases List.mem_cons.mp hx with rfl | hx
    · exact inM hi hj hk hc
    · obtain ⟨i', j', k', hi', hj', hk', hc', -, rfl⟩ := (h.2 _).mp hx
      exact inM hi' hj' hk' hc'
  have := List.Nodup.length_le_of_subset (List.nodup_cons.mpr ⟨hn, h.1⟩) hsub
  rw [M56_len, List.length_cons] at this
  omega
theorem CL.add {T : TS} {L : List Nat} {P Q : Nat → Nat → Nat → Prop} (hO : Ok T) (h : CL T L P) {i j k : Nat} (hi : i < tN T) (hj : j < tN T) (hk : k < tN T) (hc : cla T i j k) (hp : ¬ P i j k) (hQ : ∀ i' j' k', Q i' j' k' ↔ (P i' j' k' ∨ (i' = i ∧ j' = j ∧ k' = k))) : CL T (L ++ [mk3 i j k]) Q := by
  have hn := (h.new hO hi hj hk hc hp).1
  refine ⟨List.nodup_append.mpr ⟨h.1, by simp, fun a ha b hb => ?_⟩, fun x => ?_⟩
  · rw [List.mem_singleton] at hb
    subst hb
    exact fun e => hn (e ▸ ha)
  · rw [List.mem_append, List.mem_singleton, h.2 x]
    constructor
    · rintro (⟨i', j', k', h1, h2, h3, h4, h5, h6⟩ | rfl)
      · exact ⟨i', j', k', h1, h2, h3, h4, (hQ _ _ _).mpr (Or.inl h5), h6⟩
      · exact ⟨i, j, k, hi, hj, hk, hc, (hQ _ _ _).mpr (Or.inr ⟨rfl, rfl, rfl⟩), rfl⟩
    · rintro ⟨i', j', k', h1, h2, h3, h4, h5, h6⟩
      rcases (hQ _ _ _).mp h5 with h5 | ⟨rfl, rfl, rfl⟩
      · exact Or.inl ⟨i', j', k', h1, h2, h3, h4, h5, h6⟩
      · exact Or.inr h6
/-- which threes the loops have been through -/
def pr3 (mid low high i j k : Nat) : Prop := j < mid ∨ (j = mid ∧ (i < low ∨ (i = low ∧ k < high)))
theorem gath {T : TS} {σ0 : Sg} (hO : Ok T) (hR : RX T σ0) {N low mid : Nat} (hl : low < tN T) (hm : mid < tN T) (hlm : tH T low < tH T mid) (hml : tM T low = false) :
    ∀ (m high : Nat) (σ : Sg) (L : List Nat), high ≤ tN T → tN T - high < m → FV σ0 σ → LX σ L → CL T L (pr3 mid low high) → ∃ σ' L', f_ve_gather_c3 N m (nI low) (nI mid) (nI high) σ = some σ' ∧ FV σ0 σ' ∧ LX σ' L' ∧ CL T L' (pr3 mid low (tN T)) := by
  have h8 : tN T ≤ 8 := hO.1
  intro m
  induction m with
  | zero => intro high σ L h1 h2; omega
  | succ m ih =>
    intro high σ L hh hfu hF hL hC
    have hX := hF.rx hR
    show ∃ σ' L', f_ve_gather_c3_s N (f_ve_gather_c3 N m) (nI low) (nI mid) (nI high) σ = some σ' ∧ _
    unfold f_ve_gather_c3_s
    have q0 : nI (tN T) ≤ nI high ↔ tN T ≤ high := nI_leI (by omega) (by omega)
    simp only [hX.1, q0]
    by_cases c0 : tN T ≤ high
    · rw [if_pos c0]
      have : high = tN T := by omega
      subst this
      exact ⟨σ, L, rfl, hF, hL, hC⟩
    · rw [if_neg c0]
      have hk : high < tN T := by omega
      have il : ib (nI low) 8 := (ib_nI (by omega)).mpr (by omega)
      have im : ib (nI mid) 8 := (ib_nI (by omega)).mpr (by omega)
      have ih' : ib (nI high) 8 := (ib_nI (by omega)).mpr (by omega)
      have om := (hO.2.2.1 mid hm).1
      have oh := (hO.2.2.1 high hk).1
      have q1 : iI (tH T high) ≤ iI (tH T mid) ↔ tH T high ≤ tH T mid := iI_le (by omega) (by omega) (by omega) (by omega)
      simp only [if_pos im, if_pos ih', nI_clamp (show mid < 2 ^ 31 by omega), nI_clamp (show high < 2 ^ 31 by omega), (hX.2.2 mid hm).1, (hX.2.2 high hk).1, (hX.2.2 high hk).2.1, q1, b01_0]
      have skip : ¬ cla T low mid high → ∃ σ' L', f_ve_gather_c3 N m (nI low) (nI mid) (nI high + 1) σ = some σ' ∧ FV σ0 σ' ∧ LX σ' L' ∧ CL T L' (pr3 mid low (tN T)) := fun hn => by
        rw [nI_1]
        refine ih (high + 1) σ L (by omega) (by omega) hF hL (hC.congr (fun i j k hi hj hk' hc => ?_))
        unfold pr3
        constructor
        · rintro (h | ⟨h, h2 | ⟨h2, h3⟩⟩)
          · exact Or.inl h
          · exact Or.inr ⟨h, Or.inl h2⟩
          · exact Or.inr ⟨h, Or.inr ⟨h2, by omega⟩⟩
        · rintro (h | ⟨h, h2 | ⟨h2, h3⟩⟩)
          · exact Or.inl h
          · exact Or.inr ⟨h, Or.inl h2⟩
          · refine Or.inr ⟨h, Or.inr ⟨h2, ?_⟩⟩
            rcases Nat.lt_or_ge k high with h4 | h4
            · exact h4
            · have : k = high := by omega
              subst this; subst h; subst h2
              exact absurd hc hn
      by_cases c1 : tH T high ≤ tH T mid
      · rw [if_pos c1]
        exact skip (fun hc => by have := hc.2.2.2.1; omega)
      · rw [if_neg c1]
        by_cases c2 : tM T high = false
        · rw [if_pos c2, clash_eq hO hX hl hm hk, bind_some]
          by_cases c3 : dnt T low mid high
          · rw [fl_t c3, if_neg (by decide)]
            have hc : cla T low mid high := ⟨hml, c2, hlm, by omega, c3⟩
            have hnp : ¬ pr3 mid low high low mid high := by unfold pr3; omega
            obtain ⟨-, hlen⟩ := hC.new hO hl hm hk hc hnp
            have q2 : ¬ ((56 : Int32) ≤ nI L.length) := by
              rw [show (56 : Int32) = nI 56 from rfl, nI_leI (by omega) (by omega)]; omega
            have i56 : ib (nI L.length) 56 := (ib_nI (by omega)).mpr hlen
            rw [hL.1, if_neg q2, if_pos i56, nm_eq, nm_eq]
            rw [n_sh low (by omega), n_sh mid (by omega), n_sh high (by omega), n_or, n_or, nI_1, nI_clamp (show L.length < 2 ^ 31 by omega)]
            show ∃ σ' L', f_ve_gather_c3 N m (nI low) (nI mid) (nI (high + 1)) (uI (uI σ 11 L.length (nI (mk3 low mid high))) 10 1 ((uI σ 11 L.length (nI (mk3 low mid high))).1 10 1 + 1)) = some σ' ∧ _
            refine ih (high + 1) _ (L ++ [mk3 low mid high]) (by omega) (by omega) ?_ ?_ (hC.add hO hl hm hk hc hnp (fun i' j' k' => ?_))
            · refine ⟨fun p h1 h2 => ?_, by rw [uI_2, uI_2]; exact hF.2⟩
              funext x
              simp only [uI_1, h1, h2, false_and, if_false]
              rw [hF.1 p h1 h2]
            · constructor
              · simp only [uI_1, List.length_append, List.length_singleton]
                simp only [show ¬ ((10 : Nat) = 11) by decide, false_and, if_false, true_and, if_true, hL.1]
                exact nI_1 _
              · intro t ht
                simp only [List.length_append, List.length_singleton] at ht
                simp only [uI_1, show ¬ ((11 : Nat) = 10) by decide, false_and, if_false, true_and]
                by_cases e : t = L.length
                · subst e
                  simp
                · rw [if_neg e, hL.2 t (by omega)]
                  congr 1
                  simp [List.getD_eq_getElem?_getD, List.getElem?_append_left (show t < L.length by omega)]
            · unfold pr3
              omega
          · rw [fl_f c3, if_pos rfl]
            exact skip (fun hc => c3 hc.2.2.2.2)
        · rw [if_neg c2]
          exact skip (fun hc => c2 hc.2.1)
