/-! THE LAW'S LOOP -/
def INV (σ : Sg) : Prop := ∃ T pg pl ca we, XI T pg pl ca we σ ∧ MI T pg pl ca we σ
theorem inv_0 : INV sg0 := by
  refine ⟨(0, fun _ => 0, fun _ => false, fun _ => 0, fun _ => 0, fun _ => 0, 10), fun _ => 0, 0, 0, 0, ⟨⟨?_, ?_, ?_, ?_⟩, ⟨by omega, rfl, fun k hk => by omega⟩, rfl, rfl⟩, ⟨rfl, rfl, fun k hk => absurd hk (Nat.not_lt_zero k)⟩, ⟨by omega, rfl, fun k hk => by omega⟩, rfl, rfl⟩
  · refine ⟨Nat.zero_le 8, ⟨?_, ?_⟩, fun k hk => absurd hk (Nat.not_lt_zero k), fun j k hj => absurd hj (Nat.not_lt_zero j)⟩
    · show (1 : Int) ≤ 10; decide
    · show (10 : Int) ≤ 20; decide
  · exact ⟨rfl, rfl, fun k hk => absurd hk (Nat.not_lt_zero k)⟩
  · have := wr_lt (T := (0, fun _ => 0, fun _ => false, fun _ => 0, fun _ => 0, fun _ => 0, 10))
    have e : wr (0, fun _ => 0, fun _ => false, fun _ => 0, fun _ => 0, fun _ => 0, 10) = 0 := Nat.lt_one_iff.mp this
    rw [e]; rfl
  · have e : cN (PL (0, fun _ => 0, fun _ => false, fun _ => 0, fun _ => 0, fun _ => 0, 10)) = 0 := cN_0 rfl
    rw [e]
    exact ⟨rfl, fun j hj => absurd hj (Nat.not_lt_zero j)⟩
theorem pure_step {N L : Nat} (hN : 600 ≤ N) (hL : L ≤ 2048) (xs : Nat → Int32) (kc : Int32 → Sg → Option Int32) {i : Nat} {σ : Sg} (hi : i + 4 ≤ L) (h : INV σ) (hk : ∀ σ', INV σ' → kc (nI (i + 4)) σ' = some 1) : f_law_c18_s N L xs kc (nI i) σ = some 1 := by
  obtain ⟨T, pg, pl, ca, we, hX, hM⟩ := h
  have hq := hX.1
  have hO := hq.1
  have hR := hq.2.1
  have hR2 := hM.1
  have b0 : ib (nI i) L := (ib_nI (by omega)).mpr (by omega)
  have b1 : ib (nI (i + 1)) L := (ib_nI (by omega)).mpr (by omega)
  have b2 : ib (nI (i + 2)) L := (ib_nI (by omega)).mpr (by omega)
  have b3 : ib (nI (i + 3)) L := (ib_nI (by omega)).mpr (by omega)
  have a1 : nI i + 1 = nI (i + 1) := nI_1 i
  have a2 : nI i + 2 = nI (i + 2) := nI_add i 2
  have a3 : nI i + 3 = nI (i + 3) := nI_add i 3
  have a4 : nI i + 4 = nI (i + 4) := nI_add i 4
  have same : ∀ τ, XI T pg pl ca we τ → MI T pg pl ca we τ → kc (nI (i + 4)) τ = some 1 := fun τ h1 h2 => hk τ ⟨T, pg, pl, ca, we, h1, h2⟩
  have qe : ¬ (nI L - 4 < nI i) := by
    have e : nI L - 4 = nI (L - 4) := pk_sub (b := 4) (by omega)
    rw [e]
    exact fun z => by have := (nI_ltI (by omega) (by omega)).mp z; omega
  unfold f_law_c18_s
  rw [show (Int32.ofNat L - 4 : Int32) = nI L - 4 from rfl, if_neg qe, if_pos b0, a1, a2, a3, a4]
  generalize hc : (xs (nI i).toNatClampNeg) &&& 31 = c
  generalize xs (nI (i + 1)).toNatClampNeg = x
  generalize xs (nI (i + 2)).toNatClampNeg = y
  generalize xs (nI (i + 3)).toNatClampNeg = z
  by_cases c0 : c = 0
  · rw [if_pos c0]
    obtain ⟨σ1, e1, F1, X1⟩ := x_letter hX x
    obtain ⟨σ2, e2, F2, M2⟩ := m_letter (hM.fx F1) x
    rw [if_pos b1, e1, bind_some, e2, bind_some, if_pos rfl]
    exact hk σ2 ⟨_, _, _, _, _, X1.fl F2, M2⟩
  rw [if_neg c0]
  by_cases c1 : c = 1
  · rw [if_pos c1]
    obtain ⟨σ1, e1, F1, X1⟩ := x_blank hX
    obtain ⟨σ2, e2, F2, M2⟩ := m_blank (hM.fx F1)
    rw [nm_eq, e1, nm_eq, e2, if_pos rfl]
    exact hk σ2 ⟨_, _, _, _, _, X1.fl F2, M2⟩
  rw [if_neg c1]
  by_cases c2 : c = 2
  · rw [if_pos c2]
    obtain ⟨σ1, e1, F1⟩ := x_fault hN hX.2.1
    obtain ⟨σ2, e2, F2⟩ := m_fault hN (hM.fx F1.fx).2.1
    rw [e1, bind_some, e2, bind_some, if_pos rfl]
    exact same σ2 ((hX.f23 F1).fl F2.1.fl) ((hM.fx F1.fx).fmc F2.1)
  rw [if_neg c2]
  by_cases c3 : c = 3
  · rw [if_pos c3]
    obtain ⟨σ1, e1, F1, X1⟩ := x_report hX hN
    obtain ⟨σ2, e2, F2, M2⟩ := m_report hO (hM.fx F1) hN
    rw [e1, bind_some, e2, bind_some, if_pos rfl]
    exact hk σ2 ⟨_, _, _, _, _, X1.fl F2, M2⟩
  rw [if_neg c3]
  by_cases c4 : c = 4
  · rw [if_pos c4]
    obtain ⟨σ1, e1, F1, X1⟩ := x_drop hX hN x
    obtain ⟨σ2, e2, F2, M2⟩ := m_drop hO (hM.fx F1) hN x
    rw [if_pos b1, e1, bind_some, e2, bind_some, if_pos rfl]
    exact hk σ2 ⟨_, _, _, _, _, X1.fl F2, M2⟩
  rw [if_neg c4]
  by_cases c5 : c = 5
  · rw [if_pos c5]
    obtain ⟨σ1, e1, F1, X1⟩ := x_error hX hN x y
    obtain ⟨σ2, e2, F2, M2⟩ := m_error hO (hM.fx F1) x y
    rw [if_pos b1, if_pos b2, e1, bind_some, e2, bind_some, if_pos rfl]
    exact hk σ2 ⟨_, _, _, _, _, X1.fl F2, M2⟩
  rw [if_neg c5]
  by_cases c6 : c = 6
  · rw [if_pos c6]
    obtain ⟨σ1, e1, F1, X1⟩ := x_speed hX hN x
    obtain ⟨σ2, e2, F2, M2⟩ := m_speed (hM.fx F1) x
    rw [if_pos b1, e1, bind_some, nm_eq, e2, if_pos rfl]
    exact hk σ2 ⟨_, _, _, _, _, X1.fl F2, M2⟩
  rw [if_neg c6]
  by_cases c7 : c = 7
  · rw [if_pos c7]
    rw [if_pos b1, if_pos b2, x_station hO hR, bind_some, m_station hO hR2, bind_some, if_pos rfl]
    exact same σ hX hM
  rw [if_neg c7]
  by_cases c8 : c = 8
  · rw [if_pos c8]
    rw [if_pos b1, x_at hO hR hN, bind_some, m_at hO hR2 hN, bind_some, if_pos rfl]
    exact same σ hX hM
  rw [if_neg c8]
  by_cases c9 : c = 9
  · rw [if_pos c9]
    rw [m_fits hO hR2 hN, bind_some, if_pos (x_fits hq)]
    exact same σ hX hM
  rw [if_neg c9]
  by_cases c10 : c = 10
  · rw [if_pos c10]
    rw [m_wrong hO hR2 hN, bind_some, if_pos (show f_ss_wrong σ = nI (wr T) from hq.2.2.1)]
    exact same σ hX hM
  rw [if_neg c10]
  by_cases c11 : c = 11
  · rw [if_pos c11]
    obtain ⟨σ2, e2, F2⟩ := m_kern hO hR2 hN x
    rw [if_pos b1, x_kern hq hN, bind_some, e2, bind_some, if_pos rfl]
    exact same σ2 (hX.fl F2.1.fl) (hM.fmc F2.1)
  rw [if_neg c11]
  by_cases c12 : c = 12
  · rw [if_pos c12]
    obtain ⟨σ2, e2, F2⟩ := m_corner hO hR2 hN x y
    rw [if_pos b1, if_pos b2, x_corner hq, bind_some, e2, bind_some, if_pos rfl]
    exact same σ2 (hX.fl F2.1.fl) (hM.fmc F2.1)
  rw [if_neg c12]
  by_cases c13 : c = 13
  · rw [if_pos c13]
    obtain ⟨σ1, e1, F1⟩ := x_holds hq hN x y z
    obtain ⟨σ2, e2, F2⟩ := m_holds hO (hM.fx F1.fx).1 hN x y z
    rw [if_pos b1, if_pos b2, if_pos b3, e1, bind_some, e2, bind_some, if_pos rfl]
    exact same σ2 ((hX.fsp F1).fl F2.1.fl) ((hM.fx F1.fx).fmc F2.1)
  rw [if_neg c13]
  by_cases c14 : c = 14
  · rw [if_pos c14]
    obtain ⟨σ1, e1, F1⟩ := x_reach hq hN x y z
    obtain ⟨σ2, e2, F2⟩ := m_reach hO (hM.fx F1.fx).1 hN x y z
    rw [if_pos b1, if_pos b2, if_pos b3, e1, bind_some, e2, bind_some, if_pos rfl]
    exact same σ2 ((hX.fsp F1).fl F2.1.fl) ((hM.fx F1.fx).fmc F2.1)
  rw [if_neg c14]
  by_cases c15 : c = 15
  · rw [if_pos c15]
    obtain ⟨σ1, e1, F1⟩ := x_lasts hq hN x y
    obtain ⟨σ2, e2, F2⟩ := m_lasts hO (hM.fx F1.fx).1 hN x y
    rw [if_pos b1, if_pos b2, e1, bind_some, e2, bind_some, if_pos rfl]
    exact same σ2 ((hX.fsp F1).fl F2.1.fl) ((hM.fx F1.fx).fmc F2.1)
  rw [if_neg c15]
  by_cases c16 : c = 16
  · rw [if_pos c16]
    rw [if_pos b1, x_count hO hR hN x hX.2.1.2.1, bind_some, m_count hO hR2 hN x hM.2.1.2.1, bind_some, hX.2.2.1, hX.2.2.2, hM.2.2.1, hM.2.2.2, if_pos rfl]
    exact same σ hX hM
  rw [if_neg c16]
  by_cases c17 : c = 17
  · rw [if_pos c17]
    obtain ⟨σ1, e1, F1⟩ := x_digest hX hN
    obtain ⟨σ2, e2, F2⟩ := m_digest hO (hM.fx F1.fx) hN
    rw [e1, bind_some, e2, bind_some, if_pos rfl]
    exact same σ2 ((hX.fsp F1).fl F2.fl) ((hM.fx F1.fx).fmc F2)
  rw [if_neg c17]
  exact same σ hX hM
theorem pure_loop {N L : Nat} (hN : 600 ≤ N) (hL : L ≤ 2048) (xs : Nat → Int32) : ∀ (n i : Nat) (σ : Sg), i ≤ L + 3 → L + 4 - i < n → INV σ → f_law_c18 N L xs n (nI i) σ = some 1 := by
  intro n
  induction n with
  | zero => intro i σ h1 h2; omega
  | succ n ih =>
    intro i σ hi hn h
    show f_law_c18_s N L xs (f_law_c18 N L xs n) (nI i) σ = some 1
    by_cases c : i + 4 ≤ L
    · exact pure_step hN hL xs _ c h (fun σ' h' => ih (i + 4) σ' (by omega) (by omega) h')
    · unfold f_law_c18_s
      have e : (Int32.ofNat L - 4 : Int32) = iI ((L : Int) - 4) := by
        rw [← iI_sub, iI_nat]; rfl
      have q : iI ((L : Int) - 4) < nI i ↔ (L : Int) - 4 < (i : Int) := by
        rw [← iI_nat]
        exact iI_lt (by omega) (by omega) (by omega) (by omega)
      rw [e, if_pos (q.mpr (by omega))]
theorem pure_main : ∀ (L : Nat), L ≤ 2048 → ∀ xs : Nat → Int32, ∃ N n, f_law_c18 N L xs n 0 sg0 = some 1 := fun L hL xs => ⟨600, L + 5, pure_loop (Nat.le_refl _) hL xs (L + 5) 0 sg0 (by omega) (by omega) inv_0⟩
