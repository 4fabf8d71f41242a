/-! REPORT in the model -/
def NS (s : PS) (σ : Sg) : Prop := σ.1 20 11 = nI (pW s) ∧ σ.1 20 15 = b01 (pX s) ∧ ∀ j, j ≤ pW s → σ.1 27 j = iI (sgn s j)
theorem sgn_3z {s : PS} (h : PI s) (hw : pW s ≠ 3) : sgn s 3 = 0 := by
  unfold sgn
  rw [if_neg (fun z => hw z.1.symm)]
  exact h.2.2.2.1 3 (by have := h.1; omega)
def snd2 (s : PS) : Prop := pX s = true ∨ sgn s 1 + 2 * sgn s 3 < sgn s 2
theorem m_c91 {T : TS} {s : PS} {σ : Sg} (hO : Ok T) (hR : RM T σ) {N : Nat} (hN : 600 ≤ N) (hP : PI s) (hw : pX s = true ∨ 2 ≤ pW s) (h : NS s σ) : f_mo_isReport_c91 N (iI (sgn s 3)) σ = some (fl (fnd T (iI (sgn s 0)) = none ∧ snd2 s), σ) := by
  have h8 := hO.1
  unfold f_mo_isReport_c91
  rw [h.2.2 0 (by omega), m_find hO hR hN, bind_some]
  cases hf : fnd T (iI (sgn s 0)) with
  | some k =>
    have hk := fnd_lt hO hf
    show (if nI k = -100000001 then _ else _) = _
    rw [if_neg (fun z => (nlt0 (k := k) (by omega)) (by rw [z]; decide)), fl_f (fun z => (nomatch z.1))]
  | none =>
    show (if (-100000001 : Int32) = -100000001 then _ else _) = _
    rw [if_pos rfl, h.2.1]
    by_cases c : pX s = true
    · rw [if_neg (fun z => by rw [b01_0, c] at z; cases z), fl_t ⟨rfl, Or.inl c⟩]
    · rw [if_pos ((b01_0 _).mpr (by simpa using c))]
      have w2 := hw.resolve_left c
      have l1 := sgn_l hP 1
      have l2 := sgn_l hP 2
      have l3 := sgn_l hP 3
      have e1 : lmt 1 = 500 := rfl
      have e2 : lmt 2 = 500 := rfl
      have e3 : lmt 3 = 20 := rfl
      rw [h.2.2 1 (by omega), h.2.2 2 (by omega), show (2 : Int32) = iI 2 from rfl, iI_mul, iI_add]
      have q : iI (sgn s 2) ≤ iI (sgn s 1 + 2 * sgn s 3) ↔ sgn s 2 ≤ sgn s 1 + 2 * sgn s 3 := iI_le (by omega) (by omega) (by omega) (by omega)
      by_cases d : sgn s 2 ≤ sgn s 1 + 2 * sgn s 3
      · rw [if_pos (q.mpr d), fl_f (fun z => z.2.elim c (fun y => by omega))]
      · rw [if_neg (fun z => d (q.mp z)), fl_t ⟨rfl, Or.inr (by omega)⟩]
theorem m_c35 {T : TS} {s : PS} {σ : Sg} (hO : Ok T) (hR : RM T σ) {N : Nat} (hN : 600 ≤ N) (hP : PI s) (hw : pX s = true ∨ 2 ≤ pW s) (h : MS s σ) : ∃ σ', f_mo_isReport_c35 N σ = some (fl (fnd T (iI (sgn s 0)) = none ∧ snd2 s), σ') ∧ FMb σ σ' ∧ NS s σ' := by
  obtain ⟨k1, k2, k3, k4, k5⟩ := h
  have h3 := hP.1
  have iw : ib (nI (pW s)) 4 := (ib_nI (by omega)).mpr (by omega)
  have cw : (nI (pW s)).toNatClampNeg = pW s := nI_clamp (show pW s < 2 ^ 31 by omega)
  have q3 : nI (pW s) = 3 ↔ pW s = 3 := nI_eq (b := 3) (by omega) (by omega)
  have fin : ∀ x : Int32, x = iI (sgn s (pW s)) → ∃ σ', f_mo_isReport_c72 N (nI (pW s)) x σ = some (fl (fnd T (iI (sgn s 0)) = none ∧ snd2 s), σ') ∧ FMb σ σ' ∧ NS s σ' := fun x ex => by
    unfold f_mo_isReport_c72
    rw [if_pos iw, nm_eq, cw]
    have F : FMb σ (uI σ 27 (pW s) x) := FMb.upI σ _ (Or.inr (by omega))
    have M : NS s (uI σ 27 (pW s) x) := by
      refine ⟨?_, ?_, fun j hj => ?_⟩
      · rw [(uI27 _ _ _ 0).2]; exact k1
      · rw [(uI27 _ _ _ 0).2]; exact k4
      · rw [(uI27 _ _ _ _).1]
        by_cases c : j = pW s
        · rw [if_pos c, ex, c]
        · rw [if_neg c, k5 j hj]
          unfold sgn
          rw [if_neg (fun z => c z.1)]
    have r := m_c91 hO (F.1.rm hR) hN hP hw M
    rw [M.1]
    by_cases c : pW s = 3
    · rw [if_pos (q3.mpr c), M.2.2 3 (by omega), r]
      exact ⟨_, rfl, F, M⟩
    · rw [if_neg (fun z => c (q3.mp z)), show (0 : Int32) = iI (sgn s 3) by rw [sgn_3z hP c]; rfl, r]
      exact ⟨_, rfl, F, M⟩
  unfold f_mo_isReport_c35
  rw [k1, k3, if_pos iw, if_pos iw, cw, k5 _ (Nat.le_refl _)]
  by_cases cg : pG s = true
  · rw [if_neg (fun z => by rw [b01_0, cg] at z; cases z), iI_neg]
    exact fin _ (by unfold sgn; rw [if_pos ⟨rfl, cg⟩])
  · rw [if_pos ((b01_0 _).mpr (by simpa using cg))]
    exact fin _ (by unfold sgn; rw [if_neg (fun z => cg z.2)])
theorem m_isReport {T : TS} {pg : Nat → Int32} {pl : Nat} {σ : Sg} (hO : Ok T) (hR : RM T σ) (hp : PGm pg pl σ) {N : Nat} (hN : 600 ≤ N) : ∃ σ', f_mo_isReport N σ = some (fl (rOk T pg pl), σ') ∧ FMb σ σ' ∧ (rOk T pg pl → NS (rd pg pl).2 σ') := by
  obtain ⟨σ1, e1, F1, M1⟩ := m_read hN hp
  obtain ⟨pi, pd, pk⟩ := rd_pi pg pl
  have hR1 := F1.1.rm hR
  have h24 := hp.1
  have hp1 := (hp.fmc F1.1).2.1
  unfold f_mo_isReport
  rw [e1, bind_some]
  have bad : ¬ rOk T pg pl → ∃ σ', some ((0 : Int32), σ1) = some (fl (rOk T pg pl), σ') ∧ FMb σ σ' ∧ (rOk T pg pl → NS (rd pg pl).2 σ') := fun n => ⟨σ1, by rw [fl_f n], F1, fun y => absurd y n⟩
  show ∃ σ', (if nI (rd pg pl).1 < σ1.1 20 0 then some ((0 : Int32), σ1) else (if σ1.1 20 15 = 0 then (if σ1.1 20 11 < 2 then some ((0 : Int32), σ1) else (if σ1.1 20 13 = 0 then some ((0 : Int32), σ1) else f_mo_isReport_c35 N σ1)) else f_mo_isReport_c35 N σ1)) = _ ∧ _
  have q0 : nI (rd pg pl).1 < nI pl ↔ (rd pg pl).1 < pl := nI_ltI (by omega) (by omega)
  rw [hp1]
  by_cases c0 : (rd pg pl).1 < pl
  · rw [if_pos (q0.mpr c0)]
    exact bad (fun z => by have := z.1; omega)
  · rw [if_neg (fun z => c0 (q0.mp z)), M1.2.2.2.1, M1.1, M1.2.1]
    have w3 := pi.1
    have go : (pX (rd pg pl).2 = true ∨ (2 ≤ pW (rd pg pl).2 ∧ 0 < pD (rd pg pl).2)) → ∃ σ', f_mo_isReport_c35 N σ1 = some (fl (rOk T pg pl), σ') ∧ FMb σ σ' ∧ (rOk T pg pl → NS (rd pg pl).2 σ') := fun y => by
      obtain ⟨σ2, e2, F2, N2⟩ := m_c35 hO hR1 hN pi (y.elim Or.inl (fun z => Or.inr z.1)) M1
      refine ⟨σ2, ?_, F1.tr F2, fun _ => N2⟩
      rw [e2]
      congr 2
      refine fl_c ⟨fun z => ⟨by omega, ?_, z.1⟩, fun z => ⟨z.2.2, z.2.1.elim Or.inl (fun v => Or.inr v.2)⟩⟩
      rcases y with y | y
      · exact Or.inl y
      · exact z.2.elim Or.inl (fun v => Or.inr ⟨y, v⟩)
    by_cases cx : pX (rd pg pl).2 = true
    · rw [if_neg (fun z => by rw [b01_0, cx] at z; cases z)]
      exact go (Or.inl cx)
    · rw [if_pos ((b01_0 _).mpr (by simpa using cx))]
      have q2 : nI (pW (rd pg pl).2) < 2 ↔ pW (rd pg pl).2 < 2 := nI_ltI (b := 2) (by omega) (by omega)
      have qd : nI (pD (rd pg pl).2) = 0 ↔ pD (rd pg pl).2 = 0 := nD0 (by omega)
      by_cases c2 : pW (rd pg pl).2 < 2
      · rw [if_pos (q2.mpr c2)]
        exact bad (fun z => z.2.1.elim cx (fun v => by omega))
      · rw [if_neg (fun z => c2 (q2.mp z))]
        by_cases c3 : pD (rd pg pl).2 = 0
        · rw [if_pos (qd.mpr c3)]
          exact bad (fun z => z.2.1.elim cx (fun v => by omega))
        · rw [if_neg (fun z => c3 (qd.mp z))]
          exact go (Or.inr ⟨by omega, by omega⟩)
def md5 (σ : Sg) (n : Nat) (a b c d e ca : Int32) : Sg := uI (uI (uI (uI (uI (uI (uI (uI σ 22 n a) 23 n b) 24 n c) 25 n d) 26 n e) 20 2 (nI (n + 1))) 20 9 (ca + 1)) 20 0 0
theorem uI_ne {p q : Nat} (σ : Sg) (k : Nat) (x : Int32) (h : q ≠ p) : (uI σ p k x).1 q = σ.1 q := by funext j; rw [uI_1, if_neg (fun z => h z.1)]
theorem m_put {s : PS} {σ : Sg} {n : Nat} {ca : Int32} (hn : n < 8) (hP : PI s) (hw : pX s = true ∨ 2 ≤ pW s) (h : NS s σ) (h2 : σ.1 20 2 = nI n) (h9 : σ.1 20 9 = ca) (N : Nat) : (if ib (σ.1 20 2) 8 then nm (uI σ 22 (σ.1 20 2).toNatClampNeg (σ.1 27 0)) fun σ3 => if ib (σ3.1 20 2) 8 then nm (uI σ3 23 (σ3.1 20 2).toNatClampNeg ((σ3.1 20 15) &&& 1)) fun σ5 => if (σ5.1 20 15) = 0 then (f_mo_report_c75 N (σ5.1 20 2) (σ5.1 27 1) σ5) else (f_mo_report_c75 N (σ5.1 20 2) 0 σ5) else none else none) = some (nI n, md5 σ n (iI (sgn s 0)) (b01 (pX s)) (iI (sgn s 1)) (iI (sgn s 2)) (iI (sgn s 3)) ca) := by
  have ib8 : ib (nI n) 8 := (ib_nI (by omega)).mpr (by omega)
  have cn : (nI n).toNatClampNeg = n := nI_clamp (show n < 2 ^ 31 by omega)
  have w3 := hP.1
  have g22 : ∀ (a : Sg) (x : Int32) (q : Nat), q ≠ 22 → (uI a 22 n x).1 q = a.1 q := fun a x q hq => uI_ne a n x hq
  rw [h2, if_pos ib8, nm_eq, cn, h.2.2 0 (by omega)]
  rw [uI_ne _ _ _ (show (20 : Nat) ≠ 22 by decide), h2, if_pos ib8, nm_eq, cn, h.2.1, b01_and]
  rw [uI_ne _ _ _ (show (20 : Nat) ≠ 23 by decide), uI_ne _ _ _ (show (20 : Nat) ≠ 22 by decide), uI_ne _ _ _ (show (27 : Nat) ≠ 23 by decide), uI_ne _ _ _ (show (27 : Nat) ≠ 22 by decide), h.2.1, h2]
  have s75 : ∀ x : Int32, x = iI (sgn s 1) → f_mo_report_c75 N (nI n) x (uI (uI σ 22 n (iI (sgn s 0))) 23 n (b01 (pX s))) = some (nI n, md5 σ n (iI (sgn s 0)) (b01 (pX s)) (iI (sgn s 1)) (iI (sgn s 2)) (iI (sgn s 3)) ca) := fun x ex => by
    unfold f_mo_report_c75
    rw [if_pos ib8, nm_eq, cn, ex]
    rw [uI_ne _ _ _ (show (20 : Nat) ≠ 24 by decide), uI_ne _ _ _ (show (20 : Nat) ≠ 23 by decide), uI_ne _ _ _ (show (20 : Nat) ≠ 22 by decide), uI_ne _ _ _ (show (27 : Nat) ≠ 24 by decide), uI_ne _ _ _ (show (27 : Nat) ≠ 23 by decide), uI_ne _ _ _ (show (27 : Nat) ≠ 22 by decide), h.2.1, h2]
    have s101 : ∀ x : Int32, x = iI (sgn s 2) → f_mo_report_c101 N (nI n) x (uI (uI (uI σ 22 n (iI (sgn s 0))) 23 n (b01 (pX s))) 24 n (iI (sgn s 1))) = some (nI n, md5 σ n (iI (sgn s 0)) (b01 (pX s)) (iI (sgn s 1)) (iI (sgn s 2)) (iI (sgn s 3)) ca) := fun x ex => by
      unfold f_mo_report_c101
      rw [if_pos ib8, nm_eq, cn, ex]
      rw [uI_ne _ _ _ (show (20 : Nat) ≠ 25 by decide), uI_ne _ _ _ (show (20 : Nat) ≠ 24 by decide), uI_ne _ _ _ (show (20 : Nat) ≠ 23 by decide), uI_ne _ _ _ (show (20 : Nat) ≠ 22 by decide), uI_ne _ _ _ (show (27 : Nat) ≠ 25 by decide), uI_ne _ _ _ (show (27 : Nat) ≠ 24 by decide), uI_ne _ _ _ (show (27 : Nat) ≠ 23 by decide), uI_ne _ _ _ (show (27 : Nat) ≠ 22 by decide), h.2.1, h2, h.1]
      have s135 : ∀ x : Int32, x = iI (sgn s 3) → f_mo_report_c135 N (nI n) x (uI (uI (uI (uI σ 22 n (iI (sgn s 0))) 23 n (b01 (pX s))) 24 n (iI (sgn s 1))) 25 n (iI (sgn s 2))) = some (nI n, md5 σ n (iI (sgn s 0)) (b01 (pX s)) (iI (sgn s 1)) (iI (sgn s 2)) (iI (sgn s 3)) ca) := fun x ex => by
        unfold f_mo_report_c135
        rw [if_pos ib8, nm_eq, cn, ex]
        rw [uI_ne _ _ _ (show (20 : Nat) ≠ 26 by decide), uI_ne _ _ _ (show (20 : Nat) ≠ 25 by decide), uI_ne _ _ _ (show (20 : Nat) ≠ 24 by decide), uI_ne _ _ _ (show (20 : Nat) ≠ 23 by decide), uI_ne _ _ _ (show (20 : Nat) ≠ 22 by decide), h2, nI_1, nm_eq, nm_eq, nm_eq]
        have t9 : (uI (uI (uI (uI (uI (uI σ 22 n (iI (sgn s 0))) 23 n (b01 (pX s))) 24 n (iI (sgn s 1))) 25 n (iI (sgn s 2))) 26 n (iI (sgn s 3))) 20 2 (nI (n + 1))).1 20 9 = ca := by
          rw [uI_1, if_neg (by omega), uI_ne _ _ _ (show (20 : Nat) ≠ 26 by decide), uI_ne _ _ _ (show (20 : Nat) ≠ 25 by decide), uI_ne _ _ _ (show (20 : Nat) ≠ 24 by decide), uI_ne _ _ _ (show (20 : Nat) ≠ 23 by decide), uI_ne _ _ _ (show (20 : Nat) ≠ 22 by decide), h9]
        rw [t9]
        have t2 : (uI (uI (uI (uI (uI (uI (uI (uI σ 22 n (iI (sgn s 0))) 23 n (b01 (pX s))) 24 n (iI (sgn s 1))) 25 n (iI (sgn s 2))) 26 n (iI (sgn s 3))) 20 2 (nI (n + 1))) 20 9 (ca + 1)) 20 0 0).1 20 2 = nI (n + 1) := by
          rw [uI_1, if_neg (by omega), uI_1, if_neg (by omega), uI_1, if_pos ⟨rfl, rfl⟩]
        rw [t2, show (1 : Int32) = nI 1 from rfl, pk_sub (by omega)]
        rfl
      by_cases c : pX s = true
      · rw [if_neg (fun z => by rw [b01_0, c] at z; cases z)]
        unfold f_mo_report_c134
        exact s135 0 (by rw [sgn_x hP c (by omega)]; rfl)
      · rw [if_pos ((b01_0 _).mpr (by simpa using c))]
        have q3 : nI (pW s) = 3 ↔ pW s = 3 := nI_eq (b := 3) (by omega) (by omega)
        by_cases d : pW s = 3
        · rw [if_pos (q3.mpr d)]
          exact s135 _ (h.2.2 3 (by omega))
        · rw [if_neg (fun z => d (q3.mp z))]
          unfold f_mo_report_c134
          exact s135 0 (by rw [sgn_3z hP d]; rfl)
    by_cases c : pX s = true
    · rw [if_neg (fun z => by rw [b01_0, c] at z; cases z)]
      exact s101 0 (by rw [sgn_x hP c (by omega)]; rfl)
    · rw [if_pos ((b01_0 _).mpr (by simpa using c))]
      have w2 := hw.resolve_left c
      exact s101 _ (h.2.2 2 (by omega))
  by_cases c : pX s = true
  · rw [if_neg (fun z => by rw [b01_0, c] at z; cases z)]
    exact s75 0 (by rw [sgn_x hP c (by omega)]; rfl)
  · rw [if_pos ((b01_0 _).mpr (by simpa using c))]
    have w2 := hw.resolve_left c
    exact s75 _ (h.2.2 1 (by omega))
theorem m_report {T : TS} {pg : Nat → Int32} {pl : Nat} {ca we : Int32} {σ : Sg} (hO : Ok T) (h : MI T pg pl ca we σ) {N : Nat} (hN : 600 ≤ N) : ∃ σ', f_mo_report N σ = some (repR T pg pl, σ') ∧ FL σ σ' ∧ MI (repT T pg pl) pg (repL T pg pl) (repC T pg pl ca) we σ' := by
  obtain ⟨σ1, e1, F1, N1⟩ := m_isReport hO h.1 h.2.1 hN
  obtain ⟨pi, pd, pk⟩ := rd_pi pg pl
  have h1 := h.fmc F1.1
  obtain ⟨hR, ⟨h24, hp, hg⟩, h9, h10⟩ := id h1
  have h8 := hO.1
  have e10 : ¬ ((1 : Int32) = 0) := by decide
  unfold f_mo_report
  rw [e1, bind_some]
  by_cases good : rOk T pg pl
  · show ∃ σ', (if fl (rOk T pg pl) = 0 then some ((-100000004 : Int32), σ1) else (if σ1.1 20 2 = 8 then some ((-100000005 : Int32), σ1) else (if ib (σ1.1 20 2) 8 then nm (uI σ1 22 (σ1.1 20 2).toNatClampNeg (σ1.1 27 0)) fun σ3 => if ib (σ3.1 20 2) 8 then nm (uI σ3 23 (σ3.1 20 2).toNatClampNeg ((σ3.1 20 15) &&& 1)) fun σ5 => if (σ5.1 20 15) = 0 then (f_mo_report_c75 N (σ5.1 20 2) (σ5.1 27 1) σ5) else (f_mo_report_c75 N (σ5.1 20 2) 0 σ5) else none else none))) = some (repR T pg pl, σ') ∧ FL σ σ' ∧ MI (repT T pg pl) pg (repL T pg pl) (repC T pg pl ca) we σ'
    have q8 : nI (tN T) = 8 ↔ tN T = 8 := nI_eq (b := 8) (by omega) (by omega)
    rw [fl_t good, if_neg e10]
    by_cases c3 : tN T = 8
    · rw [hR.1, if_pos (q8.mpr c3)]
      unfold repR repT repL repC
      rw [fl_t good, if_neg e10, if_pos c3, fl_f (p := rOk2 T pg pl) (fun z => z.2 c3), if_pos rfl, if_pos rfl, if_pos rfl]
      exact ⟨σ1, rfl, F1.1.fl, h1⟩
    · rw [show (if σ1.1 20 2 = 8 then some ((-100000005 : Int32), σ1) else (if ib (σ1.1 20 2) 8 then nm (uI σ1 22 (σ1.1 20 2).toNatClampNeg (σ1.1 27 0)) fun σ3 => if ib (σ3.1 20 2) 8 then nm (uI σ3 23 (σ3.1 20 2).toNatClampNeg ((σ3.1 20 15) &&& 1)) fun σ5 => if (σ5.1 20 15) = 0 then (f_mo_report_c75 N (σ5.1 20 2) (σ5.1 27 1) σ5) else (f_mo_report_c75 N (σ5.1 20 2) 0 σ5) else none else none)) = _ from if_neg (fun z => c3 (by rw [hR.1] at z; exact q8.mp z))]
      rw [m_put (n := tN T) (by omega) pi (good.2.1.elim Or.inl (fun v => Or.inr v.1.1)) (N1 good) hR.1 h9]
      unfold repR repT repL repC
      rw [fl_t good, if_neg e10, if_neg c3, fl_t (p := rOk2 T pg pl) ⟨good, c3⟩, if_neg e10, if_neg e10, if_neg e10]
      refine ⟨_, rfl, F1.1.fl.tr ?_, ⟨?_, ?_, fun k hk => ?_⟩, ⟨by omega, ?_, fun k hk => by omega⟩, ?_, ?_⟩
      · unfold md5
        exact (((((((FL.upI σ1 _ _ (by omega)).tr (FL.upI _ _ _ (by omega))).tr (FL.upI _ _ _ (by omega))).tr (FL.upI _ _ _ (by omega))).tr (FL.upI _ _ _ (by omega))).tr (FL.upI _ _ _ (by omega))).tr (FL.upI _ _ _ (by omega))).tr (FL.upI _ _ _ (by omega))
      · unfold md5; simp [uI_1]; rfl
      · unfold md5; simp [uI_1]; exact hR.2.1
      · have hk' : k < tN T + 1 := hk
        show _ = iI (if k = tN T then sgn (rd pg pl).2 0 else tH T k) ∧ _ = b01 (if k = tN T then pX (rd pg pl).2 else tM T k) ∧ _ = iI (if k = tN T then sgn (rd pg pl).2 1 else tG T k) ∧ _ = iI (if k = tN T then sgn (rd pg pl).2 2 else tB T k) ∧ _ = iI (if k = tN T then sgn (rd pg pl).2 3 else tE T k)
        have z5 : (md5 σ1 (tN T) (iI (sgn (rd pg pl).2 0)) (b01 (pX (rd pg pl).2)) (iI (sgn (rd pg pl).2 1)) (iI (sgn (rd pg pl).2 2)) (iI (sgn (rd pg pl).2 3)) ca).1 22 k = if k = tN T then iI (sgn (rd pg pl).2 0) else σ1.1 22 k := by unfold md5; simp [uI_1]
        have z6 : (md5 σ1 (tN T) (iI (sgn (rd pg pl).2 0)) (b01 (pX (rd pg pl).2)) (iI (sgn (rd pg pl).2 1)) (iI (sgn (rd pg pl).2 2)) (iI (sgn (rd pg pl).2 3)) ca).1 23 k = if k = tN T then b01 (pX (rd pg pl).2) else σ1.1 23 k := by unfold md5; simp [uI_1]
        have z7 : (md5 σ1 (tN T) (iI (sgn (rd pg pl).2 0)) (b01 (pX (rd pg pl).2)) (iI (sgn (rd pg pl).2 1)) (iI (sgn (rd pg pl).2 2)) (iI (sgn (rd pg pl).2 3)) ca).1 24 k = if k = tN T then iI (sgn (rd pg pl).2 1) else σ1.1 24 k := by unfold md5; simp [uI_1]
        have z8 : (md5 σ1 (tN T) (iI (sgn (rd pg pl).2 0)) (b01 (pX (rd pg pl).2)) (iI (sgn (rd pg pl).2 1)) (iI (sgn (rd pg pl).2 2)) (iI (sgn (rd pg pl).2 3)) ca).1 25 k = if k = tN T then iI (sgn (rd pg pl).2 2) else σ1.1 25 k := by unfold md5; simp [uI_1]
        have z9 : (md5 σ1 (tN T) (iI (sgn (rd pg pl).2 0)) (b01 (pX (rd pg pl).2)) (iI (sgn (rd pg pl).2 1)) (iI (sgn (rd pg pl).2 2)) (iI (sgn (rd pg pl).2 3)) ca).1 26 k = if k = tN T then iI (sgn (rd pg pl).2 3) else σ1.1 26 k := by unfold md5; simp [uI_1]
        rw [z5, z6, z7, z8, z9]
        by_cases c : k = tN T
        · simp only [if_pos c, and_self]
        · simp only [if_neg c]
          exact hR.2.2 k (by omega)
      · unfold md5; simp [uI_1]; rfl
      · unfold md5; simp [uI_1]
      · unfold md5; simp [uI_1]; exact h10
  · unfold repR repT repL repC
    rw [fl_f good, fl_f (p := rOk2 T pg pl) (fun z => good z.1), if_pos rfl, if_pos rfl, if_pos rfl, if_pos rfl]
    exact ⟨σ1, rfl, F1.1.fl, h1⟩
