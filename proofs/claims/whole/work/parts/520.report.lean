/-! REPORT -/
def upB (f : Nat → Bool) (k : Nat) (x : Bool) : Nat → Bool := fun j => if j = k then x else f j
def adT (T : TS) (s : PS) : TS := (tN T + 1, up1 (tH T) (tN T) (sgn s 0), upB (tM T) (tN T) (pX s), up1 (tG T) (tN T) (sgn s 1), up1 (tB T) (tN T) (sgn s 2), up1 (tE T) (tN T) (sgn s 3), tS T)
theorem sgn_l {s : PS} (h : PI s) (j : Nat) : -(lmt j) ≤ sgn s j ∧ sgn s j ≤ lmt j := by
  by_cases c : j = pW s
  · rw [c]; exact sgn_b h
  · have e : sgn s j = pV s j := by unfold sgn; rw [if_neg (fun z => c z.1)]
    rw [e]
    have lb := lmt_b j
    rcases Nat.lt_or_gt_of_ne c with d | d
    · exact h.2.2.1 j d
    · rw [h.2.2.2.1 j d]; omega
theorem sgn_3 {s : PS} (h : PI s) : 0 ≤ sgn s 3 := by
  unfold sgn
  split
  · rename_i c
    exact absurd c.1.symm (h.2.2.2.2.2.1 c.2)
  · by_cases c : 3 = pW s
    · have := h.2.1.1
      rw [← c] at this
      exact this
    · rw [h.2.2.2.1 3 (by have := h.1; omega)]
      exact Int.le_refl 0
theorem sgn_x {s : PS} (h : PI s) (hx : pX s = true) {j : Nat} (hj : 1 ≤ j) : sgn s j = 0 := by
  obtain ⟨x1, x2, x3⟩ := h.2.2.2.2.2.2 hx
  unfold sgn
  rw [if_neg (fun z => by rw [x3] at z; exact absurd z.2 (by decide))]
  by_cases c : j = pW s
  · rw [c]; exact h.2.2.2.2.1 x2
  · exact h.2.2.2.1 j (by omega)
def snd (s : PS) : Prop := pX s = true ∨ ((2 ≤ pW s ∧ 0 < pD s) ∧ sgn s 1 + 2 * sgn s 3 < sgn s 2)
theorem ok_ad {T : TS} (hO : Ok T) (h8 : tN T ≠ 8) {s : PS} (h : PI s) (hs : snd s) (hf : fnd T (iI (sgn s 0)) = none) : Ok (adT T s) := by
  have l0 := sgn_l h 0
  have l1 := sgn_l h 1
  have l2 := sgn_l h 2
  have l3 := sgn_l h 3
  have p3 := sgn_3 h
  have e0 : lmt 0 = 200 := rfl
  have e1 : lmt 1 = 500 := rfl
  have e2 : lmt 2 = 500 := rfl
  have e3 : lmt 3 = 20 := rfl
  have nf : ∀ j, j < tN T → tH T j ≠ sgn s 0 := fun j hj z => by
    have := fnd_some hO hj (show iI (sgn s 0) = iI (tH T j) by rw [z])
    rw [this] at hf; cases hf
  have n8 := hO.1
  refine ⟨by show tN T + 1 ≤ 8; omega, hO.2.1, fun k hk => ?_, fun j k hj hk => ?_⟩
  · have hk' : k < tN T + 1 := hk
    show (-200 ≤ (if k = tN T then sgn s 0 else tH T k) ∧ (if k = tN T then sgn s 0 else tH T k) ≤ 200) ∧ (-500 ≤ (if k = tN T then sgn s 1 else tG T k) ∧ (if k = tN T then sgn s 1 else tG T k) ≤ 500) ∧ (-500 ≤ (if k = tN T then sgn s 2 else tB T k) ∧ (if k = tN T then sgn s 2 else tB T k) ≤ 500) ∧ (0 ≤ (if k = tN T then sgn s 3 else tE T k) ∧ (if k = tN T then sgn s 3 else tE T k) ≤ 20) ∧ ((if k = tN T then pX s else tM T k) = false → (if k = tN T then sgn s 1 else tG T k) + 2 * (if k = tN T then sgn s 3 else tE T k) < (if k = tN T then sgn s 2 else tB T k))
    by_cases c : k = tN T
    · simp only [if_pos c]
      refine ⟨by omega, by omega, by omega, by omega, fun z => ?_⟩
      rcases hs with x | x
      · rw [z] at x; cases x
      · exact x.2
    · simp only [if_neg c]
      exact hO.2.2.1 k (by omega)
  · have hj' : j < tN T + 1 := hj
    have hk' : k < tN T + 1 := hk
    show (if j = tN T then sgn s 0 else tH T j) = (if k = tN T then sgn s 0 else tH T k) → j = k
    by_cases c : j = tN T
    · by_cases d : k = tN T
      · intro _; omega
      · rw [if_pos c, if_neg d]
        intro z
        exact absurd z.symm (nf k (by omega))
    · by_cases d : k = tN T
      · rw [if_neg c, if_pos d]
        intro z
        exact absurd z (nf j (by omega))
      · rw [if_neg c, if_neg d]
        exact hO.2.2.2 j k (by omega) (by omega)
noncomputable def rOk (T : TS) (pg : Nat → Int32) (pl : Nat) : Prop := (rd pg pl).1 = pl ∧ snd (rd pg pl).2 ∧ fnd T (iI (sgn (rd pg pl).2 0)) = none
noncomputable def rOk2 (T : TS) (pg : Nat → Int32) (pl : Nat) : Prop := rOk T pg pl ∧ tN T ≠ 8
noncomputable def repR (T : TS) (pg : Nat → Int32) (pl : Nat) : Int32 := if fl (rOk T pg pl) = 0 then -100000004 else if tN T = 8 then -100000005 else nI (tN T)
noncomputable def repT (T : TS) (pg : Nat → Int32) (pl : Nat) : TS := if fl (rOk2 T pg pl) = 0 then T else adT T (rd pg pl).2
noncomputable def repL (T : TS) (pg : Nat → Int32) (pl : Nat) : Nat := if fl (rOk2 T pg pl) = 0 then pl else 0
noncomputable def repC (T : TS) (pg : Nat → Int32) (pl : Nat) (ca : Int32) : Int32 := if fl (rOk2 T pg pl) = 0 then ca else ca + 1
theorem x_isMiss {s : PS} {σ : Sg} (hP : PI s) (h : CS s σ) : f_re_isMiss σ = b01 (pX s) := by
  unfold f_re_isMiss
  have hw := hP.1
  rw [h.1]
  by_cases c : pX s = true
  · rw [if_pos c, if_pos rfl, c]; rfl
  · rw [if_neg c, if_neg (fun z => by have := (nI_eq (b := 4) (by omega) (by omega)).mp z; omega), show pX s = false by simpa using c]; rfl
theorem x_isWhole {s : PS} {σ : Sg} (hP : PI s) (hd : pD s ≤ 24) (h : CS s σ) : f_re_isWhole σ = 0 ↔ ¬ (pX s = true ∨ (2 ≤ pW s ∧ 0 < pD s)) := by
  unfold f_re_isWhole
  have hw := hP.1
  rw [x_isMiss hP h]
  by_cases c : pX s = true
  · rw [if_neg (fun z => by rw [b01_0, c] at z; cases z)]
    exact ⟨fun z => absurd z (by decide), fun z => absurd (Or.inl c) z⟩
  · rw [if_pos ((b01_0 _).mpr (by simpa using c)), h.2.1, h.1, if_neg c]
    have qd : nI (pD s) ≤ 0 ↔ pD s = 0 := (nI_leI (b := 0) (by omega) (by omega)).trans (by omega)
    have q2 : nI (pW s) = 2 ↔ pW s = 2 := nI_eq (b := 2) (by omega) (by omega)
    have q3 : nI (pW s) = 3 ↔ pW s = 3 := nI_eq (b := 3) (by omega) (by omega)
    by_cases d : pD s = 0
    · rw [if_pos (qd.mpr d)]
      exact ⟨fun _ z => z.elim c (fun y => by omega), fun _ => rfl⟩
    · rw [if_neg (fun z => d (qd.mp z))]
      by_cases w2 : pW s = 2
      · rw [if_pos (q2.mpr w2)]
        exact ⟨fun z => absurd z (by decide), fun z => absurd (Or.inr ⟨by omega, by omega⟩) z⟩
      · rw [if_neg (fun z => w2 (q2.mp z))]
        by_cases w3 : pW s = 3
        · rw [if_pos (q3.mpr w3)]
          exact ⟨fun z => absurd z (by decide), fun z => absurd (Or.inr ⟨by omega, by omega⟩) z⟩
        · rw [if_neg (fun z => w3 (q3.mp z))]
          exact ⟨fun _ z => z.elim c (fun y => by omega), fun _ => rfl⟩
theorem x_isSound {s : PS} {σ : Sg} (hP : PI s) (h : CS s σ) : f_re_isSound σ = 0 ↔ ¬ (pX s = true ∨ sgn s 1 + 2 * sgn s 3 < sgn s 2) := by
  unfold f_re_isSound
  rw [x_isMiss hP h]
  by_cases c : pX s = true
  · rw [if_neg (fun z => by rw [b01_0, c] at z; cases z)]
    exact ⟨fun z => absurd z (by decide), fun z => absurd (Or.inl c) z⟩
  · rw [if_pos ((b01_0 _).mpr (by simpa using c)), h.2.2.2 1 (by omega), h.2.2.2 2 (by omega), h.2.2.2 3 (by omega)]
    unfold f_ss_isBackGreat
    have l1 := sgn_l hP 1
    have l2 := sgn_l hP 2
    have l3 := sgn_l hP 3
    have e1 : lmt 1 = 500 := rfl
    have e2 : lmt 2 = 500 := rfl
    have e3 : lmt 3 = 20 := rfl
    rw [show (2 : Int32) = iI 2 from rfl, iI_mul, iI_add]
    have q : iI (sgn s 2) ≤ iI (sgn s 1 + 2 * sgn s 3) ↔ sgn s 2 ≤ sgn s 1 + 2 * sgn s 3 := iI_le (by omega) (by omega) (by omega) (by omega)
    by_cases d : sgn s 2 ≤ sgn s 1 + 2 * sgn s 3
    · rw [if_pos (q.mpr d), if_pos rfl]
      exact ⟨fun _ z => z.elim c (fun y => by omega), fun _ => rfl⟩
    · rw [if_neg (fun z => d (q.mp z)), if_neg (by decide)]
      exact ⟨fun z => absurd z (by decide), fun z => absurd (Or.inr (by omega)) z⟩
theorem num_0 (σ : Sg) : f_re_number σ 0 = some (σ.1 3 0) := rfl
theorem num_1 (σ : Sg) : f_re_number σ 1 = some (σ.1 3 1) := rfl
theorem num_2 (σ : Sg) : f_re_number σ 2 = some (σ.1 3 2) := rfl
theorem num_3 (σ : Sg) : f_re_number σ 3 = some (σ.1 3 3) := rfl
def ad5 (σ : Sg) (n : Nat) (a b c d e : Int32) : Sg := uI (uI (uI (uI (uI (uI σ 5 n a) 6 n b) 7 n c) 8 n d) 9 n e) 4 5 (nI (n + 1))
theorem x_add {T : TS} {s : PS} {σ : Sg} (hO : Ok T) (h8 : tN T ≠ 8) (hR : RX T σ) (hP : PI s) (h : CS s σ) : ∃ σ', f_ro_add σ = some σ' ∧ FC σ σ' ∧ RX (adT T s) σ' := by
  have hn8 := hO.1
  have ib8 : ib (nI (tN T)) 8 := (ib_nI (by omega)).mpr (by omega)
  have cn : (nI (tN T)).toNatClampNeg = tN T := nI_clamp (show tN T < 2 ^ 31 by omega)
  have fu : f_ro_isFull σ = 0 := by
    unfold f_ro_isFull
    rw [hR.1, if_pos ((n8 (by omega)).mpr (by omega))]
  have e : f_ro_add σ = some (ad5 σ (tN T) (iI (sgn s 0)) (b01 (pX s)) (iI (sgn s 1)) (iI (sgn s 2)) (iI (sgn s 3))) := by
    unfold f_ro_add
    rw [fu, if_pos rfl, num_0, bind_some, h.2.2.2 0 (by omega), hR.1, if_pos ib8, nm_eq, cn]
    have r1 : (uI σ 5 (tN T) (iI (sgn s 0))).1 4 5 = nI (tN T) := by rw [uI_1, if_neg (by omega), hR.1]
    have r2 : f_re_isMiss (uI σ 5 (tN T) (iI (sgn s 0))) = b01 (pX s) := by
      rw [← x_isMiss hP h]
      unfold f_re_isMiss
      rw [show (uI σ 5 (tN T) (iI (sgn s 0))).1 2 1 = σ.1 2 1 by rw [uI_1, if_neg (by omega)]]
    rw [r1, if_pos ib8, nm_eq, cn, r2, b01_and, num_1, bind_some]
    have r3 : (uI (uI σ 5 (tN T) (iI (sgn s 0))) 6 (tN T) (b01 (pX s))).1 4 5 = nI (tN T) := by rw [uI_1, if_neg (by omega), r1]
    have r4 : (uI (uI σ 5 (tN T) (iI (sgn s 0))) 6 (tN T) (b01 (pX s))).1 3 1 = iI (sgn s 1) := by rw [uI_1, if_neg (by omega), uI_1, if_neg (by omega), h.2.2.2 1 (by omega)]
    rw [r3, r4, if_pos ib8, nm_eq, cn, num_2, bind_some]
    have r5 : (uI (uI (uI σ 5 (tN T) (iI (sgn s 0))) 6 (tN T) (b01 (pX s))) 7 (tN T) (iI (sgn s 1))).1 4 5 = nI (tN T) := by rw [uI_1, if_neg (by omega), r3]
    have r6 : (uI (uI (uI σ 5 (tN T) (iI (sgn s 0))) 6 (tN T) (b01 (pX s))) 7 (tN T) (iI (sgn s 1))).1 3 2 = iI (sgn s 2) := by rw [uI_1, if_neg (by omega), uI_1, if_neg (by omega), uI_1, if_neg (by omega), h.2.2.2 2 (by omega)]
    rw [r5, r6, if_pos ib8, nm_eq, cn, num_3, bind_some]
    have r7 : (uI (uI (uI (uI σ 5 (tN T) (iI (sgn s 0))) 6 (tN T) (b01 (pX s))) 7 (tN T) (iI (sgn s 1))) 8 (tN T) (iI (sgn s 2))).1 4 5 = nI (tN T) := by rw [uI_1, if_neg (by omega), r5]
    have r8 : (uI (uI (uI (uI σ 5 (tN T) (iI (sgn s 0))) 6 (tN T) (b01 (pX s))) 7 (tN T) (iI (sgn s 1))) 8 (tN T) (iI (sgn s 2))).1 3 3 = iI (sgn s 3) := by rw [uI_1, if_neg (by omega), uI_1, if_neg (by omega), uI_1, if_neg (by omega), uI_1, if_neg (by omega), h.2.2.2 3 (by omega)]
    rw [r7, r8, if_pos ib8, nm_eq, cn, nm_eq]
    have r9 : (uI (uI (uI (uI (uI σ 5 (tN T) (iI (sgn s 0))) 6 (tN T) (b01 (pX s))) 7 (tN T) (iI (sgn s 1))) 8 (tN T) (iI (sgn s 2))) 9 (tN T) (iI (sgn s 3))).1 4 5 = nI (tN T) := by rw [uI_1, if_neg (by omega), r7]
    rw [r9, nI_1]
    rfl
  refine ⟨_, e, ?_, ?_⟩
  · unfold ad5
    exact (((((FC.upI σ _ _ (by omega) (by omega)).tr (FC.upI _ _ _ (by omega) (by omega))).tr (FC.upI _ _ _ (by omega) (by omega))).tr (FC.upI _ _ _ (by omega) (by omega))).tr (FC.upI _ _ _ (by omega) (by omega))).tr (FC.upI _ _ _ (by omega) (by omega))
  · refine ⟨?_, ?_, fun k hk => ?_⟩
    · unfold ad5
      rw [uI_1, if_pos ⟨rfl, rfl⟩]; rfl
    · unfold ad5
      simp [uI_1]
      exact hR.2.1
    · have hk' : k < tN T + 1 := hk
      show _ = iI (if k = tN T then sgn s 0 else tH T k) ∧ _ = b01 (if k = tN T then pX s else tM T k) ∧ _ = iI (if k = tN T then sgn s 1 else tG T k) ∧ _ = iI (if k = tN T then sgn s 2 else tB T k) ∧ _ = iI (if k = tN T then sgn s 3 else tE T k)
      have z5 : (ad5 σ (tN T) (iI (sgn s 0)) (b01 (pX s)) (iI (sgn s 1)) (iI (sgn s 2)) (iI (sgn s 3))).1 5 k = if k = tN T then iI (sgn s 0) else σ.1 5 k := by unfold ad5; simp [uI_1]
      have z6 : (ad5 σ (tN T) (iI (sgn s 0)) (b01 (pX s)) (iI (sgn s 1)) (iI (sgn s 2)) (iI (sgn s 3))).1 6 k = if k = tN T then b01 (pX s) else σ.1 6 k := by unfold ad5; simp [uI_1]
      have z7 : (ad5 σ (tN T) (iI (sgn s 0)) (b01 (pX s)) (iI (sgn s 1)) (iI (sgn s 2)) (iI (sgn s 3))).1 7 k = if k = tN T then iI (sgn s 1) else σ.1 7 k := by unfold ad5; simp [uI_1]
      have z8 : (ad5 σ (tN T) (iI (sgn s 0)) (b01 (pX s)) (iI (sgn s 1)) (iI (sgn s 2)) (iI (sgn s 3))).1 8 k = if k = tN T then iI (sgn s 2) else σ.1 8 k := by unfold ad5; simp [uI_1]
      have z9 : (ad5 σ (tN T) (iI (sgn s 0)) (b01 (pX s)) (iI (sgn s 1)) (iI (sgn s 2)) (iI (sgn s 3))).1 9 k = if k = tN T then iI (sgn s 3) else σ.1 9 k := by unfold ad5; simp [uI_1]
      rw [z5, z6, z7, z8, z9]
      by_cases c : k = tN T
      · simp only [if_pos c, and_self]
      · simp only [if_neg c]
        exact hR.2.2 k (by omega)
theorem x_report {T : TS} {pg : Nat → Int32} {pl : Nat} {ca we : Int32} {σ : Sg} (h : XI T pg pl ca we σ) {N : Nat} (hN : 600 ≤ N) : ∃ σ', f_ss_report N σ = some (repR T pg pl, σ') ∧ FX σ σ' ∧ XI (repT T pg pl) pg (repL T pg pl) (repC T pg pl ca) we σ' := by
  obtain ⟨σ1, e1, F1, C1⟩ := x_read hN h.2.1
  have h1 := h.f23 F1
  obtain ⟨pi, pd, pk⟩ := rd_pi pg pl
  obtain ⟨⟨hO, hR, hw, hK⟩, ⟨h24, hp, hg⟩, h7, h8⟩ := id h1
  have e10 : ¬ ((1 : Int32) = 0) := by decide
  have bad : ¬ rOk T pg pl → ∃ σ', some ((-100000004 : Int32), σ1) = some (repR T pg pl, σ') ∧ FX σ σ' ∧ XI (repT T pg pl) pg (repL T pg pl) (repC T pg pl ca) we σ' := fun n => by
    unfold repR repT repL repC
    rw [fl_f n, fl_f (p := rOk2 T pg pl) (fun z => n z.1), if_pos rfl, if_pos rfl, if_pos rfl, if_pos rfl]
    exact ⟨σ1, rfl, F1.fx, h1⟩
  unfold f_ss_report
  rw [e1, bind_some]
  show ∃ σ', (if nI (rd pg pl).1 < σ1.1 0 6 then _ else _) = _ ∧ _
  have q0 : nI (rd pg pl).1 < nI pl ↔ (rd pg pl).1 < pl := nI_ltI (by omega) (by omega)
  rw [hp]
  by_cases c0 : (rd pg pl).1 < pl
  · rw [if_pos (q0.mpr c0)]
    exact bad (fun z => by have := z.1; omega)
  · rw [if_neg (fun z => c0 (q0.mp z))]
    by_cases c1 : pX (rd pg pl).2 = true ∨ (2 ≤ pW (rd pg pl).2 ∧ 0 < pD (rd pg pl).2)
    · rw [if_neg (fun z => (x_isWhole pi (by omega) C1).mp z c1)]
      by_cases c2 : pX (rd pg pl).2 = true ∨ sgn (rd pg pl).2 1 + 2 * sgn (rd pg pl).2 3 < sgn (rd pg pl).2 2
      · rw [if_neg (fun z => (x_isSound pi C1).mp z c2), num_0, bind_some, C1.2.2.2 0 (by omega), x_find hO hR hN, bind_some]
        have sn : snd (rd pg pl).2 := by
          rcases c1 with x | x
          · exact Or.inl x
          · rcases c2 with y | y
            · exact Or.inl y
            · exact Or.inr ⟨x, y⟩
        cases hf : fnd T (iI (sgn (rd pg pl).2 0)) with
        | some k =>
          have hk := fnd_lt hO hf
          have hk8 := hO.1
          show ∃ σ', (if nI k < 0 then _ else _) = _ ∧ _
          rw [if_neg (nlt0 (by omega))]
          exact bad (fun z => by have := z.2.2; rw [hf] at this; cases this)
        | none =>
          have good : rOk T pg pl := ⟨by omega, sn, hf⟩
          show ∃ σ', (if (-1 : Int32) < 0 then _ else _) = _ ∧ _
          rw [if_pos (show (-1 : Int32) < 0 by decide)]
          have n8 := hO.1
          have q8 : nI (tN T) < 8 ↔ tN T < 8 := nI_ltI (b := 8) (by omega) (by omega)
          by_cases c3 : tN T = 8
          · have fu : f_ro_isFull σ1 = 1 := by
              unfold f_ro_isFull
              rw [hR.1, if_neg (fun z => by have := q8.mp z; omega)]
            rw [fu, if_neg e10]
            unfold repR repT repL repC
            rw [fl_t good, if_neg e10, if_pos c3, fl_f (p := rOk2 T pg pl) (fun z => z.2 c3), if_pos rfl, if_pos rfl, if_pos rfl]
            exact ⟨σ1, rfl, F1.fx, h1⟩
          · have fu : f_ro_isFull σ1 = 0 := by
              unfold f_ro_isFull
              rw [hR.1, if_pos (q8.mpr (by omega))]
            rw [fu, if_pos rfl]
            obtain ⟨σ2, e2, F2, R2⟩ := x_add hO c3 hR pi C1
            rw [e2, bind_some, nm_eq, nm_eq]
            have r7 : σ2.1 0 7 = ca := by rw [F2.1 0 (by omega)]; exact h7
            rw [r7]
            have R3 : RX (adT T (rd pg pl).2) (uI (uI σ2 0 7 (ca + 1)) 0 6 0) := by
              have g : ∀ p, 4 ≤ p → (uI (uI σ2 0 7 (ca + 1)) 0 6 0).1 p = σ2.1 p := fun p h1 => by
                funext j
                rw [uI_1, if_neg (by omega), uI_1, if_neg (by omega)]
              unfold RX
              rw [g 4 (by decide), g 5 (by decide), g 6 (by decide), g 7 (by decide), g 8 (by decide), g 9 (by decide)]
              exact R2
            obtain ⟨σ4, e4, F4, Q4⟩ := x_settle (ok_ad hO c3 pi sn hf) R3 hN
            rw [e4, bind_some]
            unfold repR repT repL repC
            rw [fl_t good, if_neg e10, if_neg c3, fl_t (p := rOk2 T pg pl) ⟨good, c3⟩, if_neg e10, if_neg e10, if_neg e10]
            have r5 : σ4.1 4 5 - 1 = nI (tN T) := by
              rw [Q4.2.1.1]
              show nI (tN T + 1) - 1 = nI (tN T)
              rw [show (1 : Int32) = nI 1 from rfl, pk_sub (by omega)]; rfl
            rw [r5]
            have z0 : ∀ j, σ4.1 0 j = (uI (uI σ2 0 7 (ca + 1)) 0 6 0).1 0 j := fun j => by rw [F4.1 0 (by omega)]
            refine ⟨σ4, rfl, ((F1.fx.tr F2.fx).tr ((FX.upI _ _ _ (by omega)).tr (FX.upI _ _ _ (by omega)))).tr F4.fx, Q4, ⟨by omega, ?_, fun k hk => by omega⟩, ?_, ?_⟩
            · rw [z0, uI_1, if_pos ⟨rfl, rfl⟩]; rfl
            · rw [z0, uI_1, if_neg (by omega), uI_1, if_pos ⟨rfl, rfl⟩]
            · rw [z0, uI_1, if_neg (by omega), uI_1, if_neg (by omega), F2.1 0 (by omega)]; exact h8
      · rw [if_pos ((x_isSound pi C1).mpr c2)]
        exact bad (fun z => c2 (z.2.1.elim Or.inl (fun y => Or.inr y.2)))
    · rw [if_pos ((x_isWhole pi (by omega) C1).mpr c1)]
      exact bad (fun z => c1 (z.2.1.elim Or.inl (fun y => Or.inr y.1)))
