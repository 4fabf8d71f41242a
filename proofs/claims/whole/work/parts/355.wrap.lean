/-! THE CORNERS: from the leftmost on, until it comes back -/
noncomputable def lms (P : Pts) (b p : Nat) : Nat := @ite Nat (gX P p < gX P b ∨ (gX P p = gX P b ∧ gY P p < gY P b)) (Classical.propDecidable _) p b
noncomputable def lmg (P : Pts) : Nat → Nat → Nat → Nat
  | 0, _, b => b
  | d + 1, p, b => lmg P d (p + 1) (lms P b p)
noncomputable def lmf (P : Pts) : Nat := lmg P (P.length - 1) 1 0
theorem lms_t {P : Pts} {b p : Nat} (h : gX P p < gX P b ∨ (gX P p = gX P b ∧ gY P p < gY P b)) : lms P b p = p := by unfold lms; exact if_pos h
theorem lms_f {P : Pts} {b p : Nat} (h : ¬ (gX P p < gX P b ∨ (gX P p = gX P b ∧ gY P p < gY P b))) : lms P b p = b := by unfold lms; exact if_neg h
def lel (P : Pts) (b r : Nat) : Prop := gX P b < gX P r ∨ (gX P b = gX P r ∧ gY P b ≤ gY P r)
theorem lmg_ok {P : Pts} : ∀ (d p b : Nat), p + d = P.length → b < P.length → (∀ r, r < p → lel P b r) → lmg P d p b < P.length ∧ ∀ r, r < P.length → lel P (lmg P d p b) r := by
  intro d
  induction d with
  | zero => intro p b h1 h2 h3; exact ⟨h2, fun r hr => h3 r (by omega)⟩
  | succ d ih =>
    intro p b h1 h2 h3
    show lmg P d (p + 1) (lms P b p) < P.length ∧ ∀ r, r < P.length → lel P (lmg P d (p + 1) (lms P b p)) r
    rcases Classical.em (gX P p < gX P b ∨ (gX P p = gX P b ∧ gY P p < gY P b)) with h | h
    · rw [lms_t h]
      refine ih (p + 1) p (by omega) (by omega) (fun r hr => ?_)
      rcases Nat.lt_or_ge r p with h5 | h5
      · have := h3 r h5
        unfold lel at this ⊢
        omega
      · have : r = p := by omega
        subst this
        unfold lel; omega
    · rw [lms_f h]
      refine ih (p + 1) b (by omega) h2 (fun r hr => ?_)
      rcases Nat.lt_or_ge r p with h5 | h5
      · exact h3 r h5
      · have : r = p := by omega
        subst this
        unfold lel; omega
theorem lmf_ok {P : Pts} (hP : OkP P) : lmf P < P.length ∧ ∀ r, r < P.length → lel P (lmf P) r := by
  have := hP.1
  refine lmg_ok _ 1 0 (by omega) (by omega) (fun r hr => ?_)
  have : r = 0 := by omega
  subst this
  unfold lel; omega
theorem lmf_exp {P : Pts} (hP : OkP P) : Exp P (lmf P) := by
  obtain ⟨h1, h2⟩ := lmf_ok hP
  refine ⟨h1, 401, 1, fun r hr hne => ?_⟩
  have b1 := hP.2.2 (lmf P) h1
  have b2 := hP.2.2 r hr
  rcases h2 r hr with h | ⟨h, h'⟩
  · omega
  · have : gY P (lmf P) ≠ gY P r := fun e => hne (hP.2.1 r (lmf P) hr h1 h.symm e.symm)
    omega
noncomputable def itr (P : Pts) : Nat → Nat
  | 0 => lmf P
  | j + 1 => nxt P (itr P j)
theorem itr_exp {P : Pts} (hP : OkP P) : ∀ j, Exp P (itr P j)
  | 0 => lmf_exp hP
  | j + 1 => nxt_exp hP (itr_exp hP j)
theorem itr_lt {P : Pts} (hP : OkP P) (j : Nat) : itr P j < P.length := (itr_exp hP j).1
theorem itr_ne {P : Pts} (hP : OkP P) (j : Nat) : itr P (j + 1) ≠ itr P j := (nxt_ok hP (itr_exp hP j)).2.1
theorem itr_back {P : Pts} (hP : OkP P) : ∀ (a d : Nat), itr P a = itr P (a + d) → itr P 0 = itr P d
  | 0, d, h => by rw [Nat.zero_add] at h; exact h
  | a + 1, d, h => by
    refine itr_back hP a d (nxt_inj hP (itr_exp hP a) (itr_exp hP (a + d)) ?_)
    rw [show a + 1 + d = a + d + 1 by omega] at h
    exact h
theorem itr_per {P : Pts} (hP : OkP P) : ∃ c, 0 < c ∧ c ≤ P.length ∧ itr P c = itr P 0 ∧ ∀ j, 0 < j → j < c → itr P j ≠ itr P 0 := by
  have ex : ∃ a d, 0 < d ∧ d ≤ P.length ∧ itr P a = itr P (a + d) := by
    rcases Classical.em (∃ a d, 0 < d ∧ d ≤ P.length ∧ itr P a = itr P (a + d)) with h | h
    · exact h
    · exfalso
      have hn : ((List.range (P.length + 1)).map (itr P)).Nodup := by
        rw [List.nodup_iff_pairwise_ne, List.pairwise_map]
        refine List.Pairwise.imp_of_mem ?_ List.pairwise_lt_range
        intro a b ha hb hab e
        have h1 := List.mem_range.mp ha
        have h2 := List.mem_range.mp hb
        exact h ⟨a, b - a, by omega, by omega, by rw [show a + (b - a) = b by omega]; exact e⟩
      have hs : ((List.range (P.length + 1)).map (itr P)) ⊆ List.range P.length := by
        intro x hx
        obtain ⟨j, -, rfl⟩ := List.mem_map.mp hx
        exact List.mem_range.mpr (itr_lt hP j)
      have := List.Nodup.length_le_of_subset hn hs
      simp at this
      omega
  obtain ⟨a, d, hd0, hd, he⟩ := ex
  have h0 := (itr_back hP a d he).symm
  obtain ⟨c, ⟨c1, c2, c3⟩, cm⟩ := pk_least (fun c => 0 < c ∧ c ≤ P.length ∧ itr P c = itr P 0) ⟨d, hd0, hd, h0⟩
  exact ⟨c, c1, c2, c3, fun j j0 jc e => cm j jc ⟨j0, by omega, e⟩⟩
