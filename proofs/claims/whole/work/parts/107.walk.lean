def f_sp_lengthTop (σ : Sg) : Int64 := -(((σ.2 18 1) * (σ.2 19 2)) + ((σ.2 19 1) * (σ.2 18 2)))
def rm_sp_lengthTop : Room := { frames := 0, cells := 0, slots := 0, locals := 0 }
set_option maxHeartbeats 4000000 in
set_option maxRecDepth 100000 in
theorem c_sp_lengthTop (σ : Sg) (z : Int64) (hF : f_sp_lengthTop σ = z) : Ctr yX4_lengthTop cX4_lengthTop 1 (some .long) rm_sp_lengthTop [.ref 17] σ (some (.long z)) σ := by
  refine ct_start 4 (by decide) rfl (fun ad => Nat.le_of_ble_eq_true rfl) [(0, .ref 17)] (fun ad => rfl) ?_
  intro p l e s m args below meth c D ad tc A hC hA hr
  unfold f_sp_lengthTop at hF
  refine aw_run (pc' := 32) hC [(.aload_n 0, 1, 0, 0, .null), (.getfield 12, 3, 4, 0, .null), (.getfield 65, 3, 0, 1, .null), (.aload_n 0, 1, 0, 0, .null), (.getfield 18, 3, 4, 1, .null), (.getfield 69, 3, 0, 2, .null), (.lmul, 1, 0, 0, .null), (.aload_n 0, 1, 0, 0, .null), (.getfield 18, 3, 4, 1, .null), (.getfield 65, 3, 0, 1, .null), (.aload_n 0, 1, 0, 0, .null), (.getfield 12, 3, 4, 0, .null), (.getfield 69, 3, 0, 2, .null), (.lmul, 1, 0, 0, .null), (.ladd, 1, 0, 0, .null), (.lneg, 1, 0, 0, .null)] (by decide +kernel) [(0, .ref 17)] [.long (-(((σ.2 18 1) * (σ.2 19 2)) + ((σ.2 19 1) * (σ.2 18 2))))] σ rfl rfl ⟨trivial, trivial, trivial, trivial, trivial, trivial, trivial, trivial, trivial, trivial, trivial, trivial, trivial, trivial, trivial, trivial, trivial⟩ rfl ?_
  exact aw_lret hC hr (by decide +kernel) hF rfl
def f_sp_measureReached (N : Nat) (σ : Sg) (a2 : Int32) : Option Sg := (f_sp_bind_18 N σ a2 0).bind fun q1 => (f_sp_bind_19 N q1 a2 1).bind fun q2 => (f_sp_isBarred N q2 a2).bind fun q3 => if q3 = 0 then (if (f_sp_isBoundless q2) = 0 then (if (0 : Int64) ≤ (f_sp_lengthTop q2) then (nm (uI q2 17 2 0) fun σ6 => some σ6) else (nm (uI q2 17 2 1) fun σ7 => some σ7)) else (nm (uI q2 17 2 0) fun σ5 => some σ5)) else (nm (uI q2 17 2 1) fun σ4 => some σ4)
def rm_sp_measureReached : Room := { frames := 3, cells := 0, slots := 0, locals := 76 }
set_option maxHeartbeats 4000000 in
set_option maxRecDepth 100000 in
theorem c_sp_measureReached (N : Nat) (σ : Sg) (a2 : Int32) (z : Sg) (hF : f_sp_measureReached N σ a2 = some z) : Ctr yX4_measureReached cX4_measureReached 3 none rm_sp_measureReached [.ref 17, .ref 4, .int a2] σ none z := by
  refine ct_start 4 (by decide) rfl (fun ad => Nat.le_of_ble_eq_true rfl) [(0, .ref 17), (1, .ref 4), (2, .int a2)] (fun ad => rfl) ?_
  intro p l e s m args below meth c D ad tc A hC hA hr
  unfold f_sp_measureReached at hF
  refine aw_run (pc' := 7) hC [(.aload_n 1, 1, 0, 0, .null), (.iload_n 2, 1, 0, 0, .null), (.iconst 0, 1, 0, 0, .int 0), (.aload_n 0, 1, 0, 0, .null), (.getfield 12, 3, 4, 0, .null)] (by decide +kernel) [(0, .ref 17), (1, .ref 4), (2, .int a2)] [.ref 18, .int 0, .int a2, .ref 4] σ rfl rfl ⟨trivial, trivial, trivial, trivial, trivial, trivial⟩ rfl ?_
  obtain ⟨q1, eq1, hF⟩ := bd hF
  refine aw_callS hC hA (rest := []) (c_sp_bind_18 N σ a2 0 q1 eq1) mt_X4_bind ln_4_32 (by decide +kernel) rfl rfl (Nat.le_of_ble_eq_true rfl) ⟨⟨rfl, rfl⟩, Nat.le_of_ble_eq_true rfl, Nat.le_of_ble_eq_true rfl⟩ ⟨Nat.zero_le _, Nat.zero_le _⟩ rfl ?_
  refine aw_run (pc' := 17) hC [(.aload_n 1, 1, 0, 0, .null), (.iload_n 2, 1, 0, 0, .null), (.iconst 1, 1, 0, 0, .int 1), (.aload_n 0, 1, 0, 0, .null), (.getfield 18, 3, 4, 1, .null)] (by decide +kernel) [(0, .ref 17), (1, .ref 4), (2, .int a2)] [.ref 19, .int 1, .int a2, .ref 4] q1 rfl rfl ⟨trivial, trivial, trivial, trivial, trivial, trivial⟩ rfl ?_
  obtain ⟨q2, eq2, hF⟩ := bd hF
  refine aw_callS hC hA (rest := []) (c_sp_bind_19 N q1 a2 1 q2 eq2) mt_X4_bind ln_4_32 (by decide +kernel) rfl rfl (Nat.le_of_ble_eq_true rfl) ⟨⟨rfl, rfl⟩, Nat.le_of_ble_eq_true rfl, Nat.le_of_ble_eq_true rfl⟩ ⟨Nat.zero_le _, Nat.zero_le _⟩ rfl ?_
  refine aw_run (pc' := 23) hC [(.aload_n 0, 1, 0, 0, .null), (.aload_n 1, 1, 0, 0, .null), (.iload_n 2, 1, 0, 0, .null)] (by decide +kernel) [(0, .ref 17), (1, .ref 4), (2, .int a2)] [.int a2, .ref 4, .ref 17] q2 rfl rfl ⟨trivial, trivial, trivial, trivial⟩ rfl ?_
  obtain ⟨q3, eq3, hF⟩ := bd hF
  refine aw_callS hC hA (rest := [.ref 17]) (c_sp_isBarred N q2 a2 q3 eq3) mt_X4_isBarred ln_4_35 (by decide +kernel) rfl rfl (Nat.le_of_ble_eq_true rfl) ⟨⟨rfl, rfl⟩, Nat.le_of_ble_eq_true rfl, Nat.le_of_ble_eq_true rfl⟩ ⟨Nat.zero_le _, Nat.zero_le _⟩ rfl ?_
  refine aw_if_ne (off := 19) hC 45 Iff.rfl (by decide +kernel) (by decide) (fun h => ?_) (fun h => ?_)
  · have hF := (if_neg h).symm.trans hF
    refine aw_run (pc' := 46) hC [(.iconst 1, 1, 0, 0, .int 1)] (by decide +kernel) [(0, .ref 17), (1, .ref 4), (2, .int a2)] [.int 1, .ref 17] q2 rfl rfl ⟨trivial, trivial⟩ rfl ?_
    refine aw_goto (off := 4) hC 50 (by decide +kernel) (by decide) ?_
    obtain ⟨σ4, hσ4, hF⟩ := nmd hF
    refine aw_run (pc' := 53) hC [(.putfield 29, 3, 4, 2, .null)] (by decide +kernel) [(0, .ref 17), (1, .ref 4), (2, .int a2)] [] (uI q2 17 2 1) rfl rfl ⟨(Or.inr rfl), trivial⟩ hσ4 ?_
    exact aw_vret hC hr (by decide +kernel)  (Option.some.inj hF)
  · have hF := (if_pos h).symm.trans hF
    refine aw_run (pc' := 30) hC [(.aload_n 0, 1, 0, 0, .null)] (by decide +kernel) [(0, .ref 17), (1, .ref 4), (2, .int a2)] [.ref 17, .ref 17] q2 rfl rfl ⟨trivial, trivial⟩ rfl ?_
    refine aw_callV hC hA (rest := [.ref 17]) (c_sp_isBoundless q2 _ rfl) mt_X4_isBoundless ln_4_39 (by decide +kernel) ⟨_, rfl⟩ rfl rfl (Nat.le_of_ble_eq_true rfl) ⟨⟨rfl, rfl⟩, Nat.le_of_ble_eq_true rfl, Nat.le_of_ble_eq_true rfl⟩ ⟨Nat.zero_le _, Nat.zero_le _⟩ rfl ?_
    refine aw_if_ne (off := 16) hC 49 Iff.rfl (by decide +kernel) (by decide) (fun h => ?_) (fun h => ?_)
    · have hF := (if_neg h).symm.trans hF
      obtain ⟨σ5, hσ5, hF⟩ := nmd hF
      refine aw_run (pc' := 53) hC [(.iconst 0, 1, 0, 0, .int 0), (.putfield 29, 3, 4, 2, .null)] (by decide +kernel) [(0, .ref 17), (1, .ref 4), (2, .int a2)] [] (uI q2 17 2 0) rfl rfl ⟨trivial, (Or.inl rfl), trivial⟩ hσ5 ?_
      exact aw_vret hC hr (by decide +kernel)  (Option.some.inj hF)
    · have hF := (if_pos h).symm.trans hF
      refine aw_run (pc' := 37) hC [(.aload_n 0, 1, 0, 0, .null)] (by decide +kernel) [(0, .ref 17), (1, .ref 4), (2, .int a2)] [.ref 17, .ref 17] q2 rfl rfl ⟨trivial, trivial⟩ rfl ?_
      refine aw_callV hC hA (rest := [.ref 17]) (c_sp_lengthTop q2 _ rfl) mt_X4_lengthTop ln_4_43 (by decide +kernel) ⟨_, rfl⟩ rfl rfl (Nat.le_of_ble_eq_true rfl) ⟨⟨rfl, rfl⟩, Nat.le_of_ble_eq_true rfl, Nat.le_of_ble_eq_true rfl⟩ ⟨Nat.zero_le _, Nat.zero_le _⟩ rfl ?_
      refine aw_run (pc' := 42) hC [(.lconst 0, 1, 0, 0, .long 0), (.lcmp, 1, 0, 0, .null)] (by decide +kernel) [(0, .ref 17), (1, .ref 4), (2, .int a2)] [.int (lg_cmp (f_sp_lengthTop q2) 0), .ref 17] q2 rfl rfl ⟨trivial, trivial, trivial⟩ rfl ?_
      refine aw_if_ge (off := 7) hC 49 (lc_ge _ _) (by decide +kernel) (by decide) (fun h => ?_) (fun h => ?_)
      · have hF := (if_pos h).symm.trans hF
        obtain ⟨σ6, hσ6, hF⟩ := nmd hF
        refine aw_run (pc' := 53) hC [(.iconst 0, 1, 0, 0, .int 0), (.putfield 29, 3, 4, 2, .null)] (by decide +kernel) [(0, .ref 17), (1, .ref 4), (2, .int a2)] [] (uI q2 17 2 0) rfl rfl ⟨trivial, (Or.inl rfl), trivial⟩ hσ6 ?_
        exact aw_vret hC hr (by decide +kernel)  (Option.some.inj hF)
      · have hF := (if_neg h).symm.trans hF
        refine aw_run (pc' := 46) hC [(.iconst 1, 1, 0, 0, .int 1)] (by decide +kernel) [(0, .ref 17), (1, .ref 4), (2, .int a2)] [.int 1, .ref 17] q2 rfl rfl ⟨trivial, trivial⟩ rfl ?_
        refine aw_goto (off := 4) hC 50 (by decide +kernel) (by decide) ?_
        obtain ⟨σ7, hσ7, hF⟩ := nmd hF
        refine aw_run (pc' := 53) hC [(.putfield 29, 3, 4, 2, .null)] (by decide +kernel) [(0, .ref 17), (1, .ref 4), (2, .int a2)] [] (uI q2 17 2 1) rfl rfl ⟨(Or.inr rfl), trivial⟩ hσ7 ?_
        exact aw_vret hC hr (by decide +kernel)  (Option.some.inj hF)
def f_ss_reach (N : Nat) (σ : Sg) (a1 : Int32) (a2 : Int32) (a3 : Int32) : Option (Int32 × Sg) := if (f_ss_isHeight a1) = 0 then (some (-100000003, σ)) else (if (f_ss_isBit a2) = 0 then (some (-100000003, σ)) else (if (f_ss_isBit a3) = 0 then (some (-100000003, σ)) else (if (f_ss_allFit σ) = 0 then (some (-100000004, σ)) else ((f_ro_hasChord N σ).bind fun q1 => if q1 = 0 then (some (-100000004, σ)) else ((f_sp_measureReached N σ a1).bind fun q2 => (f_sp_tell N q2 a2 a3).bind fun q3 => some (q3, q2))))))
def rm_ss_reach : Room := { frames := 4, cells := 0, slots := 0, locals := 98 }
set_option maxHeartbeats 4000000 in
set_option maxRecDepth 100000 in
theorem c_ss_reach (N : Nat) (σ : Sg) (a1 : Int32) (a2 : Int32) (a3 : Int32) (z : Int32 × Sg) (hF : f_ss_reach N σ a1 a2 a3 = some z) : Ctr yX6_reach cX6_reach 4 (some .int) rm_ss_reach [.ref 0, .int a1, .int a2, .int a3] σ (some (.int z.1)) z.2 := by
  refine ct_start 6 (by decide) rfl (fun ad => Nat.le_of_ble_eq_true rfl) [(0, .ref 0), (1, .int a1), (2, .int a2), (3, .int a3)] (fun ad => rfl) ?_
  intro p l e s m args below meth c D ad tc A hC hA hr
  unfold f_ss_reach at hF
  refine aw_run (pc' := 1) hC [(.iload_n 1, 1, 0, 0, .null)] (by decide +kernel) [(0, .ref 0), (1, .int a1), (2, .int a2), (3, .int a3)] [.int a1] σ rfl rfl ⟨trivial, trivial⟩ rfl ?_
  refine aw_callS hC hA (rest := []) (c_ss_isHeight σ a1 _ rfl) mt_X6_isHeight ln_6_129 (by decide +kernel) rfl rfl (Nat.le_of_ble_eq_true rfl) ⟨⟨rfl, rfl⟩, Nat.le_of_ble_eq_true rfl, Nat.le_of_ble_eq_true rfl⟩ ⟨Nat.zero_le _, Nat.zero_le _⟩ rfl ?_
  refine aw_if_eq (off := 17) hC 21 Iff.rfl (by decide +kernel) (by decide) (fun h => ?_) (fun h => ?_)
  · have hF := (if_pos h).symm.trans hF
    refine aw_run (pc' := 23) hC [(.ldc 48, 2, 0, 0, .int (-100000003))] (by decide +kernel) [(0, .ref 0), (1, .int a1), (2, .int a2), (3, .int a3)] [.int (-100000003)] σ rfl rfl ⟨trivial, trivial⟩ rfl ?_
    exact aw_iret hC hr (by decide +kernel) (pS1 hF) (pS2 hF)
  · have hF := (if_neg h).symm.trans hF
    refine aw_run (pc' := 8) hC [(.iload_n 2, 1, 0, 0, .null)] (by decide +kernel) [(0, .ref 0), (1, .int a1), (2, .int a2), (3, .int a3)] [.int a2] σ rfl rfl ⟨trivial, trivial⟩ rfl ?_
    refine aw_callS hC hA (rest := []) (c_ss_isBit σ a2 _ rfl) mt_X6_isBit ln_6_148 (by decide +kernel) rfl rfl (Nat.le_of_ble_eq_true rfl) ⟨⟨rfl, rfl⟩, Nat.le_of_ble_eq_true rfl, Nat.le_of_ble_eq_true rfl⟩ ⟨Nat.zero_le _, Nat.zero_le _⟩ rfl ?_
    refine aw_if_eq (off := 10) hC 21 Iff.rfl (by decide +kernel) (by decide) (fun h => ?_) (fun h => ?_)
    · have hF := (if_pos h).symm.trans hF
      refine aw_run (pc' := 23) hC [(.ldc 48, 2, 0, 0, .int (-100000003))] (by decide +kernel) [(0, .ref 0), (1, .int a1), (2, .int a2), (3, .int a3)] [.int (-100000003)] σ rfl rfl ⟨trivial, trivial⟩ rfl ?_
      exact aw_iret hC hr (by decide +kernel) (pS1 hF) (pS2 hF)
    · have hF := (if_neg h).symm.trans hF
      refine aw_run (pc' := 15) hC [(.iload_n 3, 1, 0, 0, .null)] (by decide +kernel) [(0, .ref 0), (1, .int a1), (2, .int a2), (3, .int a3)] [.int a3] σ rfl rfl ⟨trivial, trivial⟩ rfl ?_
      refine aw_callS hC hA (rest := []) (c_ss_isBit σ a3 _ rfl) mt_X6_isBit ln_6_148 (by decide +kernel) rfl rfl (Nat.le_of_ble_eq_true rfl) ⟨⟨rfl, rfl⟩, Nat.le_of_ble_eq_true rfl, Nat.le_of_ble_eq_true rfl⟩ ⟨Nat.zero_le _, Nat.zero_le _⟩ rfl ?_
      refine aw_if_ne (off := 6) hC 24 Iff.rfl (by decide +kernel) (by decide) (fun h => ?_) (fun h => ?_)
      · have hF := (if_neg h).symm.trans hF
        refine aw_run (pc' := 25) hC [(.aload_n 0, 1, 0, 0, .null)] (by decide +kernel) [(0, .ref 0), (1, .int a1), (2, .int a2), (3, .int a3)] [.ref 0] σ rfl rfl ⟨trivial, trivial⟩ rfl ?_
        refine aw_callV hC hA (rest := []) (c_ss_allFit σ _ rfl) mt_X6_allFit ln_6_132 (by decide +kernel) ⟨_, rfl⟩ rfl rfl (Nat.le_of_ble_eq_true rfl) ⟨⟨rfl, rfl⟩, Nat.le_of_ble_eq_true rfl, Nat.le_of_ble_eq_true rfl⟩ ⟨Nat.zero_le _, Nat.zero_le _⟩ rfl ?_
        refine aw_if_eq (off := 13) hC 41 Iff.rfl (by decide +kernel) (by decide) (fun h => ?_) (fun h => ?_)
        · have hF := (if_pos h).symm.trans hF
          refine aw_run (pc' := 43) hC [(.ldc 72, 2, 0, 0, .int (-100000004))] (by decide +kernel) [(0, .ref 0), (1, .int a1), (2, .int a2), (3, .int a3)] [.int (-100000004)] σ rfl rfl ⟨trivial, trivial⟩ rfl ?_
          exact aw_iret hC hr (by decide +kernel) (pS1 hF) (pS2 hF)
        · have hF := (if_neg h).symm.trans hF
          refine aw_run (pc' := 35) hC [(.aload_n 0, 1, 0, 0, .null), (.getfield 23, 3, 6, 2, .null)] (by decide +kernel) [(0, .ref 0), (1, .int a1), (2, .int a2), (3, .int a3)] [.ref 4] σ rfl rfl ⟨trivial, trivial, trivial⟩ rfl ?_
          obtain ⟨q1, eq1, hF⟩ := bd hF
          refine aw_callV hC hA (rest := []) (c_ro_hasChord N σ q1 eq1) mt_X3_hasChord ln_6_164 (by decide +kernel) ⟨_, rfl⟩ rfl rfl (Nat.le_of_ble_eq_true rfl) ⟨⟨rfl, rfl⟩, Nat.le_of_ble_eq_true rfl, Nat.le_of_ble_eq_true rfl⟩ ⟨Nat.zero_le _, Nat.zero_le _⟩ rfl ?_
          refine aw_if_ne (off := 6) hC 44 Iff.rfl (by decide +kernel) (by decide) (fun h => ?_) (fun h => ?_)
          · have hF := (if_neg h).symm.trans hF
            refine aw_run (pc' := 53) hC [(.aload_n 0, 1, 0, 0, .null), (.getfield 44, 3, 6, 5, .null), (.aload_n 0, 1, 0, 0, .null), (.getfield 23, 3, 6, 2, .null), (.iload_n 1, 1, 0, 0, .null)] (by decide +kernel) [(0, .ref 0), (1, .int a1), (2, .int a2), (3, .int a3)] [.int a1, .ref 4, .ref 17] σ rfl rfl ⟨trivial, trivial, trivial, trivial, trivial, trivial⟩ rfl ?_
            obtain ⟨q2, eq2, hF⟩ := bd hF
            refine aw_callV hC hA (rest := []) (c_sp_measureReached N σ a1 q2 eq2) mt_X4_measureReached ln_6_167 (by decide +kernel) ⟨_, rfl⟩ rfl rfl (Nat.le_of_ble_eq_true rfl) ⟨⟨rfl, rfl⟩, Nat.le_of_ble_eq_true rfl, Nat.le_of_ble_eq_true rfl⟩ ⟨Nat.zero_le _, Nat.zero_le _⟩ rfl ?_
            refine aw_run (pc' := 62) hC [(.aload_n 0, 1, 0, 0, .null), (.getfield 44, 3, 6, 5, .null), (.iload_n 2, 1, 0, 0, .null), (.iload_n 3, 1, 0, 0, .null)] (by decide +kernel) [(0, .ref 0), (1, .int a1), (2, .int a2), (3, .int a3)] [.int a3, .int a2, .ref 17] q2 rfl rfl ⟨trivial, trivial, trivial, trivial, trivial⟩ rfl ?_
            obtain ⟨q3, eq3, hF⟩ := bd hF
            refine aw_callV hC hA (rest := []) (c_sp_tell N q2 a2 a3 q3 eq3) mt_X4_tell ln_6_161 (by decide +kernel) ⟨_, rfl⟩ rfl rfl (Nat.le_of_ble_eq_true rfl) ⟨⟨rfl, rfl⟩, Nat.le_of_ble_eq_true rfl, Nat.le_of_ble_eq_true rfl⟩ ⟨Nat.zero_le _, Nat.zero_le _⟩ rfl ?_
            exact aw_iret hC hr (by decide +kernel) (pS1 hF) (pS2 hF)
          · have hF := (if_pos h).symm.trans hF
            refine aw_run (pc' := 43) hC [(.ldc 72, 2, 0, 0, .int (-100000004))] (by decide +kernel) [(0, .ref 0), (1, .int a1), (2, .int a2), (3, .int a3)] [.int (-100000004)] σ rfl rfl ⟨trivial, trivial⟩ rfl ?_
            exact aw_iret hC hr (by decide +kernel) (pS1 hF) (pS2 hF)
      · have hF := (if_pos h).symm.trans hF
        refine aw_run (pc' := 23) hC [(.ldc 48, 2, 0, 0, .int (-100000003))] (by decide +kernel) [(0, .ref 0), (1, .int a1), (2, .int a2), (3, .int a3)] [.int (-100000003)] σ rfl rfl ⟨trivial, trivial⟩ rfl ?_
        exact aw_iret hC hr (by decide +kernel) (pS1 hF) (pS2 hF)
def f_sp_lengthBottom (σ : Sg) : Int64 := (σ.2 18 2) * (σ.2 19 2)
def rm_sp_lengthBottom : Room := { frames := 0, cells := 0, slots := 0, locals := 0 }
set_option maxHeartbeats 4000000 in
set_option maxRecDepth 100000 in
theorem c_sp_lengthBottom (σ : Sg) (z : Int64) (hF : f_sp_lengthBottom σ = z) : Ctr yX4_lengthBottom cX4_lengthBottom 1 (some .long) rm_sp_lengthBottom [.ref 17] σ (some (.long z)) σ := by
  refine ct_start 4 (by decide) rfl (fun ad => Nat.le_of_ble_eq_true rfl) [(0, .ref 17)] (fun ad => rfl) ?_
  intro p l e s m args below meth c D ad tc A hC hA hr
  unfold f_sp_lengthBottom at hF
  refine aw_run (pc' := 15) hC [(.aload_n 0, 1, 0, 0, .null), (.getfield 12, 3, 4, 0, .null), (.getfield 69, 3, 0, 2, .null), (.aload_n 0, 1, 0, 0, .null), (.getfield 18, 3, 4, 1, .null), (.getfield 69, 3, 0, 2, .null), (.lmul, 1, 0, 0, .null)] (by decide +kernel) [(0, .ref 17)] [.long ((σ.2 18 2) * (σ.2 19 2))] σ rfl rfl ⟨trivial, trivial, trivial, trivial, trivial, trivial, trivial, trivial⟩ rfl ?_
  exact aw_lret hC hr (by decide +kernel) hF rfl
def f_jm_floorDiv_f86c9 (a0 : Int64) (a2 : Int64) : Option Int64 := if ¬ a2 = 0 then if (0 : Int64) ≤ (a0 ^^^ a2) then (some (a0 / a2)) else (if ((a0 / a2) * a2) = a0 then (some (a0 / a2)) else (some ((a0 / a2) - 1))) else none
def rm_jm_floorDiv_f86c9 : Room := { frames := 0, cells := 0, slots := 0, locals := 0 }
set_option maxHeartbeats 4000000 in
set_option maxRecDepth 100000 in
theorem c_jm_floorDiv_f86c9 (σ : Sg) (a0 : Int64) (a2 : Int64) (z : Int64) (hF : f_jm_floorDiv_f86c9 a0 a2 = some z) : Ctr yJ9_floorDiv_f86c9 cJ9_floorDiv_f86c9 6 (some .long) rm_jm_floorDiv_f86c9 [.long a0, .long a2] σ (some (.long z)) σ := by
  refine ct_startJ 9 pf_J9_floorDiv_f86c9 rfl (fun ad => Nat.le_of_ble_eq_true rfl) [(0, .long a0), (2, .long a2)] (fun ad => rfl) ?_
  intro p l e s m args below meth c D ad tc A hC hA hr
  unfold f_jm_floorDiv_f86c9 at hF
  obtain ⟨g1, hF⟩ := gd hF
  refine aw_run (pc' := 10) hC [(.lload_n 0, 1, 0, 0, .null), (.lload_n 2, 1, 0, 0, .null), (.ldiv, 1, 0, 0, .null), (.lstore 4, 2, 0, 0, .null), (.lload_n 0, 1, 0, 0, .null), (.lload_n 2, 1, 0, 0, .null), (.lxor, 1, 0, 0, .null), (.lconst 0, 1, 0, 0, .long 0), (.lcmp, 1, 0, 0, .null)] (by decide +kernel) [(0, .long a0), (2, .long a2), (4, .long (a0 / a2))] [.int (lg_cmp (a0 ^^^ a2) 0)] σ rfl rfl ⟨trivial, trivial, g1, trivial, trivial, trivial, trivial, trivial, trivial, trivial⟩ rfl ?_
  refine aw_if_ge (off := 17) hC 27 (lc_ge _ _) (by decide +kernel) (by decide) (fun h => ?_) (fun h => ?_)
  · have hF := (if_pos h).symm.trans hF
    refine aw_run (pc' := 29) hC [(.lload 4, 2, 0, 0, .null)] (by decide +kernel) [(0, .long a0), (2, .long a2), (4, .long (a0 / a2))] [.long (a0 / a2)] σ rfl rfl ⟨trivial, trivial⟩ rfl ?_
    exact aw_lret hC hr (by decide +kernel) (Option.some.inj hF) rfl
  · have hF := (if_neg h).symm.trans hF
    refine aw_run (pc' := 19) hC [(.lload 4, 2, 0, 0, .null), (.lload_n 2, 1, 0, 0, .null), (.lmul, 1, 0, 0, .null), (.lload_n 0, 1, 0, 0, .null), (.lcmp, 1, 0, 0, .null)] (by decide +kernel) [(0, .long a0), (2, .long a2), (4, .long (a0 / a2))] [.int (lg_cmp ((a0 / a2) * a2) a0)] σ rfl rfl ⟨trivial, trivial, trivial, trivial, trivial, trivial⟩ rfl ?_
    refine aw_if_eq (off := 8) hC 27 (lc_eq _ _) (by decide +kernel) (by decide) (fun h => ?_) (fun h => ?_)
    · have hF := (if_pos h).symm.trans hF
      refine aw_run (pc' := 29) hC [(.lload 4, 2, 0, 0, .null)] (by decide +kernel) [(0, .long a0), (2, .long a2), (4, .long (a0 / a2))] [.long (a0 / a2)] σ rfl rfl ⟨trivial, trivial⟩ rfl ?_
      exact aw_lret hC hr (by decide +kernel) (Option.some.inj hF) rfl
    · have hF := (if_neg h).symm.trans hF
      refine aw_run (pc' := 26) hC [(.lload 4, 2, 0, 0, .null), (.lconst 1, 1, 0, 0, .long 1), (.lsub, 1, 0, 0, .null)] (by decide +kernel) [(0, .long a0), (2, .long a2), (4, .long (a0 / a2))] [.long ((a0 / a2) - 1)] σ rfl rfl ⟨trivial, trivial, trivial, trivial⟩ rfl ?_
      exact aw_lret hC hr (by decide +kernel) (Option.some.inj hF) rfl
def f_sp_ticksUp (σ : Sg) (a1 : Int32) : Option Int32 := if (σ.1 17 2) = 0 then (if (f_sp_isBoundless σ) = 0 then (if (0 : Int64) < ((f_sp_lengthBottom σ) * a1.toInt64) then ((f_jm_floorDiv_f86c9 (-(f_sp_lengthTop σ)) ((f_sp_lengthBottom σ) * a1.toInt64)).bind fun q1 => some ((-q1).toInt32)) else (some 0)) else (some (-100000001))) else (some 0)
def rm_sp_ticksUp : Room := { frames := 1, cells := 0, slots := 0, locals := 25 }
set_option maxHeartbeats 4000000 in
set_option maxRecDepth 100000 in
theorem c_sp_ticksUp (σ : Sg) (a1 : Int32) (z : Int32) (hF : f_sp_ticksUp σ a1 = some z) : Ctr yX4_ticksUp cX4_ticksUp 4 (some .int) rm_sp_ticksUp [.ref 17, .int a1] σ (some (.int z)) σ := by
  refine ct_start 4 (by decide) rfl (fun ad => Nat.le_of_ble_eq_true rfl) [(0, .ref 17), (1, .int a1)] (fun ad => rfl) ?_
  intro p l e s m args below meth c D ad tc A hC hA hr
  unfold f_sp_ticksUp at hF
  refine aw_run (pc' := 4) hC [(.aload_n 0, 1, 0, 0, .null), (.getfield 29, 3, 4, 2, .null)] (by decide +kernel) [(0, .ref 17), (1, .int a1)] [.int (σ.1 17 2)] σ rfl rfl ⟨trivial, trivial, trivial⟩ rfl ?_
  refine aw_if_eq (off := 5) hC 9 Iff.rfl (by decide +kernel) (by decide) (fun h => ?_) (fun h => ?_)
  · have hF := (if_pos h).symm.trans hF
    refine aw_run (pc' := 10) hC [(.aload_n 0, 1, 0, 0, .null)] (by decide +kernel) [(0, .ref 17), (1, .int a1)] [.ref 17] σ rfl rfl ⟨trivial, trivial⟩ rfl ?_
    refine aw_callV hC hA (rest := []) (c_sp_isBoundless σ _ rfl) mt_X4_isBoundless ln_4_39 (by decide +kernel) ⟨_, rfl⟩ rfl rfl (Nat.le_of_ble_eq_true rfl) ⟨⟨rfl, rfl⟩, Nat.le_of_ble_eq_true rfl, Nat.le_of_ble_eq_true rfl⟩ ⟨Nat.zero_le _, Nat.zero_le _⟩ rfl ?_
    refine aw_if_eq (off := 6) hC 19 Iff.rfl (by decide +kernel) (by decide) (fun h => ?_) (fun h => ?_)
    · have hF := (if_pos h).symm.trans hF
      refine aw_run (pc' := 20) hC [(.aload_n 0, 1, 0, 0, .null)] (by decide +kernel) [(0, .ref 17), (1, .int a1)] [.ref 17] σ rfl rfl ⟨trivial, trivial⟩ rfl ?_
      refine aw_callV hC hA (rest := []) (c_sp_lengthBottom σ _ rfl) mt_X4_lengthBottom ln_4_56 (by decide +kernel) ⟨_, rfl⟩ rfl rfl (Nat.le_of_ble_eq_true rfl) ⟨⟨rfl, rfl⟩, Nat.le_of_ble_eq_true rfl, Nat.le_of_ble_eq_true rfl⟩ ⟨Nat.zero_le _, Nat.zero_le _⟩ rfl ?_
      refine aw_run (pc' := 30) hC [(.iload_n 1, 1, 0, 0, .null), (.i2l, 1, 0, 0, .null), (.lmul, 1, 0, 0, .null), (.lstore_n 2, 1, 0, 0, .null), (.lload_n 2, 1, 0, 0, .null), (.lconst 0, 1, 0, 0, .long 0), (.lcmp, 1, 0, 0, .null)] (by decide +kernel) [(0, .ref 17), (1, .int a1), (2, .long ((f_sp_lengthBottom σ) * a1.toInt64))] [.int (lg_cmp ((f_sp_lengthBottom σ) * a1.toInt64) 0)] σ rfl rfl ⟨trivial, trivial, trivial, trivial, trivial, trivial, trivial, trivial⟩ rfl ?_
      refine aw_if_gt (off := 7) hC 37 (lc_gt _ _) (by decide +kernel) (by decide) (fun h => ?_) (fun h => ?_)
      · have hF := (if_pos h).symm.trans hF
        refine aw_run (pc' := 38) hC [(.aload_n 0, 1, 0, 0, .null)] (by decide +kernel) [(0, .ref 17), (1, .int a1), (2, .long ((f_sp_lengthBottom σ) * a1.toInt64))] [.ref 17] σ rfl rfl ⟨trivial, trivial⟩ rfl ?_
        refine aw_callV hC hA (rest := []) (c_sp_lengthTop σ _ rfl) mt_X4_lengthTop ln_4_43 (by decide +kernel) ⟨_, rfl⟩ rfl rfl (Nat.le_of_ble_eq_true rfl) ⟨⟨rfl, rfl⟩, Nat.le_of_ble_eq_true rfl, Nat.le_of_ble_eq_true rfl⟩ ⟨Nat.zero_le _, Nat.zero_le _⟩ rfl ?_
        refine aw_run (pc' := 43) hC [(.lneg, 1, 0, 0, .null), (.lload_n 2, 1, 0, 0, .null)] (by decide +kernel) [(0, .ref 17), (1, .int a1), (2, .long ((f_sp_lengthBottom σ) * a1.toInt64))] [.long ((f_sp_lengthBottom σ) * a1.toInt64), .long (-(f_sp_lengthTop σ))] σ rfl rfl ⟨trivial, trivial, trivial⟩ rfl ?_
        obtain ⟨q1, eq1, hF⟩ := bd hF
        refine aw_callS hC hA (rest := []) (c_jm_floorDiv_f86c9 σ (-(f_sp_lengthTop σ)) ((f_sp_lengthBottom σ) * a1.toInt64) q1 eq1) mt_J9_floorDiv_f86c9 ln_4_59 (by decide +kernel) rfl rfl (Nat.le_of_ble_eq_true rfl) ⟨⟨rfl, rfl⟩, Nat.le_of_ble_eq_true rfl, Nat.le_of_ble_eq_true rfl⟩ ⟨Nat.zero_le _, Nat.zero_le _⟩ rfl ?_
        refine aw_run (pc' := 48) hC [(.lneg, 1, 0, 0, .null), (.l2i, 1, 0, 0, .null)] (by decide +kernel) [(0, .ref 17), (1, .int a1), (2, .long ((f_sp_lengthBottom σ) * a1.toInt64))] [.int (-q1).toInt32] σ rfl rfl ⟨trivial, trivial, trivial⟩ rfl ?_
        exact aw_iret hC hr (by decide +kernel) (Option.some.inj hF) rfl
      · have hF := (if_neg h).symm.trans hF
        refine aw_run (pc' := 34) hC [(.iconst 0, 1, 0, 0, .int 0)] (by decide +kernel) [(0, .ref 17), (1, .int a1), (2, .long ((f_sp_lengthBottom σ) * a1.toInt64))] [.int 0] σ rfl rfl ⟨trivial, trivial⟩ rfl ?_
        refine aw_goto (off := 14) hC 48 (by decide +kernel) (by decide) ?_
        exact aw_iret hC hr (by decide +kernel) (Option.some.inj hF) rfl
    · have hF := (if_neg h).symm.trans hF
      refine aw_run (pc' := 18) hC [(.ldc 48, 2, 0, 0, .int (-100000001))] (by decide +kernel) [(0, .ref 17), (1, .int a1)] [.int (-100000001)] σ rfl rfl ⟨trivial, trivial⟩ rfl ?_
      exact aw_iret hC hr (by decide +kernel) (Option.some.inj hF) rfl
  · have hF := (if_neg h).symm.trans hF
    refine aw_run (pc' := 8) hC [(.iconst 0, 1, 0, 0, .int 0)] (by decide +kernel) [(0, .ref 17), (1, .int a1)] [.int 0] σ rfl rfl ⟨trivial, trivial⟩ rfl ?_
    exact aw_iret hC hr (by decide +kernel) (Option.some.inj hF) rfl
def f_sp_ticksDown (σ : Sg) (a1 : Int32) : Option Int32 := if (σ.1 17 2) = 0 then (if (0 : Int64) < ((f_sp_lengthBottom σ) * a1.toInt64) then ((f_jm_floorDiv_f86c9 (f_sp_lengthTop σ) ((f_sp_lengthBottom σ) * a1.toInt64)).bind fun q1 => some q1.toInt32) else (some 0)) else (some 0)
def rm_sp_ticksDown : Room := { frames := 1, cells := 0, slots := 0, locals := 25 }
set_option maxHeartbeats 4000000 in
set_option maxRecDepth 100000 in
theorem c_sp_ticksDown (σ : Sg) (a1 : Int32) (z : Int32) (hF : f_sp_ticksDown σ a1 = some z) : Ctr yX4_ticksDown cX4_ticksDown 4 (some .int) rm_sp_ticksDown [.ref 17, .int a1] σ (some (.int z)) σ := by
  refine ct_start 4 (by decide) rfl (fun ad => Nat.le_of_ble_eq_true rfl) [(0, .ref 17), (1, .int a1)] (fun ad => rfl) ?_
  intro p l e s m args below meth c D ad tc A hC hA hr
  unfold f_sp_ticksDown at hF
  refine aw_run (pc' := 4) hC [(.aload_n 0, 1, 0, 0, .null), (.getfield 29, 3, 4, 2, .null)] (by decide +kernel) [(0, .ref 17), (1, .int a1)] [.int (σ.1 17 2)] σ rfl rfl ⟨trivial, trivial, trivial⟩ rfl ?_
  refine aw_if_eq (off := 5) hC 9 Iff.rfl (by decide +kernel) (by decide) (fun h => ?_) (fun h => ?_)
  · have hF := (if_pos h).symm.trans hF
    refine aw_run (pc' := 10) hC [(.aload_n 0, 1, 0, 0, .null)] (by decide +kernel) [(0, .ref 17), (1, .int a1)] [.ref 17] σ rfl rfl ⟨trivial, trivial⟩ rfl ?_
    refine aw_callV hC hA (rest := []) (c_sp_lengthBottom σ _ rfl) mt_X4_lengthBottom ln_4_56 (by decide +kernel) ⟨_, rfl⟩ rfl rfl (Nat.le_of_ble_eq_true rfl) ⟨⟨rfl, rfl⟩, Nat.le_of_ble_eq_true rfl, Nat.le_of_ble_eq_true rfl⟩ ⟨Nat.zero_le _, Nat.zero_le _⟩ rfl ?_
    refine aw_run (pc' := 20) hC [(.iload_n 1, 1, 0, 0, .null), (.i2l, 1, 0, 0, .null), (.lmul, 1, 0, 0, .null), (.lstore_n 2, 1, 0, 0, .null), (.lload_n 2, 1, 0, 0, .null), (.lconst 0, 1, 0, 0, .long 0), (.lcmp, 1, 0, 0, .null)] (by decide +kernel) [(0, .ref 17), (1, .int a1), (2, .long ((f_sp_lengthBottom σ) * a1.toInt64))] [.int (lg_cmp ((f_sp_lengthBottom σ) * a1.toInt64) 0)] σ rfl rfl ⟨trivial, trivial, trivial, trivial, trivial, trivial, trivial, trivial⟩ rfl ?_
    refine aw_if_gt (off := 7) hC 27 (lc_gt _ _) (by decide +kernel) (by decide) (fun h => ?_) (fun h => ?_)
    · have hF := (if_pos h).symm.trans hF
      refine aw_run (pc' := 28) hC [(.aload_n 0, 1, 0, 0, .null)] (by decide +kernel) [(0, .ref 17), (1, .int a1), (2, .long ((f_sp_lengthBottom σ) * a1.toInt64))] [.ref 17] σ rfl rfl ⟨trivial, trivial⟩ rfl ?_
      refine aw_callV hC hA (rest := []) (c_sp_lengthTop σ _ rfl) mt_X4_lengthTop ln_4_43 (by decide +kernel) ⟨_, rfl⟩ rfl rfl (Nat.le_of_ble_eq_true rfl) ⟨⟨rfl, rfl⟩, Nat.le_of_ble_eq_true rfl, Nat.le_of_ble_eq_true rfl⟩ ⟨Nat.zero_le _, Nat.zero_le _⟩ rfl ?_
      refine aw_run (pc' := 32) hC [(.lload_n 2, 1, 0, 0, .null)] (by decide +kernel) [(0, .ref 17), (1, .int a1), (2, .long ((f_sp_lengthBottom σ) * a1.toInt64))] [.long ((f_sp_lengthBottom σ) * a1.toInt64), .long (f_sp_lengthTop σ)] σ rfl rfl ⟨trivial, trivial⟩ rfl ?_
      obtain ⟨q1, eq1, hF⟩ := bd hF
      refine aw_callS hC hA (rest := []) (c_jm_floorDiv_f86c9 σ (f_sp_lengthTop σ) ((f_sp_lengthBottom σ) * a1.toInt64) q1 eq1) mt_J9_floorDiv_f86c9 ln_4_59 (by decide +kernel) rfl rfl (Nat.le_of_ble_eq_true rfl) ⟨⟨rfl, rfl⟩, Nat.le_of_ble_eq_true rfl, Nat.le_of_ble_eq_true rfl⟩ ⟨Nat.zero_le _, Nat.zero_le _⟩ rfl ?_
      refine aw_run (pc' := 36) hC [(.l2i, 1, 0, 0, .null)] (by decide +kernel) [(0, .ref 17), (1, .int a1), (2, .long ((f_sp_lengthBottom σ) * a1.toInt64))] [.int q1.toInt32] σ rfl rfl ⟨trivial, trivial⟩ rfl ?_
      exact aw_iret hC hr (by decide +kernel) (Option.some.inj hF) rfl
    · have hF := (if_neg h).symm.trans hF
      refine aw_run (pc' := 24) hC [(.iconst 0, 1, 0, 0, .int 0)] (by decide +kernel) [(0, .ref 17), (1, .int a1), (2, .long ((f_sp_lengthBottom σ) * a1.toInt64))] [.int 0] σ rfl rfl ⟨trivial, trivial⟩ rfl ?_
      refine aw_goto (off := 12) hC 36 (by decide +kernel) (by decide) ?_
      exact aw_iret hC hr (by decide +kernel) (Option.some.inj hF) rfl
  · have hF := (if_neg h).symm.trans hF
    refine aw_run (pc' := 8) hC [(.iconst 0, 1, 0, 0, .int 0)] (by decide +kernel) [(0, .ref 17), (1, .int a1)] [.int 0] σ rfl rfl ⟨trivial, trivial⟩ rfl ?_
    exact aw_iret hC hr (by decide +kernel) (Option.some.inj hF) rfl
def f_ss_lasts (N : Nat) (σ : Sg) (a1 : Int32) (a2 : Int32) : Option (Int32 × Sg) := if (f_ss_isHeight a1) = 0 then (some (-100000003, σ)) else (if (f_ss_isBit a2) = 0 then (some (-100000003, σ)) else (if (f_ss_allFit σ) = 0 then (some (-100000004, σ)) else ((f_ro_hasChord N σ).bind fun q1 => if q1 = 0 then (some (-100000004, σ)) else (if a2 = 0 then ((f_sp_measureHeld N σ a1).bind fun q4 => (f_sp_ticksDown q4 (q4.1 4 6)).bind fun q5 => some (q5, q4)) else ((f_sp_measureReached N σ a1).bind fun q2 => (f_sp_ticksUp q2 (q2.1 4 6)).bind fun q3 => some (q3, q2))))))
def rm_ss_lasts : Room := { frames := 4, cells := 0, slots := 0, locals := 98 }
set_option maxHeartbeats 4000000 in
set_option maxRecDepth 100000 in
theorem c_ss_lasts (N : Nat) (σ : Sg) (a1 : Int32) (a2 : Int32) (z : Int32 × Sg) (hF : f_ss_lasts N σ a1 a2 = some z) : Ctr yX6_lasts cX6_lasts 3 (some .int) rm_ss_lasts [.ref 0, .int a1, .int a2] σ (some (.int z.1)) z.2 := by
  refine ct_start 6 (by decide) rfl (fun ad => Nat.le_of_ble_eq_true rfl) [(0, .ref 0), (1, .int a1), (2, .int a2)] (fun ad => rfl) ?_
  intro p l e s m args below meth c D ad tc A hC hA hr
  unfold f_ss_lasts at hF
  refine aw_run (pc' := 1) hC [(.iload_n 1, 1, 0, 0, .null)] (by decide +kernel) [(0, .ref 0), (1, .int a1), (2, .int a2)] [.int a1] σ rfl rfl ⟨trivial, trivial⟩ rfl ?_
  refine aw_callS hC hA (rest := []) (c_ss_isHeight σ a1 _ rfl) mt_X6_isHeight ln_6_129 (by decide +kernel) rfl rfl (Nat.le_of_ble_eq_true rfl) ⟨⟨rfl, rfl⟩, Nat.le_of_ble_eq_true rfl, Nat.le_of_ble_eq_true rfl⟩ ⟨Nat.zero_le _, Nat.zero_le _⟩ rfl ?_
  refine aw_if_eq (off := 10) hC 14 Iff.rfl (by decide +kernel) (by decide) (fun h => ?_) (fun h => ?_)
  · have hF := (if_pos h).symm.trans hF
    refine aw_run (pc' := 16) hC [(.ldc 48, 2, 0, 0, .int (-100000003))] (by decide +kernel) [(0, .ref 0), (1, .int a1), (2, .int a2)] [.int (-100000003)] σ rfl rfl ⟨trivial, trivial⟩ rfl ?_
    exact aw_iret hC hr (by decide +kernel) (pS1 hF) (pS2 hF)
  · have hF := (if_neg h).symm.trans hF
    refine aw_run (pc' := 8) hC [(.iload_n 2, 1, 0, 0, .null)] (by decide +kernel) [(0, .ref 0), (1, .int a1), (2, .int a2)] [.int a2] σ rfl rfl ⟨trivial, trivial⟩ rfl ?_
    refine aw_callS hC hA (rest := []) (c_ss_isBit σ a2 _ rfl) mt_X6_isBit ln_6_148 (by decide +kernel) rfl rfl (Nat.le_of_ble_eq_true rfl) ⟨⟨rfl, rfl⟩, Nat.le_of_ble_eq_true rfl, Nat.le_of_ble_eq_true rfl⟩ ⟨Nat.zero_le _, Nat.zero_le _⟩ rfl ?_
    refine aw_if_ne (off := 6) hC 17 Iff.rfl (by decide +kernel) (by decide) (fun h => ?_) (fun h => ?_)
    · have hF := (if_neg h).symm.trans hF
      refine aw_run (pc' := 18) hC [(.aload_n 0, 1, 0, 0, .null)] (by decide +kernel) [(0, .ref 0), (1, .int a1), (2, .int a2)] [.ref 0] σ rfl rfl ⟨trivial, trivial⟩ rfl ?_
      refine aw_callV hC hA (rest := []) (c_ss_allFit σ _ rfl) mt_X6_allFit ln_6_132 (by decide +kernel) ⟨_, rfl⟩ rfl rfl (Nat.le_of_ble_eq_true rfl) ⟨⟨rfl, rfl⟩, Nat.le_of_ble_eq_true rfl, Nat.le_of_ble_eq_true rfl⟩ ⟨Nat.zero_le _, Nat.zero_le _⟩ rfl ?_
      refine aw_if_eq (off := 13) hC 34 Iff.rfl (by decide +kernel) (by decide) (fun h => ?_) (fun h => ?_)
      · have hF := (if_pos h).symm.trans hF
        refine aw_run (pc' := 36) hC [(.ldc 72, 2, 0, 0, .int (-100000004))] (by decide +kernel) [(0, .ref 0), (1, .int a1), (2, .int a2)] [.int (-100000004)] σ rfl rfl ⟨trivial, trivial⟩ rfl ?_
        exact aw_iret hC hr (by decide +kernel) (pS1 hF) (pS2 hF)
      · have hF := (if_neg h).symm.trans hF
        refine aw_run (pc' := 28) hC [(.aload_n 0, 1, 0, 0, .null), (.getfield 23, 3, 6, 2, .null)] (by decide +kernel) [(0, .ref 0), (1, .int a1), (2, .int a2)] [.ref 4] σ rfl rfl ⟨trivial, trivial, trivial⟩ rfl ?_
        obtain ⟨q1, eq1, hF⟩ := bd hF
        refine aw_callV hC hA (rest := []) (c_ro_hasChord N σ q1 eq1) mt_X3_hasChord ln_6_164 (by decide +kernel) ⟨_, rfl⟩ rfl rfl (Nat.le_of_ble_eq_true rfl) ⟨⟨rfl, rfl⟩, Nat.le_of_ble_eq_true rfl, Nat.le_of_ble_eq_true rfl⟩ ⟨Nat.zero_le _, Nat.zero_le _⟩ rfl ?_
        refine aw_if_ne (off := 6) hC 37 Iff.rfl (by decide +kernel) (by decide) (fun h => ?_) (fun h => ?_)
        · have hF := (if_neg h).symm.trans hF
          refine aw_run (pc' := 38) hC [(.iload_n 2, 1, 0, 0, .null)] (by decide +kernel) [(0, .ref 0), (1, .int a1), (2, .int a2)] [.int a2] σ rfl rfl ⟨trivial, trivial⟩ rfl ?_
          refine aw_if_ne (off := 30) hC 68 Iff.rfl (by decide +kernel) (by decide) (fun h => ?_) (fun h => ?_)
          · have hF := (if_neg h).symm.trans hF
            refine aw_run (pc' := 77) hC [(.aload_n 0, 1, 0, 0, .null), (.getfield 44, 3, 6, 5, .null), (.aload_n 0, 1, 0, 0, .null), (.getfield 23, 3, 6, 2, .null), (.iload_n 1, 1, 0, 0, .null)] (by decide +kernel) [(0, .ref 0), (1, .int a1), (2, .int a2)] [.int a1, .ref 4, .ref 17] σ rfl rfl ⟨trivial, trivial, trivial, trivial, trivial, trivial⟩ rfl ?_
            obtain ⟨q2, eq2, hF⟩ := bd hF
            refine aw_callV hC hA (rest := []) (c_sp_measureReached N σ a1 q2 eq2) mt_X4_measureReached ln_6_167 (by decide +kernel) ⟨_, rfl⟩ rfl rfl (Nat.le_of_ble_eq_true rfl) ⟨⟨rfl, rfl⟩, Nat.le_of_ble_eq_true rfl, Nat.le_of_ble_eq_true rfl⟩ ⟨Nat.zero_le _, Nat.zero_le _⟩ rfl ?_
            refine aw_run (pc' := 91) hC [(.aload_n 0, 1, 0, 0, .null), (.getfield 44, 3, 6, 5, .null), (.aload_n 0, 1, 0, 0, .null), (.getfield 23, 3, 6, 2, .null), (.getfield 118, 3, 3, 6, .null)] (by decide +kernel) [(0, .ref 0), (1, .int a1), (2, .int a2)] [.int (q2.1 4 6), .ref 17] q2 rfl rfl ⟨trivial, trivial, trivial, trivial, trivial, trivial⟩ rfl ?_
            obtain ⟨q3, eq3, hF⟩ := bd hF
            refine aw_callV hC hA (rest := []) (c_sp_ticksUp q2 (q2.1 4 6) q3 eq3) mt_X4_ticksUp ln_6_173 (by decide +kernel) ⟨_, rfl⟩ rfl rfl (Nat.le_of_ble_eq_true rfl) ⟨⟨rfl, rfl⟩, Nat.le_of_ble_eq_true rfl, Nat.le_of_ble_eq_true rfl⟩ ⟨Nat.zero_le _, Nat.zero_le _⟩ rfl ?_
            exact aw_iret hC hr (by decide +kernel) (pS1 hF) (pS2 hF)
          · have hF := (if_pos h).symm.trans hF
            refine aw_run (pc' := 50) hC [(.aload_n 0, 1, 0, 0, .null), (.getfield 44, 3, 6, 5, .null), (.aload_n 0, 1, 0, 0, .null), (.getfield 23, 3, 6, 2, .null), (.iload_n 1, 1, 0, 0, .null)] (by decide +kernel) [(0, .ref 0), (1, .int a1), (2, .int a2)] [.int a1, .ref 4, .ref 17] σ rfl rfl ⟨trivial, trivial, trivial, trivial, trivial, trivial⟩ rfl ?_
            obtain ⟨q4, eq4, hF⟩ := bd hF
            refine aw_callV hC hA (rest := []) (c_sp_measureHeld N σ a1 q4 eq4) mt_X4_measureHeld ln_6_157 (by decide +kernel) ⟨_, rfl⟩ rfl rfl (Nat.le_of_ble_eq_true rfl) ⟨⟨rfl, rfl⟩, Nat.le_of_ble_eq_true rfl, Nat.le_of_ble_eq_true rfl⟩ ⟨Nat.zero_le _, Nat.zero_le _⟩ rfl ?_
            refine aw_run (pc' := 64) hC [(.aload_n 0, 1, 0, 0, .null), (.getfield 44, 3, 6, 5, .null), (.aload_n 0, 1, 0, 0, .null), (.getfield 23, 3, 6, 2, .null), (.getfield 118, 3, 3, 6, .null)] (by decide +kernel) [(0, .ref 0), (1, .int a1), (2, .int a2)] [.int (q4.1 4 6), .ref 17] q4 rfl rfl ⟨trivial, trivial, trivial, trivial, trivial, trivial⟩ rfl ?_
            obtain ⟨q5, eq5, hF⟩ := bd hF
            refine aw_callV hC hA (rest := []) (c_sp_ticksDown q4 (q4.1 4 6) q5 eq5) mt_X4_ticksDown ln_6_170 (by decide +kernel) ⟨_, rfl⟩ rfl rfl (Nat.le_of_ble_eq_true rfl) ⟨⟨rfl, rfl⟩, Nat.le_of_ble_eq_true rfl, Nat.le_of_ble_eq_true rfl⟩ ⟨Nat.zero_le _, Nat.zero_le _⟩ rfl ?_
            exact aw_iret hC hr (by decide +kernel) (pS1 hF) (pS2 hF)
        · have hF := (if_pos h).symm.trans hF
          refine aw_run (pc' := 36) hC [(.ldc 72, 2, 0, 0, .int (-100000004))] (by decide +kernel) [(0, .ref 0), (1, .int a1), (2, .int a2)] [.int (-100000004)] σ rfl rfl ⟨trivial, trivial⟩ rfl ?_
          exact aw_iret hC hr (by decide +kernel) (pS1 hF) (pS2 hF)
    · have hF := (if_pos h).symm.trans hF
      refine aw_run (pc' := 16) hC [(.ldc 48, 2, 0, 0, .int (-100000003))] (by decide +kernel) [(0, .ref 0), (1, .int a1), (2, .int a2)] [.int (-100000003)] σ rfl rfl ⟨trivial, trivial⟩ rfl ?_
      exact aw_iret hC hr (by decide +kernel) (pS1 hF) (pS2 hF)
def f_ss_count (N : Nat) (σ : Sg) (a1 : Int32) : Option Int32 := if a1 = 0 then (some (σ.1 4 5)) else (if a1 = 1 then ((f_ro_missCount N σ).bind fun q1 => some q1) else (if a1 = 2 then (some (σ.1 0 6)) else (if a1 = 3 then (some (σ.1 4 6)) else (if a1 = 4 then (some (σ.1 0 7)) else (if a1 = 5 then (some (σ.1 0 8)) else (some (-100000003)))))))
def rm_ss_count : Room := { frames := 1, cells := 0, slots := 0, locals := 22 }
set_option maxHeartbeats 4000000 in
set_option maxRecDepth 100000 in
theorem c_ss_count (N : Nat) (σ : Sg) (a1 : Int32) (z : Int32) (hF : f_ss_count N σ a1 = some z) : Ctr yX6_count cX6_count 2 (some .int) rm_ss_count [.ref 0, .int a1] σ (some (.int z)) σ := by
  refine ct_start 6 (by decide) rfl (fun ad => Nat.le_of_ble_eq_true rfl) [(0, .ref 0), (1, .int a1)] (fun ad => rfl) ?_
  intro p l e s m args below meth c D ad tc A hC hA hr
  unfold f_ss_count at hF
  refine aw_run (pc' := 1) hC [(.iload_n 1, 1, 0, 0, .null)] (by decide +kernel) [(0, .ref 0), (1, .int a1)] [.int a1] σ rfl rfl ⟨trivial, trivial⟩ rfl ?_
  by_cases h1_0 : a1 = 0
  · have hF := (if_pos h1_0).symm.trans hF
    refine aw_tabIn (dflt := 78) (lo := 0) (hi := 5) (offs := #[39, 47, 55, 60, 68, 73]) (len := 39) hC 39 40 h1_0 (by decide +kernel) (by decide) (by decide) (by decide) (by decide) ?_
    refine aw_run (pc' := 47) hC [(.aload_n 0, 1, 0, 0, .null), (.getfield 23, 3, 6, 2, .null), (.getfield 86, 3, 3, 5, .null)] (by decide +kernel) [(0, .ref 0), (1, .int a1)] [.int (σ.1 4 5)] σ rfl rfl ⟨trivial, trivial, trivial, trivial⟩ rfl ?_
    exact aw_iret hC hr (by decide +kernel) (Option.some.inj hF) rfl
  · have hF := (if_neg h1_0).symm.trans hF
    by_cases h1_1 : a1 = 1
    · have hF := (if_pos h1_1).symm.trans hF
      refine aw_tabIn (dflt := 78) (lo := 0) (hi := 5) (offs := #[39, 47, 55, 60, 68, 73]) (len := 39) hC 47 48 h1_1 (by decide +kernel) (by decide) (by decide) (by decide) (by decide) ?_
      refine aw_run (pc' := 52) hC [(.aload_n 0, 1, 0, 0, .null), (.getfield 23, 3, 6, 2, .null)] (by decide +kernel) [(0, .ref 0), (1, .int a1)] [.ref 4] σ rfl rfl ⟨trivial, trivial, trivial⟩ rfl ?_
      obtain ⟨q1, eq1, hF⟩ := bd hF
      refine aw_callV hC hA (rest := []) (c_ro_missCount N σ q1 eq1) mt_X3_missCount ln_6_176 (by decide +kernel) ⟨_, rfl⟩ rfl rfl (Nat.le_of_ble_eq_true rfl) ⟨⟨rfl, rfl⟩, Nat.le_of_ble_eq_true rfl, Nat.le_of_ble_eq_true rfl⟩ ⟨Nat.zero_le _, Nat.zero_le _⟩ rfl ?_
      exact aw_iret hC hr (by decide +kernel) (Option.some.inj hF) rfl
    · have hF := (if_neg h1_1).symm.trans hF
      by_cases h1_2 : a1 = 2
      · have hF := (if_pos h1_2).symm.trans hF
        refine aw_tabIn (dflt := 78) (lo := 0) (hi := 5) (offs := #[39, 47, 55, 60, 68, 73]) (len := 39) hC 55 56 h1_2 (by decide +kernel) (by decide) (by decide) (by decide) (by decide) ?_
        refine aw_run (pc' := 60) hC [(.aload_n 0, 1, 0, 0, .null), (.getfield 49, 3, 6, 6, .null)] (by decide +kernel) [(0, .ref 0), (1, .int a1)] [.int (σ.1 0 6)] σ rfl rfl ⟨trivial, trivial, trivial⟩ rfl ?_
        exact aw_iret hC hr (by decide +kernel) (Option.some.inj hF) rfl
      · have hF := (if_neg h1_2).symm.trans hF
        by_cases h1_3 : a1 = 3
        · have hF := (if_pos h1_3).symm.trans hF
          refine aw_tabIn (dflt := 78) (lo := 0) (hi := 5) (offs := #[39, 47, 55, 60, 68, 73]) (len := 39) hC 60 61 h1_3 (by decide +kernel) (by decide) (by decide) (by decide) (by decide) ?_
          refine aw_run (pc' := 68) hC [(.aload_n 0, 1, 0, 0, .null), (.getfield 23, 3, 6, 2, .null), (.getfield 118, 3, 3, 6, .null)] (by decide +kernel) [(0, .ref 0), (1, .int a1)] [.int (σ.1 4 6)] σ rfl rfl ⟨trivial, trivial, trivial, trivial⟩ rfl ?_
          exact aw_iret hC hr (by decide +kernel) (Option.some.inj hF) rfl
        · have hF := (if_neg h1_3).symm.trans hF
          by_cases h1_4 : a1 = 4
          · have hF := (if_pos h1_4).symm.trans hF
            refine aw_tabIn (dflt := 78) (lo := 0) (hi := 5) (offs := #[39, 47, 55, 60, 68, 73]) (len := 39) hC 68 69 h1_4 (by decide +kernel) (by decide) (by decide) (by decide) (by decide) ?_
            refine aw_run (pc' := 73) hC [(.aload_n 0, 1, 0, 0, .null), (.getfield 80, 3, 6, 7, .null)] (by decide +kernel) [(0, .ref 0), (1, .int a1)] [.int (σ.1 0 7)] σ rfl rfl ⟨trivial, trivial, trivial⟩ rfl ?_
            exact aw_iret hC hr (by decide +kernel) (Option.some.inj hF) rfl
          · have hF := (if_neg h1_4).symm.trans hF
            by_cases h1_5 : a1 = 5
            · have hF := (if_pos h1_5).symm.trans hF
              refine aw_tabIn (dflt := 78) (lo := 0) (hi := 5) (offs := #[39, 47, 55, 60, 68, 73]) (len := 39) hC 73 74 h1_5 (by decide +kernel) (by decide) (by decide) (by decide) (by decide) ?_
              refine aw_run (pc' := 78) hC [(.aload_n 0, 1, 0, 0, .null), (.getfield 98, 3, 6, 8, .null)] (by decide +kernel) [(0, .ref 0), (1, .int a1)] [.int (σ.1 0 8)] σ rfl rfl ⟨trivial, trivial, trivial⟩ rfl ?_
              exact aw_iret hC hr (by decide +kernel) (Option.some.inj hF) rfl
            · have hF := (if_neg h1_5).symm.trans hF
              refine aw_tabOut (dflt := 78) (lo := 0) (hi := 5) (offs := #[39, 47, 55, 60, 68, 73]) (len := 39) hC 79 (by decide +kernel) (by have q0 := tn h1_0 (k := 0) (by decide); have q1 := tn h1_1 (k := 1) (by decide); have q2 := tn h1_2 (k := 2) (by decide); have q3 := tn h1_3 (k := 3) (by decide); have q4 := tn h1_4 (k := 4) (by decide); have q5 := tn h1_5 (k := 5) (by decide); omega) (by decide) ?_
              refine aw_run (pc' := 81) hC [(.ldc 48, 2, 0, 0, .int (-100000003))] (by decide +kernel) [(0, .ref 0), (1, .int a1)] [.int (-100000003)] σ rfl rfl ⟨trivial, trivial⟩ rfl ?_
              exact aw_iret hC hr (by decide +kernel) (Option.some.inj hF) rfl
def f_ss_mixKernel_c34_s (N : Nat) (kc34 : Int64 → Int32 → Sg → Option Int64) (a3 : Int64) (a5 : Int32) (σ : Sg) : Option Int64 := if (σ.1 12 5) ≤ a5 then (some a3) else ((f_ss_corner σ a5 0).bind fun q1 => (f_ss_corner σ a5 1).bind fun q2 => kc34 ((31 * ((31 * a3) + q1.toInt64)) + q2.toInt64) (a5 + 1) σ)
def f_ss_mixKernel_c34 (N : Nat) : Nat → Int64 → Int32 → Sg → Option Int64
  | 0 => fun _ _ _ => none
  | n + 1 => f_ss_mixKernel_c34_s N (f_ss_mixKernel_c34 N n)
def f_ss_mixKernel_c5_s (N : Nat) (kc5 : Int64 → Int32 → Sg → Option Int64) (a3 : Int64) (a5 : Int32) (σ : Sg) : Option Int64 := if (3 : Int32) < a5 then (f_ss_mixKernel_c34 N N a3 0 σ) else ((f_ss_kernel N σ a5).bind fun q3 => kc5 ((31 * a3) + q3.toInt64) (a5 + 1) σ)
def f_ss_mixKernel_c5 (N : Nat) : Nat → Int64 → Int32 → Sg → Option Int64
  | 0 => fun _ _ _ => none
  | n + 1 => f_ss_mixKernel_c5_s N (f_ss_mixKernel_c5 N n)
def f_ss_mixKernel (N : Nat) (σ : Sg) (a1 : Int64) : Option Int64 := f_ss_mixKernel_c5 N N a1 0 σ
def rm_ss_mixKernel : Room := { frames := 4, cells := 0, slots := 0, locals := 94 }
set_option maxHeartbeats 4000000 in
set_option maxRecDepth 100000 in
theorem c_ss_mixKernel (N : Nat) (σ : Sg) (a1 : Int64) (z : Int64) (hF : f_ss_mixKernel N σ a1 = some z) : Ctr yX6_mixKernel cX6_mixKernel 6 (some .long) rm_ss_mixKernel [.ref 0, .long a1] σ (some (.long z)) σ := by
  refine ct_start 6 (by decide) rfl (fun ad => Nat.le_of_ble_eq_true rfl) [(0, .ref 0), (1, .long a1)] (fun ad => rfl) ?_
  intro p l e s m args below meth c D ad tc A hC hA hr
  have Jc34 : ∀ (n : Nat) (a3 : Int64) (a5 : Int32), f_ss_mixKernel_c34 N n a3 a5 σ = some z → AW p l e rm_ss_mixKernel s m args below meth c D ad tc 6 A s.heap 0 0 (MQ below (Qr (some (.long z)) D ad tc σ A) args s 0 0 A) 34 [(0, .ref 0), (3, .long a3), (5, .int a5)] [] σ := by
    intro n
    induction n with
    | zero =>
      intro a3 a5 hF
      cases hF
    | succ n ih =>
      intro a3 a5 hF
      have hF : f_ss_mixKernel_c34_s N (f_ss_mixKernel_c34 N n) a3 a5 σ = some z := hF
      unfold f_ss_mixKernel_c34_s at hF
      refine aw_run (pc' := 43) hC [(.iload 5, 2, 0, 0, .null), (.aload_n 0, 1, 0, 0, .null), (.getfield 37, 3, 6, 4, .null), (.getfield 138, 3, 1, 5, .null)] (by decide +kernel) [(0, .ref 0), (3, .long a3), (5, .int a5)] [.int (σ.1 12 5), .int a5] σ rfl rfl ⟨trivial, trivial, trivial, trivial, trivial⟩ rfl ?_
      refine aw_icmp_ge (off := 39) hC 82 (by decide +kernel) (by decide) (fun h => ?_) (fun h => ?_)
      · have hF := (if_pos h).symm.trans hF
        refine aw_run (pc' := 83) hC [(.lload_n 3, 1, 0, 0, .null)] (by decide +kernel) [(0, .ref 0), (3, .long a3), (5, .int a5)] [.long a3] σ rfl rfl ⟨trivial, trivial⟩ rfl ?_
        exact aw_lret hC hr (by decide +kernel) (Option.some.inj hF) rfl
      · have hF := (if_neg h).symm.trans hF
        refine aw_run (pc' := 55) hC [(.ldc2_w 181, 3, 0, 0, .long 31), (.lload_n 3, 1, 0, 0, .null), (.lmul, 1, 0, 0, .null), (.aload_n 0, 1, 0, 0, .null), (.iload 5, 2, 0, 0, .null), (.iconst 0, 1, 0, 0, .int 0)] (by decide +kernel) [(0, .ref 0), (3, .long a3), (5, .int a5)] [.int 0, .int a5, .ref 0, .long (31 * a3)] σ rfl rfl ⟨trivial, trivial, trivial, trivial, trivial, trivial, trivial⟩ rfl ?_
        obtain ⟨q1, eq1, hF⟩ := bd hF
        refine aw_callV hC hA (rest := [.long (31 * a3)]) (c_ss_corner σ a5 0 q1 eq1) mt_X6_corner ln_6_205 (by decide +kernel) ⟨_, rfl⟩ rfl rfl (Nat.le_of_ble_eq_true rfl) ⟨⟨rfl, rfl⟩, Nat.le_of_ble_eq_true rfl, Nat.le_of_ble_eq_true rfl⟩ ⟨Nat.zero_le _, Nat.zero_le _⟩ rfl ?_
        refine aw_run (pc' := 70) hC [(.i2l, 1, 0, 0, .null), (.ladd, 1, 0, 0, .null), (.lstore_n 3, 1, 0, 0, .null), (.ldc2_w 181, 3, 0, 0, .long 31), (.lload_n 3, 1, 0, 0, .null), (.lmul, 1, 0, 0, .null), (.aload_n 0, 1, 0, 0, .null), (.iload 5, 2, 0, 0, .null), (.iconst 1, 1, 0, 0, .int 1)] (by decide +kernel) [(0, .ref 0), (3, .long ((31 * a3) + q1.toInt64)), (5, .int a5)] [.int 1, .int a5, .ref 0, .long (31 * ((31 * a3) + q1.toInt64))] σ rfl rfl ⟨trivial, trivial, trivial, trivial, trivial, trivial, trivial, trivial, trivial, trivial⟩ rfl ?_
        obtain ⟨q2, eq2, hF⟩ := bd hF
        refine aw_callV hC hA (rest := [.long (31 * ((31 * a3) + q1.toInt64))]) (c_ss_corner σ a5 1 q2 eq2) mt_X6_corner ln_6_205 (by decide +kernel) ⟨_, rfl⟩ rfl rfl (Nat.le_of_ble_eq_true rfl) ⟨⟨rfl, rfl⟩, Nat.le_of_ble_eq_true rfl, Nat.le_of_ble_eq_true rfl⟩ ⟨Nat.zero_le _, Nat.zero_le _⟩ rfl ?_
        refine aw_run (pc' := 79) hC [(.i2l, 1, 0, 0, .null), (.ladd, 1, 0, 0, .null), (.lstore_n 3, 1, 0, 0, .null), (.iinc 5 1, 3, 0, 0, .int 1)] (by decide +kernel) [(0, .ref 0), (3, .long ((31 * ((31 * a3) + q1.toInt64)) + q2.toInt64)), (5, .int (a5 + 1))] [] σ rfl rfl ⟨trivial, trivial, trivial, trivial, trivial⟩ rfl ?_
        refine aw_goto (off := -45) hC 34 (by decide +kernel) (by decide) ?_
        exact ih ((31 * ((31 * a3) + q1.toInt64)) + q2.toInt64) (a5 + 1) hF
  have Jc5 : ∀ (n : Nat) (a3 : Int64) (a5 : Int32), f_ss_mixKernel_c5 N n a3 a5 σ = some z → AW p l e rm_ss_mixKernel s m args below meth c D ad tc 6 A s.heap 0 0 (MQ below (Qr (some (.long z)) D ad tc σ A) args s 0 0 A) 5 [(0, .ref 0), (3, .long a3), (5, .int a5)] [] σ := by
    intro n
    induction n with
    | zero =>
      intro a3 a5 hF
      cases hF
    | succ n ih =>
      intro a3 a5 hF
      have hF : f_ss_mixKernel_c5_s N (f_ss_mixKernel_c5 N n) a3 a5 σ = some z := hF
      unfold f_ss_mixKernel_c5_s at hF
      refine aw_run (pc' := 8) hC [(.iload 5, 2, 0, 0, .null), (.iconst 3, 1, 0, 0, .int 3)] (by decide +kernel) [(0, .ref 0), (3, .long a3), (5, .int a5)] [.int 3, .int a5] σ rfl rfl ⟨trivial, trivial, trivial⟩ rfl ?_
      refine aw_icmp_gt (off := 23) hC 31 (by decide +kernel) (by decide) (fun h => ?_) (fun h => ?_)
      · have hF := (if_pos h).symm.trans hF
        refine aw_run (pc' := 34) hC [(.iconst 0, 1, 0, 0, .int 0), (.istore 5, 2, 0, 0, .null)] (by decide +kernel) [(0, .ref 0), (3, .long a3), (5, .int 0)] [] σ rfl rfl ⟨trivial, trivial, trivial⟩ rfl ?_
        exact Jc34 N a3 0 hF
      · have hF := (if_neg h).symm.trans hF
        refine aw_run (pc' := 19) hC [(.ldc2_w 181, 3, 0, 0, .long 31), (.lload_n 3, 1, 0, 0, .null), (.lmul, 1, 0, 0, .null), (.aload_n 0, 1, 0, 0, .null), (.iload 5, 2, 0, 0, .null)] (by decide +kernel) [(0, .ref 0), (3, .long a3), (5, .int a5)] [.int a5, .ref 0, .long (31 * a3)] σ rfl rfl ⟨trivial, trivial, trivial, trivial, trivial, trivial⟩ rfl ?_
        obtain ⟨q3, eq3, hF⟩ := bd hF
        refine aw_callV hC hA (rest := [.long (31 * a3)]) (c_ss_kernel N σ a5 q3 eq3) mt_X6_kernel ln_6_202 (by decide +kernel) ⟨_, rfl⟩ rfl rfl (Nat.le_of_ble_eq_true rfl) ⟨⟨rfl, rfl⟩, Nat.le_of_ble_eq_true rfl, Nat.le_of_ble_eq_true rfl⟩ ⟨Nat.zero_le _, Nat.zero_le _⟩ rfl ?_
        refine aw_run (pc' := 28) hC [(.i2l, 1, 0, 0, .null), (.ladd, 1, 0, 0, .null), (.lstore_n 3, 1, 0, 0, .null), (.iinc 5 1, 3, 0, 0, .int 1)] (by decide +kernel) [(0, .ref 0), (3, .long ((31 * a3) + q3.toInt64)), (5, .int (a5 + 1))] [] σ rfl rfl ⟨trivial, trivial, trivial, trivial, trivial⟩ rfl ?_
        refine aw_goto (off := -23) hC 5 (by decide +kernel) (by decide) ?_
        exact ih ((31 * a3) + q3.toInt64) (a5 + 1) hF
  unfold f_ss_mixKernel at hF
  refine aw_run (pc' := 5) hC [(.lload_n 1, 1, 0, 0, .null), (.lstore_n 3, 1, 0, 0, .null), (.iconst 0, 1, 0, 0, .int 0), (.istore 5, 2, 0, 0, .null)] (by decide +kernel) [(0, .ref 0), (1, .long a1), (3, .long a1), (5, .int 0)] [] σ rfl rfl ⟨trivial, trivial, trivial, trivial, trivial⟩ rfl ?_
  refine aw_pick [0, 2, 3] [(0, .ref 0), (3, .long a1), (5, .int 0)] rfl ?_
  exact Jc5 N a1 0 hF
def f_ss_mixReach_c18_s (N : Nat) (kc7 : Int64 → Int32 → Sg → Option (Int64 × Sg)) (kc18 : Int64 → Int32 → Int32 → Sg → Option (Int64 × Sg)) (a3 : Int64) (a5 : Int32) (a6 : Int32) (σ : Sg) : Option (Int64 × Sg) := if (1 : Int32) < a6 then (kc7 a3 (a5 + 50) σ) else ((f_ss_reach N σ a5 a6 0).bind fun q1 => (f_ss_reach N q1.2 a5 a6 1).bind fun q2 => kc18 ((31 * ((31 * a3) + q1.1.toInt64)) + q2.1.toInt64) a5 (a6 + 1) q2.2)
def f_ss_mixReach_c18 (N : Nat) (kc7 : Int64 → Int32 → Sg → Option (Int64 × Sg)) : Nat → Int64 → Int32 → Int32 → Sg → Option (Int64 × Sg)
  | 0 => fun _ _ _ _ => none
  | n + 1 => f_ss_mixReach_c18_s N kc7 (f_ss_mixReach_c18 N kc7 n)
def f_ss_mixReach_c7_s (N : Nat) (kc7 : Int64 → Int32 → Sg → Option (Int64 × Sg)) (a3 : Int64) (a5 : Int32) (σ : Sg) : Option (Int64 × Sg) := if (200 : Int32) < a5 then (some (a3, σ)) else (f_ss_mixReach_c18 N kc7 N a3 a5 0 σ)
def f_ss_mixReach_c7 (N : Nat) : Nat → Int64 → Int32 → Sg → Option (Int64 × Sg)
  | 0 => fun _ _ _ => none
  | n + 1 => f_ss_mixReach_c7_s N (f_ss_mixReach_c7 N n)
def f_ss_mixReach (N : Nat) (σ : Sg) (a1 : Int64) : Option (Int64 × Sg) := f_ss_mixReach_c7 N N a1 (-200) σ
def rm_ss_mixReach : Room := { frames := 5, cells := 0, slots := 0, locals := 121 }
set_option maxHeartbeats 4000000 in
set_option maxRecDepth 100000 in
theorem c_ss_mixReach (N : Nat) (σ : Sg) (a1 : Int64) (z : Int64 × Sg) (hF : f_ss_mixReach N σ a1 = some z) : Ctr yX6_mixReach cX6_mixReach 7 (some .long) rm_ss_mixReach [.ref 0, .long a1] σ (some (.long z.1)) z.2 := by
  refine ct_start 6 (by decide) rfl (fun ad => Nat.le_of_ble_eq_true rfl) [(0, .ref 0), (1, .long a1)] (fun ad => rfl) ?_
  intro p l e s m args below meth c D ad tc A hC hA hr
  have Jc18 : ∀ (kc7 : Int64 → Int32 → Sg → Option (Int64 × Sg)) (Hc7 : ∀ (a3 : Int64) (a5 : Int32) (σ : Sg), kc7 a3 a5 σ = some z → AW p l e rm_ss_mixReach s m args below meth c D ad tc 7 A s.heap 0 0 (MQ below (Qr (some (.long z.1)) D ad tc z.2 A) args s 0 0 A) 7 [(0, .ref 0), (3, .long a3), (5, .int a5)] [] σ) (n : Nat) (a3 : Int64) (a5 : Int32) (a6 : Int32) (σ : Sg), f_ss_mixReach_c18 N kc7 n a3 a5 a6 σ = some z → AW p l e rm_ss_mixReach s m args below meth c D ad tc 7 A s.heap 0 0 (MQ below (Qr (some (.long z.1)) D ad tc z.2 A) args s 0 0 A) 18 [(0, .ref 0), (3, .long a3), (5, .int a5), (6, .int a6)] [] σ := by
    intro kc7 Hc7 n
    induction n with
    | zero =>
      intro a3 a5 a6 σ hF
      cases hF
    | succ n ih =>
      intro a3 a5 a6 σ hF
      have hF : f_ss_mixReach_c18_s N kc7 (f_ss_mixReach_c18 N kc7 n) a3 a5 a6 σ = some z := hF
      unfold f_ss_mixReach_c18_s at hF
      refine aw_run (pc' := 21) hC [(.iload 6, 2, 0, 0, .null), (.iconst 1, 1, 0, 0, .int 1)] (by decide +kernel) [(0, .ref 0), (3, .long a3), (5, .int a5), (6, .int a6)] [.int 1, .int a6] σ rfl rfl ⟨trivial, trivial, trivial⟩ rfl ?_
      refine aw_icmp_gt (off := 43) hC 64 (by decide +kernel) (by decide) (fun h => ?_) (fun h => ?_)
      · have hF := (if_pos h).symm.trans hF
        refine aw_run (pc' := 67) hC [(.iinc 5 50, 3, 0, 0, .int 50)] (by decide +kernel) [(0, .ref 0), (3, .long a3), (5, .int (a5 + 50)), (6, .int a6)] [] σ rfl rfl ⟨trivial, trivial⟩ rfl ?_
        refine aw_goto (off := -60) hC 7 (by decide +kernel) (by decide) ?_
        refine aw_pick [0, 1, 2] [(0, .ref 0), (3, .long a3), (5, .int (a5 + 50))] rfl ?_
        exact Hc7 a3 (a5 + 50) σ hF
      · have hF := (if_neg h).symm.trans hF
        refine aw_run (pc' := 35) hC [(.ldc2_w 181, 3, 0, 0, .long 31), (.lload_n 3, 1, 0, 0, .null), (.lmul, 1, 0, 0, .null), (.aload_n 0, 1, 0, 0, .null), (.iload 5, 2, 0, 0, .null), (.iload 6, 2, 0, 0, .null), (.iconst 0, 1, 0, 0, .int 0)] (by decide +kernel) [(0, .ref 0), (3, .long a3), (5, .int a5), (6, .int a6)] [.int 0, .int a6, .int a5, .ref 0, .long (31 * a3)] σ rfl rfl ⟨trivial, trivial, trivial, trivial, trivial, trivial, trivial, trivial⟩ rfl ?_
        obtain ⟨q1, eq1, hF⟩ := bd hF
        refine aw_callV hC hA (rest := [.long (31 * a3)]) (c_ss_reach N σ a5 a6 0 q1 eq1) mt_X6_reach ln_6_208 (by decide +kernel) ⟨_, rfl⟩ rfl rfl (Nat.le_of_ble_eq_true rfl) ⟨⟨rfl, rfl⟩, Nat.le_of_ble_eq_true rfl, Nat.le_of_ble_eq_true rfl⟩ ⟨Nat.zero_le _, Nat.zero_le _⟩ rfl ?_
        refine aw_run (pc' := 52) hC [(.i2l, 1, 0, 0, .null), (.ladd, 1, 0, 0, .null), (.lstore_n 3, 1, 0, 0, .null), (.ldc2_w 181, 3, 0, 0, .long 31), (.lload_n 3, 1, 0, 0, .null), (.lmul, 1, 0, 0, .null), (.aload_n 0, 1, 0, 0, .null), (.iload 5, 2, 0, 0, .null), (.iload 6, 2, 0, 0, .null), (.iconst 1, 1, 0, 0, .int 1)] (by decide +kernel) [(0, .ref 0), (3, .long ((31 * a3) + q1.1.toInt64)), (5, .int a5), (6, .int a6)] [.int 1, .int a6, .int a5, .ref 0, .long (31 * ((31 * a3) + q1.1.toInt64))] q1.2 rfl rfl ⟨trivial, trivial, trivial, trivial, trivial, trivial, trivial, trivial, trivial, trivial, trivial⟩ rfl ?_
        obtain ⟨q2, eq2, hF⟩ := bd hF
        refine aw_callV hC hA (rest := [.long (31 * ((31 * a3) + q1.1.toInt64))]) (c_ss_reach N q1.2 a5 a6 1 q2 eq2) mt_X6_reach ln_6_208 (by decide +kernel) ⟨_, rfl⟩ rfl rfl (Nat.le_of_ble_eq_true rfl) ⟨⟨rfl, rfl⟩, Nat.le_of_ble_eq_true rfl, Nat.le_of_ble_eq_true rfl⟩ ⟨Nat.zero_le _, Nat.zero_le _⟩ rfl ?_
        refine aw_run (pc' := 61) hC [(.i2l, 1, 0, 0, .null), (.ladd, 1, 0, 0, .null), (.lstore_n 3, 1, 0, 0, .null), (.iinc 6 1, 3, 0, 0, .int 1)] (by decide +kernel) [(0, .ref 0), (3, .long ((31 * ((31 * a3) + q1.1.toInt64)) + q2.1.toInt64)), (5, .int a5), (6, .int (a6 + 1))] [] q2.2 rfl rfl ⟨trivial, trivial, trivial, trivial, trivial⟩ rfl ?_
        refine aw_goto (off := -43) hC 18 (by decide +kernel) (by decide) ?_
        exact ih ((31 * ((31 * a3) + q1.1.toInt64)) + q2.1.toInt64) a5 (a6 + 1) q2.2 hF
  have Jc7 : ∀ (n : Nat) (a3 : Int64) (a5 : Int32) (σ : Sg), f_ss_mixReach_c7 N n a3 a5 σ = some z → AW p l e rm_ss_mixReach s m args below meth c D ad tc 7 A s.heap 0 0 (MQ below (Qr (some (.long z.1)) D ad tc z.2 A) args s 0 0 A) 7 [(0, .ref 0), (3, .long a3), (5, .int a5)] [] σ := by
    intro n
    induction n with
    | zero =>
      intro a3 a5 σ hF
      cases hF
    | succ n ih =>
      intro a3 a5 σ hF
      have hF : f_ss_mixReach_c7_s N (f_ss_mixReach_c7 N n) a3 a5 σ = some z := hF
      unfold f_ss_mixReach_c7_s at hF
      refine aw_run (pc' := 12) hC [(.iload 5, 2, 0, 0, .null), (.sipush 200, 3, 0, 0, .int 200)] (by decide +kernel) [(0, .ref 0), (3, .long a3), (5, .int a5)] [.int 200, .int a5] σ rfl rfl ⟨trivial, trivial, trivial⟩ rfl ?_
      refine aw_icmp_gt (off := 58) hC 70 (by decide +kernel) (by decide) (fun h => ?_) (fun h => ?_)
      · have hF := (if_pos h).symm.trans hF
        refine aw_run (pc' := 71) hC [(.lload_n 3, 1, 0, 0, .null)] (by decide +kernel) [(0, .ref 0), (3, .long a3), (5, .int a5)] [.long a3] σ rfl rfl ⟨trivial, trivial⟩ rfl ?_
        exact aw_lret hC hr (by decide +kernel) (pS1 hF) (pS2 hF)
      · have hF := (if_neg h).symm.trans hF
        refine aw_run (pc' := 18) hC [(.iconst 0, 1, 0, 0, .int 0), (.istore 6, 2, 0, 0, .null)] (by decide +kernel) [(0, .ref 0), (3, .long a3), (5, .int a5), (6, .int 0)] [] σ rfl rfl ⟨trivial, trivial, trivial⟩ rfl ?_
        exact Jc18 (f_ss_mixReach_c7 N n) ih N a3 a5 0 σ hF
  unfold f_ss_mixReach at hF
  refine aw_run (pc' := 7) hC [(.lload_n 1, 1, 0, 0, .null), (.lstore_n 3, 1, 0, 0, .null), (.sipush (-200), 3, 0, 0, .int (-200)), (.istore 5, 2, 0, 0, .null)] (by decide +kernel) [(0, .ref 0), (1, .long a1), (3, .long a1), (5, .int (-200))] [] σ rfl rfl ⟨trivial, trivial, trivial, trivial, trivial⟩ rfl ?_
  refine aw_pick [0, 2, 3] [(0, .ref 0), (3, .long a1), (5, .int (-200))] rfl ?_
  exact Jc7 N a1 (-200) σ hF
def f_ss_digest_c148_s (N : Nat) (kc148 : Int64 → Int32 → Sg → Option (Int64 × Sg)) (a1 : Int64) (a3 : Int32) (σ : Sg) : Option (Int64 × Sg) := if (5 : Int32) < a3 then (some (a1, σ)) else ((f_ss_count N σ a3).bind fun q1 => kc148 ((31 * a1) + q1.toInt64) (a3 + 1) σ)
def f_ss_digest_c148 (N : Nat) : Nat → Int64 → Int32 → Sg → Option (Int64 × Sg)
  | 0 => fun _ _ _ => none
  | n + 1 => f_ss_digest_c148_s N (f_ss_digest_c148 N n)
def f_ss_digest_c109_s (N : Nat) (kc109 : Int64 → Int32 → Sg → Option (Int64 × Sg)) (a1 : Int64) (a3 : Int32) (σ : Sg) : Option (Int64 × Sg) := if (σ.1 0 6) ≤ a3 then (f_ss_digest_c148 N N a1 0 σ) else (if (24 : Int32) ≤ a3 then (f_ss_digest_c148 N N a1 0 σ) else (if ib a3 24 then kc109 ((31 * a1) + (σ.1 1 a3.toNatClampNeg).toInt64) (a3 + 1) σ else none))
def f_ss_digest_c109 (N : Nat) : Nat → Int64 → Int32 → Sg → Option (Int64 × Sg)
  | 0 => fun _ _ _ => none
  | n + 1 => f_ss_digest_c109_s N (f_ss_digest_c109 N n)
def f_ss_digest_c20_s (N : Nat) (kc6 : Int64 → Int32 → Sg → Option (Int64 × Sg)) (kc20 : Int64 → Int32 → Int32 → Sg → Option (Int64 × Sg)) (a1 : Int64) (a3 : Int32) (a4 : Int32) (σ : Sg) : Option (Int64 × Sg) := if (8 : Int32) < a4 then (kc6 a1 (a3 + 1) σ) else ((f_ss_station σ a3 a4).bind fun q6 => kc20 ((31 * a1) + q6.toInt64) a3 (a4 + 1) σ)
def f_ss_digest_c20 (N : Nat) (kc6 : Int64 → Int32 → Sg → Option (Int64 × Sg)) : Nat → Int64 → Int32 → Int32 → Sg → Option (Int64 × Sg)
  | 0 => fun _ _ _ _ => none
  | n + 1 => f_ss_digest_c20_s N kc6 (f_ss_digest_c20 N kc6 n)
def f_ss_digest_c6_s (N : Nat) (kc6 : Int64 → Int32 → Sg → Option (Int64 × Sg)) (a1 : Int64) (a3 : Int32) (σ : Sg) : Option (Int64 × Sg) := if (σ.1 4 5) ≤ a3 then (if (f_ss_allFit σ) = 0 then (f_ss_digest_c109 N N ((31 * ((31 * a1) + (f_ss_fits σ).toInt64)) + (f_ss_wrong σ).toInt64) 0 σ) else ((f_ss_mixKernel N σ ((31 * ((31 * a1) + (f_ss_fits σ).toInt64)) + (f_ss_wrong σ).toInt64)).bind fun q3 => (f_ro_hasChord N σ).bind fun q4 => if q4 = 0 then (f_ss_digest_c109 N N q3 0 σ) else ((f_ss_mixReach N σ q3).bind fun q5 => f_ss_digest_c109 N N q5.1 0 q5.2))) else (f_ss_digest_c20 N kc6 N a1 a3 0 σ)
def f_ss_digest_c6 (N : Nat) : Nat → Int64 → Int32 → Sg → Option (Int64 × Sg)
  | 0 => fun _ _ _ => none
  | n + 1 => f_ss_digest_c6_s N (f_ss_digest_c6 N n)
def f_ss_digest (N : Nat) (σ : Sg) : Option (Int64 × Sg) := f_ss_digest_c6 N N 1613 0 σ
def rm_ss_digest : Room := { frames := 6, cells := 0, slots := 0, locals := 147 }
set_option maxHeartbeats 4000000 in
set_option maxRecDepth 100000 in
theorem c_ss_digest (N : Nat) (σ : Sg) (z : Int64 × Sg) (hF : f_ss_digest N σ = some z) : Ctr yX6_digest cX6_digest 5 (some .long) rm_ss_digest [.ref 0] σ (some (.long z.1)) z.2 := by
  refine ct_start 6 (by decide) rfl (fun ad => Nat.le_of_ble_eq_true rfl) [(0, .ref 0)] (fun ad => rfl) ?_
  intro p l e s m args below meth c D ad tc A hC hA hr
  have Jc148 : ∀ (n : Nat) (a1 : Int64) (a3 : Int32) (σ : Sg), f_ss_digest_c148 N n a1 a3 σ = some z → AW p l e rm_ss_digest s m args below meth c D ad tc 5 A s.heap 0 0 (MQ below (Qr (some (.long z.1)) D ad tc z.2 A) args s 0 0 A) 148 [(0, .ref 0), (1, .long a1), (3, .int a3)] [] σ := by
    intro n
    induction n with
    | zero =>
      intro a1 a3 σ hF
      cases hF
    | succ n ih =>
      intro a1 a3 σ hF
      have hF : f_ss_digest_c148_s N (f_ss_digest_c148 N n) a1 a3 σ = some z := hF
      unfold f_ss_digest_c148_s at hF
      refine aw_run (pc' := 150) hC [(.iload_n 3, 1, 0, 0, .null), (.iconst 5, 1, 0, 0, .int 5)] (by decide +kernel) [(0, .ref 0), (1, .long a1), (3, .int a3)] [.int 5, .int a3] σ rfl rfl ⟨trivial, trivial, trivial⟩ rfl ?_
      refine aw_icmp_gt (off := 22) hC 172 (by decide +kernel) (by decide) (fun h => ?_) (fun h => ?_)
      · have hF := (if_pos h).symm.trans hF
        refine aw_run (pc' := 173) hC [(.lload_n 1, 1, 0, 0, .null)] (by decide +kernel) [(0, .ref 0), (1, .long a1), (3, .int a3)] [.long a1] σ rfl rfl ⟨trivial, trivial⟩ rfl ?_
        exact aw_lret hC hr (by decide +kernel) (pS1 hF) (pS2 hF)
      · have hF := (if_neg h).symm.trans hF
        refine aw_run (pc' := 160) hC [(.ldc2_w 181, 3, 0, 0, .long 31), (.lload_n 1, 1, 0, 0, .null), (.lmul, 1, 0, 0, .null), (.aload_n 0, 1, 0, 0, .null), (.iload_n 3, 1, 0, 0, .null)] (by decide +kernel) [(0, .ref 0), (1, .long a1), (3, .int a3)] [.int a3, .ref 0, .long (31 * a1)] σ rfl rfl ⟨trivial, trivial, trivial, trivial, trivial, trivial⟩ rfl ?_
        obtain ⟨q1, eq1, hF⟩ := bd hF
        refine aw_callV hC hA (rest := [.long (31 * a1)]) (c_ss_count N σ a3 q1 eq1) mt_X6_count ln_6_199 (by decide +kernel) ⟨_, rfl⟩ rfl rfl (Nat.le_of_ble_eq_true rfl) ⟨⟨rfl, rfl⟩, Nat.le_of_ble_eq_true rfl, Nat.le_of_ble_eq_true rfl⟩ ⟨Nat.zero_le _, Nat.zero_le _⟩ rfl ?_
        refine aw_run (pc' := 169) hC [(.i2l, 1, 0, 0, .null), (.ladd, 1, 0, 0, .null), (.lstore_n 1, 1, 0, 0, .null), (.iinc 3 1, 3, 0, 0, .int 1)] (by decide +kernel) [(0, .ref 0), (1, .long ((31 * a1) + q1.toInt64)), (3, .int (a3 + 1))] [] σ rfl rfl ⟨trivial, trivial, trivial, trivial, trivial⟩ rfl ?_
        refine aw_goto (off := -21) hC 148 (by decide +kernel) (by decide) ?_
        exact ih ((31 * a1) + q1.toInt64) (a3 + 1) σ hF
  have Jc109 : ∀ (n : Nat) (a1 : Int64) (a3 : Int32) (σ : Sg), f_ss_digest_c109 N n a1 a3 σ = some z → AW p l e rm_ss_digest s m args below meth c D ad tc 5 A s.heap 0 0 (MQ below (Qr (some (.long z.1)) D ad tc z.2 A) args s 0 0 A) 109 [(0, .ref 0), (1, .long a1), (3, .int a3)] [] σ := by
    intro n
    induction n with
    | zero =>
      intro a1 a3 σ hF
      cases hF
    | succ n ih =>
      intro a1 a3 σ hF
      have hF : f_ss_digest_c109_s N (f_ss_digest_c109 N n) a1 a3 σ = some z := hF
      unfold f_ss_digest_c109_s at hF
      refine aw_run (pc' := 114) hC [(.iload_n 3, 1, 0, 0, .null), (.aload_n 0, 1, 0, 0, .null), (.getfield 49, 3, 6, 6, .null)] (by decide +kernel) [(0, .ref 0), (1, .long a1), (3, .int a3)] [.int (σ.1 0 6), .int a3] σ rfl rfl ⟨trivial, trivial, trivial, trivial⟩ rfl ?_
      refine aw_icmp_ge (off := 32) hC 146 (by decide +kernel) (by decide) (fun h => ?_) (fun h => ?_)
      · have hF := (if_pos h).symm.trans hF
        refine aw_run (pc' := 148) hC [(.iconst 0, 1, 0, 0, .int 0), (.istore_n 3, 1, 0, 0, .null)] (by decide +kernel) [(0, .ref 0), (1, .long a1), (3, .int 0)] [] σ rfl rfl ⟨trivial, trivial, trivial⟩ rfl ?_
        exact Jc148 N a1 0 σ hF
      · have hF := (if_neg h).symm.trans hF
        refine aw_run (pc' := 123) hC [(.iload_n 3, 1, 0, 0, .null), (.aload_n 0, 1, 0, 0, .null), (.getfield 9, 3, 6, 0, .null), (.arraylength, 1, 0, 0, .int 24)] (by decide +kernel) [(0, .ref 0), (1, .long a1), (3, .int a3)] [.int 24, .int a3] σ rfl rfl ⟨trivial, trivial, trivial, rfl, trivial⟩ rfl ?_
        refine aw_icmp_ge (off := 23) hC 146 (by decide +kernel) (by decide) (fun h => ?_) (fun h => ?_)
        · have hF := (if_pos h).symm.trans hF
          refine aw_run (pc' := 148) hC [(.iconst 0, 1, 0, 0, .int 0), (.istore_n 3, 1, 0, 0, .null)] (by decide +kernel) [(0, .ref 0), (1, .long a1), (3, .int 0)] [] σ rfl rfl ⟨trivial, trivial, trivial⟩ rfl ?_
          exact Jc148 N a1 0 σ hF
        · have hF := (if_neg h).symm.trans hF
          obtain ⟨g2, hF⟩ := gd hF
          refine aw_run (pc' := 143) hC [(.ldc2_w 181, 3, 0, 0, .long 31), (.lload_n 1, 1, 0, 0, .null), (.lmul, 1, 0, 0, .null), (.aload_n 0, 1, 0, 0, .null), (.getfield 9, 3, 6, 0, .null), (.iload_n 3, 1, 0, 0, .null), (.iaload, 1, 0, 0, .null), (.i2l, 1, 0, 0, .null), (.ladd, 1, 0, 0, .null), (.lstore_n 1, 1, 0, 0, .null), (.iinc 3 1, 3, 0, 0, .int 1)] (by decide +kernel) [(0, .ref 0), (1, .long ((31 * a1) + (σ.1 1 a3.toNatClampNeg).toInt64)), (3, .int (a3 + 1))] [] σ rfl rfl ⟨trivial, trivial, trivial, trivial, trivial, trivial, g2, trivial, trivial, trivial, trivial, trivial⟩ rfl ?_
          refine aw_goto (off := -34) hC 109 (by decide +kernel) (by decide) ?_
          exact ih ((31 * a1) + (σ.1 1 a3.toNatClampNeg).toInt64) (a3 + 1) σ hF
  have Jc20 : ∀ (kc6 : Int64 → Int32 → Sg → Option (Int64 × Sg)) (Hc6 : ∀ (a1 : Int64) (a3 : Int32) (σ : Sg), kc6 a1 a3 σ = some z → AW p l e rm_ss_digest s m args below meth c D ad tc 5 A s.heap 0 0 (MQ below (Qr (some (.long z.1)) D ad tc z.2 A) args s 0 0 A) 6 [(0, .ref 0), (1, .long a1), (3, .int a3)] [] σ) (n : Nat) (a1 : Int64) (a3 : Int32) (a4 : Int32) (σ : Sg), f_ss_digest_c20 N kc6 n a1 a3 a4 σ = some z → AW p l e rm_ss_digest s m args below meth c D ad tc 5 A s.heap 0 0 (MQ below (Qr (some (.long z.1)) D ad tc z.2 A) args s 0 0 A) 20 [(0, .ref 0), (1, .long a1), (3, .int a3), (4, .int a4)] [] σ := by
    intro kc6 Hc6 n
    induction n with
    | zero =>
      intro a1 a3 a4 σ hF
      cases hF
    | succ n ih =>
      intro a1 a3 a4 σ hF
      have hF : f_ss_digest_c20_s N kc6 (f_ss_digest_c20 N kc6 n) a1 a3 a4 σ = some z := hF
      unfold f_ss_digest_c20_s at hF
      refine aw_run (pc' := 24) hC [(.iload 4, 2, 0, 0, .null), (.bipush 8, 2, 0, 0, .int 8)] (by decide +kernel) [(0, .ref 0), (1, .long a1), (3, .int a3), (4, .int a4)] [.int 8, .int a4] σ rfl rfl ⟨trivial, trivial, trivial⟩ rfl ?_
      refine aw_icmp_gt (off := 24) hC 48 (by decide +kernel) (by decide) (fun h => ?_) (fun h => ?_)
      · have hF := (if_pos h).symm.trans hF
        refine aw_run (pc' := 51) hC [(.iinc 3 1, 3, 0, 0, .int 1)] (by decide +kernel) [(0, .ref 0), (1, .long a1), (3, .int (a3 + 1)), (4, .int a4)] [] σ rfl rfl ⟨trivial, trivial⟩ rfl ?_
        refine aw_goto (off := -45) hC 6 (by decide +kernel) (by decide) ?_
        refine aw_pick [0, 1, 2] [(0, .ref 0), (1, .long a1), (3, .int (a3 + 1))] rfl ?_
        exact Hc6 a1 (a3 + 1) σ hF
      · have hF := (if_neg h).symm.trans hF
        refine aw_run (pc' := 36) hC [(.ldc2_w 181, 3, 0, 0, .long 31), (.lload_n 1, 1, 0, 0, .null), (.lmul, 1, 0, 0, .null), (.aload_n 0, 1, 0, 0, .null), (.iload_n 3, 1, 0, 0, .null), (.iload 4, 2, 0, 0, .null)] (by decide +kernel) [(0, .ref 0), (1, .long a1), (3, .int a3), (4, .int a4)] [.int a4, .int a3, .ref 0, .long (31 * a1)] σ rfl rfl ⟨trivial, trivial, trivial, trivial, trivial, trivial, trivial⟩ rfl ?_
        obtain ⟨q6, eq6, hF⟩ := bd hF
        refine aw_callV hC hA (rest := [.long (31 * a1)]) (c_ss_station σ a3 a4 q6 eq6) mt_X6_station ln_6_183 (by decide +kernel) ⟨_, rfl⟩ rfl rfl (Nat.le_of_ble_eq_true rfl) ⟨⟨rfl, rfl⟩, Nat.le_of_ble_eq_true rfl, Nat.le_of_ble_eq_true rfl⟩ ⟨Nat.zero_le _, Nat.zero_le _⟩ rfl ?_
        refine aw_run (pc' := 45) hC [(.i2l, 1, 0, 0, .null), (.ladd, 1, 0, 0, .null), (.lstore_n 1, 1, 0, 0, .null), (.iinc 4 1, 3, 0, 0, .int 1)] (by decide +kernel) [(0, .ref 0), (1, .long ((31 * a1) + q6.toInt64)), (3, .int a3), (4, .int (a4 + 1))] [] σ rfl rfl ⟨trivial, trivial, trivial, trivial, trivial⟩ rfl ?_
        refine aw_goto (off := -25) hC 20 (by decide +kernel) (by decide) ?_
        exact ih ((31 * a1) + q6.toInt64) a3 (a4 + 1) σ hF
  have Jc6 : ∀ (n : Nat) (a1 : Int64) (a3 : Int32) (σ : Sg), f_ss_digest_c6 N n a1 a3 σ = some z → AW p l e rm_ss_digest s m args below meth c D ad tc 5 A s.heap 0 0 (MQ below (Qr (some (.long z.1)) D ad tc z.2 A) args s 0 0 A) 6 [(0, .ref 0), (1, .long a1), (3, .int a3)] [] σ := by
    intro n
    induction n with
    | zero =>
      intro a1 a3 σ hF
      cases hF
    | succ n ih =>
      intro a1 a3 σ hF
      have hF : f_ss_digest_c6_s N (f_ss_digest_c6 N n) a1 a3 σ = some z := hF
      unfold f_ss_digest_c6_s at hF
      refine aw_run (pc' := 14) hC [(.iload_n 3, 1, 0, 0, .null), (.aload_n 0, 1, 0, 0, .null), (.getfield 23, 3, 6, 2, .null), (.getfield 86, 3, 3, 5, .null)] (by decide +kernel) [(0, .ref 0), (1, .long a1), (3, .int a3)] [.int (σ.1 4 5), .int a3] σ rfl rfl ⟨trivial, trivial, trivial, trivial, trivial⟩ rfl ?_
      refine aw_icmp_ge (off := 40) hC 54 (by decide +kernel) (by decide) (fun h => ?_) (fun h => ?_)
      · have hF := (if_pos h).symm.trans hF
        refine aw_run (pc' := 60) hC [(.ldc2_w 181, 3, 0, 0, .long 31), (.lload_n 1, 1, 0, 0, .null), (.lmul, 1, 0, 0, .null), (.aload_n 0, 1, 0, 0, .null)] (by decide +kernel) [(0, .ref 0), (1, .long a1), (3, .int a3)] [.ref 0, .long (31 * a1)] σ rfl rfl ⟨trivial, trivial, trivial, trivial, trivial⟩ rfl ?_
        refine aw_callV hC hA (rest := [.long (31 * a1)]) (c_ss_fits σ _ rfl) mt_X6_fits ln_6_186 (by decide +kernel) ⟨_, rfl⟩ rfl rfl (Nat.le_of_ble_eq_true rfl) ⟨⟨rfl, rfl⟩, Nat.le_of_ble_eq_true rfl, Nat.le_of_ble_eq_true rfl⟩ ⟨Nat.zero_le _, Nat.zero_le _⟩ rfl ?_
        refine aw_run (pc' := 72) hC [(.i2l, 1, 0, 0, .null), (.ladd, 1, 0, 0, .null), (.lstore_n 1, 1, 0, 0, .null), (.ldc2_w 181, 3, 0, 0, .long 31), (.lload_n 1, 1, 0, 0, .null), (.lmul, 1, 0, 0, .null), (.aload_n 0, 1, 0, 0, .null)] (by decide +kernel) [(0, .ref 0), (1, .long ((31 * a1) + (f_ss_fits σ).toInt64)), (3, .int a3)] [.ref 0, .long (31 * ((31 * a1) + (f_ss_fits σ).toInt64))] σ rfl rfl ⟨trivial, trivial, trivial, trivial, trivial, trivial, trivial, trivial⟩ rfl ?_
        refine aw_callV hC hA (rest := [.long (31 * ((31 * a1) + (f_ss_fits σ).toInt64))]) (c_ss_wrong σ _ rfl) mt_X6_wrong ln_6_189 (by decide +kernel) ⟨_, rfl⟩ rfl rfl (Nat.le_of_ble_eq_true rfl) ⟨⟨rfl, rfl⟩, Nat.le_of_ble_eq_true rfl, Nat.le_of_ble_eq_true rfl⟩ ⟨Nat.zero_le _, Nat.zero_le _⟩ rfl ?_
        refine aw_run (pc' := 79) hC [(.i2l, 1, 0, 0, .null), (.ladd, 1, 0, 0, .null), (.lstore_n 1, 1, 0, 0, .null), (.aload_n 0, 1, 0, 0, .null)] (by decide +kernel) [(0, .ref 0), (1, .long ((31 * ((31 * a1) + (f_ss_fits σ).toInt64)) + (f_ss_wrong σ).toInt64)), (3, .int a3)] [.ref 0] σ rfl rfl ⟨trivial, trivial, trivial, trivial, trivial⟩ rfl ?_
        refine aw_callV hC hA (rest := []) (c_ss_allFit σ _ rfl) mt_X6_allFit ln_6_132 (by decide +kernel) ⟨_, rfl⟩ rfl rfl (Nat.le_of_ble_eq_true rfl) ⟨⟨rfl, rfl⟩, Nat.le_of_ble_eq_true rfl, Nat.le_of_ble_eq_true rfl⟩ ⟨Nat.zero_le _, Nat.zero_le _⟩ rfl ?_
        refine aw_if_eq (off := 25) hC 107 Iff.rfl (by decide +kernel) (by decide) (fun h => ?_) (fun h => ?_)
        · have hF := (if_pos h).symm.trans hF
          refine aw_run (pc' := 109) hC [(.iconst 0, 1, 0, 0, .int 0), (.istore_n 3, 1, 0, 0, .null)] (by decide +kernel) [(0, .ref 0), (1, .long ((31 * ((31 * a1) + (f_ss_fits σ).toInt64)) + (f_ss_wrong σ).toInt64)), (3, .int 0)] [] σ rfl rfl ⟨trivial, trivial, trivial⟩ rfl ?_
          exact Jc109 N ((31 * ((31 * a1) + (f_ss_fits σ).toInt64)) + (f_ss_wrong σ).toInt64) 0 σ hF
        · have hF := (if_neg h).symm.trans hF
          refine aw_run (pc' := 87) hC [(.aload_n 0, 1, 0, 0, .null), (.lload_n 1, 1, 0, 0, .null)] (by decide +kernel) [(0, .ref 0), (1, .long ((31 * ((31 * a1) + (f_ss_fits σ).toInt64)) + (f_ss_wrong σ).toInt64)), (3, .int a3)] [.long ((31 * ((31 * a1) + (f_ss_fits σ).toInt64)) + (f_ss_wrong σ).toInt64), .ref 0] σ rfl rfl ⟨trivial, trivial, trivial⟩ rfl ?_
          obtain ⟨q3, eq3, hF⟩ := bd hF
          refine aw_callV hC hA (rest := []) (c_ss_mixKernel N σ ((31 * ((31 * a1) + (f_ss_fits σ).toInt64)) + (f_ss_wrong σ).toInt64) q3 eq3) mt_X6_mixKernel ln_6_192 (by decide +kernel) ⟨_, rfl⟩ rfl rfl (Nat.le_of_ble_eq_true rfl) ⟨⟨rfl, rfl⟩, Nat.le_of_ble_eq_true rfl, Nat.le_of_ble_eq_true rfl⟩ ⟨Nat.zero_le _, Nat.zero_le _⟩ rfl ?_
          refine aw_run (pc' := 95) hC [(.lstore_n 1, 1, 0, 0, .null), (.aload_n 0, 1, 0, 0, .null), (.getfield 23, 3, 6, 2, .null)] (by decide +kernel) [(0, .ref 0), (1, .long q3), (3, .int a3)] [.ref 4] σ rfl rfl ⟨trivial, trivial, trivial, trivial⟩ rfl ?_
          obtain ⟨q4, eq4, hF⟩ := bd hF
          refine aw_callV hC hA (rest := []) (c_ro_hasChord N σ q4 eq4) mt_X3_hasChord ln_6_164 (by decide +kernel) ⟨_, rfl⟩ rfl rfl (Nat.le_of_ble_eq_true rfl) ⟨⟨rfl, rfl⟩, Nat.le_of_ble_eq_true rfl, Nat.le_of_ble_eq_true rfl⟩ ⟨Nat.zero_le _, Nat.zero_le _⟩ rfl ?_
          refine aw_if_eq (off := 9) hC 107 Iff.rfl (by decide +kernel) (by decide) (fun h => ?_) (fun h => ?_)
          · have hF := (if_pos h).symm.trans hF
            refine aw_run (pc' := 109) hC [(.iconst 0, 1, 0, 0, .int 0), (.istore_n 3, 1, 0, 0, .null)] (by decide +kernel) [(0, .ref 0), (1, .long q3), (3, .int 0)] [] σ rfl rfl ⟨trivial, trivial, trivial⟩ rfl ?_
            exact Jc109 N q3 0 σ hF
          · have hF := (if_neg h).symm.trans hF
            refine aw_run (pc' := 103) hC [(.aload_n 0, 1, 0, 0, .null), (.lload_n 1, 1, 0, 0, .null)] (by decide +kernel) [(0, .ref 0), (1, .long q3), (3, .int a3)] [.long q3, .ref 0] σ rfl rfl ⟨trivial, trivial, trivial⟩ rfl ?_
            obtain ⟨q5, eq5, hF⟩ := bd hF
            refine aw_callV hC hA (rest := []) (c_ss_mixReach N σ q3 q5 eq5) mt_X6_mixReach ln_6_196 (by decide +kernel) ⟨_, rfl⟩ rfl rfl (Nat.le_of_ble_eq_true rfl) ⟨⟨rfl, rfl⟩, Nat.le_of_ble_eq_true rfl, Nat.le_of_ble_eq_true rfl⟩ ⟨Nat.zero_le _, Nat.zero_le _⟩ rfl ?_
            refine aw_run (pc' := 109) hC [(.lstore_n 1, 1, 0, 0, .null), (.iconst 0, 1, 0, 0, .int 0), (.istore_n 3, 1, 0, 0, .null)] (by decide +kernel) [(0, .ref 0), (1, .long q5.1), (3, .int 0)] [] q5.2 rfl rfl ⟨trivial, trivial, trivial, trivial⟩ rfl ?_
            exact Jc109 N q5.1 0 q5.2 hF
      · have hF := (if_neg h).symm.trans hF
        refine aw_run (pc' := 20) hC [(.iconst 0, 1, 0, 0, .int 0), (.istore 4, 2, 0, 0, .null)] (by decide +kernel) [(0, .ref 0), (1, .long a1), (3, .int a3), (4, .int 0)] [] σ rfl rfl ⟨trivial, trivial, trivial⟩ rfl ?_
        exact Jc20 (f_ss_digest_c6 N n) ih N a1 a3 0 σ hF
  unfold f_ss_digest at hF
  refine aw_run (pc' := 6) hC [(.ldc2_w 179, 3, 0, 0, .long 1613), (.lstore_n 1, 1, 0, 0, .null), (.iconst 0, 1, 0, 0, .int 0), (.istore_n 3, 1, 0, 0, .null)] (by decide +kernel) [(0, .ref 0), (1, .long 1613), (3, .int 0)] [] σ rfl rfl ⟨trivial, trivial, trivial, trivial, trivial⟩ rfl ?_
  exact Jc6 N 1613 0 σ hF
