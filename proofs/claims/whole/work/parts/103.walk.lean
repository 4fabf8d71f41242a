def f_ro_has (σ : Sg) (a1 : Int32) : Int32 := if a1 < 0 then 0 else (if (σ.1 4 5) ≤ a1 then 0 else (if (8 : Int32) ≤ a1 then 0 else 1))
def rm_ro_has : Room := { frames := 0, cells := 0, slots := 0, locals := 0 }
set_option maxHeartbeats 4000000 in
set_option maxRecDepth 100000 in
theorem c_ro_has (σ : Sg) (a1 : Int32) (z : Int32) (hF : f_ro_has σ a1 = z) : Ctr yX3_has cX3_has 2 (some .boolean) rm_ro_has [.ref 4, .int a1] σ (some (.int z)) σ := by
  refine ct_start 3 (by decide) rfl (fun ad => Nat.le_of_ble_eq_true rfl) [(0, .ref 4), (1, .int a1)] (fun ad => rfl) ?_
  intro p l e s m args below meth c D ad tc A hC hA hr
  unfold f_ro_has at hF
  refine aw_run (pc' := 1) hC [(.iload_n 1, 1, 0, 0, .null)] (by decide +kernel) [(0, .ref 4), (1, .int a1)] [.int a1] σ rfl rfl ⟨trivial, trivial⟩ rfl ?_
  refine aw_if_lt (off := 21) hC 22 Iff.rfl (by decide +kernel) (by decide) (fun h => ?_) (fun h => ?_)
  · have hF := (if_pos h).symm.trans hF
    refine aw_run (pc' := 23) hC [(.iconst 0, 1, 0, 0, .int 0)] (by decide +kernel) [(0, .ref 4), (1, .int a1)] [.int 0] σ rfl rfl ⟨trivial, trivial⟩ rfl ?_
    exact aw_zret hC hr (Or.inl rfl) (by decide +kernel) hF rfl
  · have hF := (if_neg h).symm.trans hF
    refine aw_run (pc' := 9) hC [(.iload_n 1, 1, 0, 0, .null), (.aload_n 0, 1, 0, 0, .null), (.getfield 32, 3, 3, 5, .null)] (by decide +kernel) [(0, .ref 4), (1, .int a1)] [.int (σ.1 4 5), .int a1] σ rfl rfl ⟨trivial, trivial, trivial, trivial⟩ rfl ?_
    refine aw_icmp_ge (off := 13) hC 22 (by decide +kernel) (by decide) (fun h => ?_) (fun h => ?_)
    · have hF := (if_pos h).symm.trans hF
      refine aw_run (pc' := 23) hC [(.iconst 0, 1, 0, 0, .int 0)] (by decide +kernel) [(0, .ref 4), (1, .int a1)] [.int 0] σ rfl rfl ⟨trivial, trivial⟩ rfl ?_
      exact aw_zret hC hr (Or.inl rfl) (by decide +kernel) hF rfl
    · have hF := (if_neg h).symm.trans hF
      refine aw_run (pc' := 15) hC [(.iload_n 1, 1, 0, 0, .null), (.bipush 8, 2, 0, 0, .int 8)] (by decide +kernel) [(0, .ref 4), (1, .int a1)] [.int 8, .int a1] σ rfl rfl ⟨trivial, trivial, trivial⟩ rfl ?_
      refine aw_icmp_ge (off := 7) hC 22 (by decide +kernel) (by decide) (fun h => ?_) (fun h => ?_)
      · have hF := (if_pos h).symm.trans hF
        refine aw_run (pc' := 23) hC [(.iconst 0, 1, 0, 0, .int 0)] (by decide +kernel) [(0, .ref 4), (1, .int a1)] [.int 0] σ rfl rfl ⟨trivial, trivial⟩ rfl ?_
        exact aw_zret hC hr (Or.inl rfl) (by decide +kernel) hF rfl
      · have hF := (if_neg h).symm.trans hF
        refine aw_run (pc' := 19) hC [(.iconst 1, 1, 0, 0, .int 1)] (by decide +kernel) [(0, .ref 4), (1, .int a1)] [.int 1] σ rfl rfl ⟨trivial, trivial⟩ rfl ?_
        refine aw_goto (off := 4) hC 23 (by decide +kernel) (by decide) ?_
        exact aw_zret hC hr (Or.inr rfl) (by decide +kernel) hF rfl
def f_ro_remove_c11_s (N : Nat) (kc11 : Int32 → Sg → Option Sg) (a2 : Int32) (σ : Sg) : Option Sg := if (σ.1 4 5) ≤ (a2 + 1) then (nm (uI σ 4 5 ((σ.1 4 5) - 1)) fun σ1 => some σ1) else (if ib (a2 + 1) 8 then if ib a2 8 then nm (uI σ 5 a2.toNatClampNeg (σ.1 5 (a2 + 1).toNatClampNeg)) fun σ4 => nm (uI σ4 6 a2.toNatClampNeg ((σ4.1 6 (a2 + 1).toNatClampNeg) &&& 1)) fun σ5 => nm (uI σ5 7 a2.toNatClampNeg (σ5.1 7 (a2 + 1).toNatClampNeg)) fun σ6 => nm (uI σ6 8 a2.toNatClampNeg (σ6.1 8 (a2 + 1).toNatClampNeg)) fun σ7 => nm (uI σ7 9 a2.toNatClampNeg (σ7.1 9 (a2 + 1).toNatClampNeg)) fun σ8 => kc11 (a2 + 1) σ8 else none else none)
def f_ro_remove_c11 (N : Nat) : Nat → Int32 → Sg → Option Sg
  | 0 => fun _ _ => none
  | n + 1 => f_ro_remove_c11_s N (f_ro_remove_c11 N n)
def f_ro_remove (N : Nat) (σ : Sg) (a1 : Int32) : Option Sg := if (f_ro_has σ a1) = 0 then (some σ) else (f_ro_remove_c11 N N a1 σ)
def rm_ro_remove : Room := { frames := 1, cells := 0, slots := 0, locals := 21 }
set_option maxHeartbeats 4000000 in
set_option maxRecDepth 100000 in
theorem c_ro_remove (N : Nat) (σ : Sg) (a1 : Int32) (z : Sg) (hF : f_ro_remove N σ a1 = some z) : Ctr yX3_remove cX3_remove 3 none rm_ro_remove [.ref 4, .int a1] σ none z := by
  refine ct_start 3 (by decide) rfl (fun ad => Nat.le_of_ble_eq_true rfl) [(0, .ref 4), (1, .int a1)] (fun ad => rfl) ?_
  intro p l e s m args below meth c D ad tc A hC hA hr
  have Jc11 : ∀ (n : Nat) (a2 : Int32) (σ : Sg), f_ro_remove_c11 N n a2 σ = some z → AW p l e rm_ro_remove s m args below meth c D ad tc 3 A s.heap 0 0 (MQ below (Qr none D ad tc z A) args s 0 0 A) 11 [(0, .ref 4), (2, .int a2)] [] σ := by
    intro n
    induction n with
    | zero =>
      intro a2 σ hF
      cases hF
    | succ n ih =>
      intro a2 σ hF
      have hF : f_ro_remove_c11_s N (f_ro_remove_c11 N n) a2 σ = some z := hF
      unfold f_ro_remove_c11_s at hF
      refine aw_run (pc' := 18) hC [(.iload_n 2, 1, 0, 0, .null), (.iconst 1, 1, 0, 0, .int 1), (.iadd, 1, 0, 0, .null), (.aload_n 0, 1, 0, 0, .null), (.getfield 32, 3, 3, 5, .null)] (by decide +kernel) [(0, .ref 4), (2, .int a2)] [.int (σ.1 4 5), .int (a2 + 1)] σ rfl rfl ⟨trivial, trivial, trivial, trivial, trivial, trivial⟩ rfl ?_
      refine aw_icmp_ge (off := 79) hC 97 (by decide +kernel) (by decide) (fun h => ?_) (fun h => ?_)
      · have hF := (if_pos h).symm.trans hF
        obtain ⟨σ1, hσ1, hF⟩ := nmd hF
        refine aw_run (pc' := 107) hC [(.aload_n 0, 1, 0, 0, .null), (.dup, 1, 0, 0, .null), (.getfield 32, 3, 3, 5, .null), (.iconst 1, 1, 0, 0, .int 1), (.isub, 1, 0, 0, .null), (.putfield 32, 3, 3, 5, .null)] (by decide +kernel) [(0, .ref 4), (2, .int a2)] [] (uI σ 4 5 ((σ.1 4 5) - 1)) rfl rfl ⟨trivial, trivial, trivial, trivial, trivial, trivial, trivial⟩ hσ1 ?_
        exact aw_vret hC hr (by decide +kernel)  (Option.some.inj hF)
      · have hF := (if_neg h).symm.trans hF
        obtain ⟨g2, hF⟩ := gd hF
        obtain ⟨g3, hF⟩ := gd hF
        obtain ⟨σ4, hσ4, hF⟩ := nmd hF
        refine aw_run (pc' := 35) hC [(.aload_n 0, 1, 0, 0, .null), (.getfield 9, 3, 3, 0, .null), (.iload_n 2, 1, 0, 0, .null), (.aload_n 0, 1, 0, 0, .null), (.getfield 9, 3, 3, 0, .null), (.iload_n 2, 1, 0, 0, .null), (.iconst 1, 1, 0, 0, .int 1), (.iadd, 1, 0, 0, .null), (.iaload, 1, 0, 0, .null), (.iastore, 1, 0, 0, .null)] (by decide +kernel) [(0, .ref 4), (2, .int a2)] [] (uI σ 5 a2.toNatClampNeg (σ.1 5 (a2 + 1).toNatClampNeg)) rfl rfl ⟨trivial, trivial, trivial, trivial, trivial, trivial, trivial, trivial, g2, g3, trivial⟩ hσ4 ?_
        obtain ⟨σ5, hσ5, hF⟩ := nmd hF
        refine aw_run (pc' := 49) hC [(.aload_n 0, 1, 0, 0, .null), (.getfield 15, 3, 3, 1, .null), (.iload_n 2, 1, 0, 0, .null), (.aload_n 0, 1, 0, 0, .null), (.getfield 15, 3, 3, 1, .null), (.iload_n 2, 1, 0, 0, .null), (.iconst 1, 1, 0, 0, .int 1), (.iadd, 1, 0, 0, .null), (.baload, 1, 0, 0, .null), (.bastore, 1, 0, 0, .null)] (by decide +kernel) [(0, .ref 4), (2, .int a2)] [] (uI σ4 6 a2.toNatClampNeg ((σ4.1 6 (a2 + 1).toNatClampNeg) &&& 1)) rfl rfl ⟨trivial, trivial, trivial, trivial, trivial, trivial, trivial, trivial, g2, g3, trivial⟩ hσ5 ?_
        obtain ⟨σ6, hσ6, hF⟩ := nmd hF
        refine aw_run (pc' := 63) hC [(.aload_n 0, 1, 0, 0, .null), (.getfield 19, 3, 3, 2, .null), (.iload_n 2, 1, 0, 0, .null), (.aload_n 0, 1, 0, 0, .null), (.getfield 19, 3, 3, 2, .null), (.iload_n 2, 1, 0, 0, .null), (.iconst 1, 1, 0, 0, .int 1), (.iadd, 1, 0, 0, .null), (.iaload, 1, 0, 0, .null), (.iastore, 1, 0, 0, .null)] (by decide +kernel) [(0, .ref 4), (2, .int a2)] [] (uI σ5 7 a2.toNatClampNeg (σ5.1 7 (a2 + 1).toNatClampNeg)) rfl rfl ⟨trivial, trivial, trivial, trivial, trivial, trivial, trivial, trivial, g2, g3, trivial⟩ hσ6 ?_
        obtain ⟨σ7, hσ7, hF⟩ := nmd hF
        refine aw_run (pc' := 77) hC [(.aload_n 0, 1, 0, 0, .null), (.getfield 22, 3, 3, 3, .null), (.iload_n 2, 1, 0, 0, .null), (.aload_n 0, 1, 0, 0, .null), (.getfield 22, 3, 3, 3, .null), (.iload_n 2, 1, 0, 0, .null), (.iconst 1, 1, 0, 0, .int 1), (.iadd, 1, 0, 0, .null), (.iaload, 1, 0, 0, .null), (.iastore, 1, 0, 0, .null)] (by decide +kernel) [(0, .ref 4), (2, .int a2)] [] (uI σ6 8 a2.toNatClampNeg (σ6.1 8 (a2 + 1).toNatClampNeg)) rfl rfl ⟨trivial, trivial, trivial, trivial, trivial, trivial, trivial, trivial, g2, g3, trivial⟩ hσ7 ?_
        obtain ⟨σ8, hσ8, hF⟩ := nmd hF
        refine aw_run (pc' := 91) hC [(.aload_n 0, 1, 0, 0, .null), (.getfield 25, 3, 3, 4, .null), (.iload_n 2, 1, 0, 0, .null), (.aload_n 0, 1, 0, 0, .null), (.getfield 25, 3, 3, 4, .null), (.iload_n 2, 1, 0, 0, .null), (.iconst 1, 1, 0, 0, .int 1), (.iadd, 1, 0, 0, .null), (.iaload, 1, 0, 0, .null), (.iastore, 1, 0, 0, .null)] (by decide +kernel) [(0, .ref 4), (2, .int a2)] [] (uI σ7 9 a2.toNatClampNeg (σ7.1 9 (a2 + 1).toNatClampNeg)) rfl rfl ⟨trivial, trivial, trivial, trivial, trivial, trivial, trivial, trivial, g2, g3, trivial⟩ hσ8 ?_
        refine aw_run (pc' := 94) hC [(.iinc 2 1, 3, 0, 0, .int 1)] (by decide +kernel) [(0, .ref 4), (2, .int (a2 + 1))] [] σ8 rfl rfl ⟨trivial, trivial⟩ rfl ?_
        refine aw_goto (off := -83) hC 11 (by decide +kernel) (by decide) ?_
        exact ih (a2 + 1) σ8 hF
  unfold f_ro_remove at hF
  refine aw_run (pc' := 2) hC [(.aload_n 0, 1, 0, 0, .null), (.iload_n 1, 1, 0, 0, .null)] (by decide +kernel) [(0, .ref 4), (1, .int a1)] [.int a1, .ref 4] σ rfl rfl ⟨trivial, trivial, trivial⟩ rfl ?_
  refine aw_callV hC hA (rest := []) (c_ro_has σ a1 _ rfl) mt_X3_has ln_3_48 (by decide +kernel) ⟨_, rfl⟩ rfl rfl (Nat.le_of_ble_eq_true rfl) ⟨⟨rfl, rfl⟩, Nat.le_of_ble_eq_true rfl, Nat.le_of_ble_eq_true rfl⟩ ⟨Nat.zero_le _, Nat.zero_le _⟩ rfl ?_
  refine aw_if_ne (off := 4) hC 9 Iff.rfl (by decide +kernel) (by decide) (fun h => ?_) (fun h => ?_)
  · have hF := (if_neg h).symm.trans hF
    refine aw_run (pc' := 11) hC [(.iload_n 1, 1, 0, 0, .null), (.istore_n 2, 1, 0, 0, .null)] (by decide +kernel) [(0, .ref 4), (1, .int a1), (2, .int a1)] [] σ rfl rfl ⟨trivial, trivial, trivial⟩ rfl ?_
    refine aw_pick [0, 2] [(0, .ref 4), (2, .int a1)] rfl ?_
    exact Jc11 N a1 σ hF
  · have hF := (if_pos h).symm.trans hF
    exact aw_vret hC hr (by decide +kernel)  (Option.some.inj hF)
def f_ss_drop (N : Nat) (σ : Sg) (a1 : Int32) : Option (Int32 × Sg) := if (f_ro_has σ a1) = 0 then (some (-100000002, σ)) else ((f_ro_remove N σ a1).bind fun q1 => nm (uI q1 0 8 ((q1.1 0 8) + 1)) fun σ2 => (f_ss_settle N σ2).bind fun q3 => some (q3.1 4 5, q3))
def rm_ss_drop : Room := { frames := 6, cells := 0, slots := 0, locals := 139 }
set_option maxHeartbeats 4000000 in
set_option maxRecDepth 100000 in
theorem c_ss_drop (N : Nat) (σ : Sg) (a1 : Int32) (z : Int32 × Sg) (hF : f_ss_drop N σ a1 = some z) : Ctr yX6_drop cX6_drop 2 (some .int) rm_ss_drop [.ref 0, .int a1] σ (some (.int z.1)) z.2 := by
  refine ct_start 6 (by decide) rfl (fun ad => Nat.le_of_ble_eq_true rfl) [(0, .ref 0), (1, .int a1)] (fun ad => rfl) ?_
  intro p l e s m args below meth c D ad tc A hC hA hr
  unfold f_ss_drop at hF
  refine aw_run (pc' := 5) hC [(.aload_n 0, 1, 0, 0, .null), (.getfield 23, 3, 6, 2, .null), (.iload_n 1, 1, 0, 0, .null)] (by decide +kernel) [(0, .ref 0), (1, .int a1)] [.int a1, .ref 4] σ rfl rfl ⟨trivial, trivial, trivial, trivial⟩ rfl ?_
  refine aw_callV hC hA (rest := []) (c_ro_has σ a1 _ rfl) mt_X3_has ln_6_89 (by decide +kernel) ⟨_, rfl⟩ rfl rfl (Nat.le_of_ble_eq_true rfl) ⟨⟨rfl, rfl⟩, Nat.le_of_ble_eq_true rfl, Nat.le_of_ble_eq_true rfl⟩ ⟨Nat.zero_le _, Nat.zero_le _⟩ rfl ?_
  refine aw_if_ne (off := 6) hC 14 Iff.rfl (by decide +kernel) (by decide) (fun h => ?_) (fun h => ?_)
  · have hF := (if_neg h).symm.trans hF
    refine aw_run (pc' := 19) hC [(.aload_n 0, 1, 0, 0, .null), (.getfield 23, 3, 6, 2, .null), (.iload_n 1, 1, 0, 0, .null)] (by decide +kernel) [(0, .ref 0), (1, .int a1)] [.int a1, .ref 4] σ rfl rfl ⟨trivial, trivial, trivial, trivial⟩ rfl ?_
    obtain ⟨q1, eq1, hF⟩ := bd hF
    refine aw_callV hC hA (rest := []) (c_ro_remove N σ a1 q1 eq1) mt_X3_remove ln_6_94 (by decide +kernel) ⟨_, rfl⟩ rfl rfl (Nat.le_of_ble_eq_true rfl) ⟨⟨rfl, rfl⟩, Nat.le_of_ble_eq_true rfl, Nat.le_of_ble_eq_true rfl⟩ ⟨Nat.zero_le _, Nat.zero_le _⟩ rfl ?_
    obtain ⟨σ2, hσ2, hF⟩ := nmd hF
    refine aw_run (pc' := 32) hC [(.aload_n 0, 1, 0, 0, .null), (.dup, 1, 0, 0, .null), (.getfield 98, 3, 6, 8, .null), (.iconst 1, 1, 0, 0, .int 1), (.iadd, 1, 0, 0, .null), (.putfield 98, 3, 6, 8, .null)] (by decide +kernel) [(0, .ref 0), (1, .int a1)] [] (uI q1 0 8 ((q1.1 0 8) + 1)) rfl rfl ⟨trivial, trivial, trivial, trivial, trivial, trivial, trivial⟩ hσ2 ?_
    refine aw_run (pc' := 33) hC [(.aload_n 0, 1, 0, 0, .null)] (by decide +kernel) [(0, .ref 0), (1, .int a1)] [.ref 0] σ2 rfl rfl ⟨trivial, trivial⟩ rfl ?_
    obtain ⟨q3, eq3, hF⟩ := bd hF
    refine aw_callV hC hA (rest := []) (c_ss_settle N σ2 q3 eq3) mt_X6_settle ln_6_83 (by decide +kernel) ⟨_, rfl⟩ rfl rfl (Nat.le_of_ble_eq_true rfl) ⟨⟨rfl, rfl⟩, Nat.le_of_ble_eq_true rfl, Nat.le_of_ble_eq_true rfl⟩ ⟨Nat.zero_le _, Nat.zero_le _⟩ rfl ?_
    refine aw_run (pc' := 43) hC [(.aload_n 0, 1, 0, 0, .null), (.getfield 23, 3, 6, 2, .null), (.getfield 86, 3, 3, 5, .null)] (by decide +kernel) [(0, .ref 0), (1, .int a1)] [.int (q3.1 4 5)] q3 rfl rfl ⟨trivial, trivial, trivial, trivial⟩ rfl ?_
    exact aw_iret hC hr (by decide +kernel) (pS1 hF) (pS2 hF)
  · have hF := (if_pos h).symm.trans hF
    refine aw_run (pc' := 13) hC [(.ldc 93, 2, 0, 0, .int (-100000002))] (by decide +kernel) [(0, .ref 0), (1, .int a1)] [.int (-100000002)] σ rfl rfl ⟨trivial, trivial⟩ rfl ?_
    exact aw_iret hC hr (by decide +kernel) (pS1 hF) (pS2 hF)
def f_ss_error (N : Nat) (σ : Sg) (a1 : Int32) (a2 : Int32) : Option (Int32 × Sg) := if (f_ro_has σ a1) = 0 then (some (-100000002, σ)) else (if a2 < 0 then (some (-100000003, σ)) else (if a2 ≤ 20 then (if ib a1 8 then if (σ.1 6 a1.toNatClampNeg) = 0 then (if (f_ss_isBackGreat (σ.1 7 a1.toNatClampNeg) (σ.1 8 a1.toNatClampNeg) a2) = 0 then (some (-100000004, σ)) else (nm (uI σ 9 a1.toNatClampNeg a2) fun σ2 => (f_ss_settle N σ2).bind fun q3 => some (σ.1 9 a1.toNatClampNeg, q3))) else (some (-100000004, σ)) else none) else (some (-100000003, σ))))
def rm_ss_error : Room := { frames := 6, cells := 0, slots := 0, locals := 139 }
set_option maxHeartbeats 4000000 in
set_option maxRecDepth 100000 in
theorem c_ss_error (N : Nat) (σ : Sg) (a1 : Int32) (a2 : Int32) (z : Int32 × Sg) (hF : f_ss_error N σ a1 a2 = some z) : Ctr yX6_error cX6_error 4 (some .int) rm_ss_error [.ref 0, .int a1, .int a2] σ (some (.int z.1)) z.2 := by
  refine ct_start 6 (by decide) rfl (fun ad => Nat.le_of_ble_eq_true rfl) [(0, .ref 0), (1, .int a1), (2, .int a2)] (fun ad => rfl) ?_
  intro p l e s m args below meth c D ad tc A hC hA hr
  unfold f_ss_error at hF
  refine aw_run (pc' := 5) hC [(.aload_n 0, 1, 0, 0, .null), (.getfield 23, 3, 6, 2, .null), (.iload_n 1, 1, 0, 0, .null)] (by decide +kernel) [(0, .ref 0), (1, .int a1), (2, .int a2)] [.int a1, .ref 4] σ rfl rfl ⟨trivial, trivial, trivial, trivial⟩ rfl ?_
  refine aw_callV hC hA (rest := []) (c_ro_has σ a1 _ rfl) mt_X3_has ln_6_89 (by decide +kernel) ⟨_, rfl⟩ rfl rfl (Nat.le_of_ble_eq_true rfl) ⟨⟨rfl, rfl⟩, Nat.le_of_ble_eq_true rfl, Nat.le_of_ble_eq_true rfl⟩ ⟨Nat.zero_le _, Nat.zero_le _⟩ rfl ?_
  refine aw_if_ne (off := 6) hC 14 Iff.rfl (by decide +kernel) (by decide) (fun h => ?_) (fun h => ?_)
  · have hF := (if_neg h).symm.trans hF
    refine aw_run (pc' := 15) hC [(.iload_n 2, 1, 0, 0, .null)] (by decide +kernel) [(0, .ref 0), (1, .int a1), (2, .int a2)] [.int a2] σ rfl rfl ⟨trivial, trivial⟩ rfl ?_
    refine aw_if_lt (off := 9) hC 24 Iff.rfl (by decide +kernel) (by decide) (fun h => ?_) (fun h => ?_)
    · have hF := (if_pos h).symm.trans hF
      refine aw_run (pc' := 26) hC [(.ldc 48, 2, 0, 0, .int (-100000003))] (by decide +kernel) [(0, .ref 0), (1, .int a1), (2, .int a2)] [.int (-100000003)] σ rfl rfl ⟨trivial, trivial⟩ rfl ?_
      exact aw_iret hC hr (by decide +kernel) (pS1 hF) (pS2 hF)
    · have hF := (if_neg h).symm.trans hF
      refine aw_run (pc' := 21) hC [(.iload_n 2, 1, 0, 0, .null), (.bipush 20, 2, 0, 0, .int 20)] (by decide +kernel) [(0, .ref 0), (1, .int a1), (2, .int a2)] [.int 20, .int a2] σ rfl rfl ⟨trivial, trivial, trivial⟩ rfl ?_
      refine aw_icmp_le (off := 6) hC 27 (by decide +kernel) (by decide) (fun h => ?_) (fun h => ?_)
      · have hF := (if_pos h).symm.trans hF
        obtain ⟨g1, hF⟩ := gd hF
        refine aw_run (pc' := 36) hC [(.aload_n 0, 1, 0, 0, .null), (.getfield 23, 3, 6, 2, .null), (.getfield 101, 3, 3, 1, .null), (.iload_n 1, 1, 0, 0, .null), (.baload, 1, 0, 0, .null)] (by decide +kernel) [(0, .ref 0), (1, .int a1), (2, .int a2)] [.int (σ.1 6 a1.toNatClampNeg)] σ rfl rfl ⟨trivial, trivial, trivial, trivial, g1, trivial⟩ rfl ?_
        refine aw_if_ne (off := 28) hC 64 Iff.rfl (by decide +kernel) (by decide) (fun h => ?_) (fun h => ?_)
        · have hF := (if_neg h).symm.trans hF
          refine aw_run (pc' := 66) hC [(.ldc 72, 2, 0, 0, .int (-100000004))] (by decide +kernel) [(0, .ref 0), (1, .int a1), (2, .int a2)] [.int (-100000004)] σ rfl rfl ⟨trivial, trivial⟩ rfl ?_
          exact aw_iret hC hr (by decide +kernel) (pS1 hF) (pS2 hF)
        · have hF := (if_pos h).symm.trans hF
          refine aw_run (pc' := 58) hC [(.aload_n 0, 1, 0, 0, .null), (.getfield 23, 3, 6, 2, .null), (.getfield 105, 3, 3, 2, .null), (.iload_n 1, 1, 0, 0, .null), (.iaload, 1, 0, 0, .null), (.aload_n 0, 1, 0, 0, .null), (.getfield 23, 3, 6, 2, .null), (.getfield 108, 3, 3, 3, .null), (.iload_n 1, 1, 0, 0, .null), (.iaload, 1, 0, 0, .null), (.iload_n 2, 1, 0, 0, .null)] (by decide +kernel) [(0, .ref 0), (1, .int a1), (2, .int a2)] [.int a2, .int (σ.1 8 a1.toNatClampNeg), .int (σ.1 7 a1.toNatClampNeg)] σ rfl rfl ⟨trivial, trivial, trivial, trivial, g1, trivial, trivial, trivial, trivial, g1, trivial, trivial⟩ rfl ?_
          refine aw_callS hC hA (rest := []) (c_ss_isBackGreat σ (σ.1 7 a1.toNatClampNeg) (σ.1 8 a1.toNatClampNeg) a2 _ rfl) mt_X6_isBackGreat ln_6_111 (by decide +kernel) rfl rfl (Nat.le_of_ble_eq_true rfl) ⟨⟨rfl, rfl⟩, Nat.le_of_ble_eq_true rfl, Nat.le_of_ble_eq_true rfl⟩ ⟨Nat.zero_le _, Nat.zero_le _⟩ rfl ?_
          refine aw_if_ne (off := 6) hC 67 Iff.rfl (by decide +kernel) (by decide) (fun h => ?_) (fun h => ?_)
          · have hF := (if_neg h).symm.trans hF
            obtain ⟨σ2, hσ2, hF⟩ := nmd hF
            refine aw_run (pc' := 87) hC [(.aload_n 0, 1, 0, 0, .null), (.getfield 23, 3, 6, 2, .null), (.getfield 115, 3, 3, 4, .null), (.iload_n 1, 1, 0, 0, .null), (.iaload, 1, 0, 0, .null), (.istore_n 3, 1, 0, 0, .null), (.aload_n 0, 1, 0, 0, .null), (.getfield 23, 3, 6, 2, .null), (.getfield 115, 3, 3, 4, .null), (.iload_n 1, 1, 0, 0, .null), (.iload_n 2, 1, 0, 0, .null), (.iastore, 1, 0, 0, .null)] (by decide +kernel) [(0, .ref 0), (1, .int a1), (2, .int a2), (3, .int (σ.1 9 a1.toNatClampNeg))] [] (uI σ 9 a1.toNatClampNeg a2) rfl rfl ⟨trivial, trivial, trivial, trivial, g1, trivial, trivial, trivial, trivial, trivial, trivial, g1, trivial⟩ hσ2 ?_
            refine aw_run (pc' := 88) hC [(.aload_n 0, 1, 0, 0, .null)] (by decide +kernel) [(0, .ref 0), (1, .int a1), (2, .int a2), (3, .int (σ.1 9 a1.toNatClampNeg))] [.ref 0] σ2 rfl rfl ⟨trivial, trivial⟩ rfl ?_
            obtain ⟨q3, eq3, hF⟩ := bd hF
            refine aw_callV hC hA (rest := []) (c_ss_settle N σ2 q3 eq3) mt_X6_settle ln_6_83 (by decide +kernel) ⟨_, rfl⟩ rfl rfl (Nat.le_of_ble_eq_true rfl) ⟨⟨rfl, rfl⟩, Nat.le_of_ble_eq_true rfl, Nat.le_of_ble_eq_true rfl⟩ ⟨Nat.zero_le _, Nat.zero_le _⟩ rfl ?_
            refine aw_run (pc' := 92) hC [(.iload_n 3, 1, 0, 0, .null)] (by decide +kernel) [(0, .ref 0), (1, .int a1), (2, .int a2), (3, .int (σ.1 9 a1.toNatClampNeg))] [.int (σ.1 9 a1.toNatClampNeg)] q3 rfl rfl ⟨trivial, trivial⟩ rfl ?_
            exact aw_iret hC hr (by decide +kernel) (pS1 hF) (pS2 hF)
          · have hF := (if_pos h).symm.trans hF
            refine aw_run (pc' := 66) hC [(.ldc 72, 2, 0, 0, .int (-100000004))] (by decide +kernel) [(0, .ref 0), (1, .int a1), (2, .int a2)] [.int (-100000004)] σ rfl rfl ⟨trivial, trivial⟩ rfl ?_
            exact aw_iret hC hr (by decide +kernel) (pS1 hF) (pS2 hF)
      · have hF := (if_neg h).symm.trans hF
        refine aw_run (pc' := 26) hC [(.ldc 48, 2, 0, 0, .int (-100000003))] (by decide +kernel) [(0, .ref 0), (1, .int a1), (2, .int a2)] [.int (-100000003)] σ rfl rfl ⟨trivial, trivial⟩ rfl ?_
        exact aw_iret hC hr (by decide +kernel) (pS1 hF) (pS2 hF)
  · have hF := (if_pos h).symm.trans hF
    refine aw_run (pc' := 13) hC [(.ldc 93, 2, 0, 0, .int (-100000002))] (by decide +kernel) [(0, .ref 0), (1, .int a1), (2, .int a2)] [.int (-100000002)] σ rfl rfl ⟨trivial, trivial⟩ rfl ?_
    exact aw_iret hC hr (by decide +kernel) (pS1 hF) (pS2 hF)
def f_ss_speed (N : Nat) (σ : Sg) (a1 : Int32) : Option (Int32 × Sg) := if a1 < 1 then (some (-100000003, σ)) else (if a1 ≤ 20 then (nm (uI σ 4 6 a1) fun σ1 => (f_ss_settle N σ1).bind fun q2 => some (σ.1 4 6, q2)) else (some (-100000003, σ)))
def rm_ss_speed : Room := { frames := 6, cells := 0, slots := 0, locals := 139 }
set_option maxHeartbeats 4000000 in
set_option maxRecDepth 100000 in
theorem c_ss_speed (N : Nat) (σ : Sg) (a1 : Int32) (z : Int32 × Sg) (hF : f_ss_speed N σ a1 = some z) : Ctr yX6_speed cX6_speed 3 (some .int) rm_ss_speed [.ref 0, .int a1] σ (some (.int z.1)) z.2 := by
  refine ct_start 6 (by decide) rfl (fun ad => Nat.le_of_ble_eq_true rfl) [(0, .ref 0), (1, .int a1)] (fun ad => rfl) ?_
  intro p l e s m args below meth c D ad tc A hC hA hr
  unfold f_ss_speed at hF
  refine aw_run (pc' := 2) hC [(.iload_n 1, 1, 0, 0, .null), (.iconst 1, 1, 0, 0, .int 1)] (by decide +kernel) [(0, .ref 0), (1, .int a1)] [.int 1, .int a1] σ rfl rfl ⟨trivial, trivial, trivial⟩ rfl ?_
  refine aw_icmp_lt (off := 9) hC 11 (by decide +kernel) (by decide) (fun h => ?_) (fun h => ?_)
  · have hF := (if_pos h).symm.trans hF
    refine aw_run (pc' := 13) hC [(.ldc 48, 2, 0, 0, .int (-100000003))] (by decide +kernel) [(0, .ref 0), (1, .int a1)] [.int (-100000003)] σ rfl rfl ⟨trivial, trivial⟩ rfl ?_
    exact aw_iret hC hr (by decide +kernel) (pS1 hF) (pS2 hF)
  · have hF := (if_neg h).symm.trans hF
    refine aw_run (pc' := 8) hC [(.iload_n 1, 1, 0, 0, .null), (.bipush 20, 2, 0, 0, .int 20)] (by decide +kernel) [(0, .ref 0), (1, .int a1)] [.int 20, .int a1] σ rfl rfl ⟨trivial, trivial, trivial⟩ rfl ?_
    refine aw_icmp_le (off := 6) hC 14 (by decide +kernel) (by decide) (fun h => ?_) (fun h => ?_)
    · have hF := (if_pos h).symm.trans hF
      obtain ⟨σ1, hσ1, hF⟩ := nmd hF
      refine aw_run (pc' := 30) hC [(.aload_n 0, 1, 0, 0, .null), (.getfield 23, 3, 6, 2, .null), (.getfield 118, 3, 3, 6, .null), (.istore_n 2, 1, 0, 0, .null), (.aload_n 0, 1, 0, 0, .null), (.getfield 23, 3, 6, 2, .null), (.iload_n 1, 1, 0, 0, .null), (.putfield 118, 3, 3, 6, .null)] (by decide +kernel) [(0, .ref 0), (1, .int a1), (2, .int (σ.1 4 6))] [] (uI σ 4 6 a1) rfl rfl ⟨trivial, trivial, trivial, trivial, trivial, trivial, trivial, trivial, trivial⟩ hσ1 ?_
      refine aw_run (pc' := 31) hC [(.aload_n 0, 1, 0, 0, .null)] (by decide +kernel) [(0, .ref 0), (1, .int a1), (2, .int (σ.1 4 6))] [.ref 0] σ1 rfl rfl ⟨trivial, trivial⟩ rfl ?_
      obtain ⟨q2, eq2, hF⟩ := bd hF
      refine aw_callV hC hA (rest := []) (c_ss_settle N σ1 q2 eq2) mt_X6_settle ln_6_83 (by decide +kernel) ⟨_, rfl⟩ rfl rfl (Nat.le_of_ble_eq_true rfl) ⟨⟨rfl, rfl⟩, Nat.le_of_ble_eq_true rfl, Nat.le_of_ble_eq_true rfl⟩ ⟨Nat.zero_le _, Nat.zero_le _⟩ rfl ?_
      refine aw_run (pc' := 35) hC [(.iload_n 2, 1, 0, 0, .null)] (by decide +kernel) [(0, .ref 0), (1, .int a1), (2, .int (σ.1 4 6))] [.int (σ.1 4 6)] q2 rfl rfl ⟨trivial, trivial⟩ rfl ?_
      exact aw_iret hC hr (by decide +kernel) (pS1 hF) (pS2 hF)
    · have hF := (if_neg h).symm.trans hF
      refine aw_run (pc' := 13) hC [(.ldc 48, 2, 0, 0, .int (-100000003))] (by decide +kernel) [(0, .ref 0), (1, .int a1)] [.int (-100000003)] σ rfl rfl ⟨trivial, trivial⟩ rfl ?_
      exact aw_iret hC hr (by decide +kernel) (pS1 hF) (pS2 hF)
def f_ss_chordFact (σ : Sg) (a1 : Int32) (a2 : Int32) : Option Int32 := if a2 = 2 then (if ib a1 8 then some (σ.1 7 a1.toNatClampNeg) else none) else (if a2 = 3 then (if ib a1 8 then some (σ.1 8 a1.toNatClampNeg) else none) else (if a2 = 4 then (if ib a1 8 then some (σ.1 9 a1.toNatClampNeg) else none) else (if a2 = 5 then ((f_ro_outer σ a1 0).bind fun q4 => some q4) else (if a2 = 6 then ((f_ro_inner σ a1 0).bind fun q5 => some q5) else (if a2 = 7 then ((f_ro_inner σ a1 1).bind fun q6 => some (-q6)) else ((f_ro_outer σ a1 1).bind fun q7 => some (-q7)))))))
def rm_ss_chordFact : Room := { frames := 1, cells := 0, slots := 0, locals := 22 }
set_option maxHeartbeats 4000000 in
set_option maxRecDepth 100000 in
theorem c_ss_chordFact (σ : Sg) (a1 : Int32) (a2 : Int32) (z : Int32) (hF : f_ss_chordFact σ a1 a2 = some z) : Ctr yX6_chordFact cX6_chordFact 3 (some .int) rm_ss_chordFact [.ref 0, .int a1, .int a2] σ (some (.int z)) σ := by
  refine ct_start 6 (by decide) rfl (fun ad => Nat.le_of_ble_eq_true rfl) [(0, .ref 0), (1, .int a1), (2, .int a2)] (fun ad => rfl) ?_
  intro p l e s m args below meth c D ad tc A hC hA hr
  unfold f_ss_chordFact at hF
  refine aw_run (pc' := 1) hC [(.iload_n 2, 1, 0, 0, .null)] (by decide +kernel) [(0, .ref 0), (1, .int a1), (2, .int a2)] [.int a2] σ rfl rfl ⟨trivial, trivial⟩ rfl ?_
  by_cases h1_2 : a2 = 2
  · have hF := (if_pos h1_2).symm.trans hF
    refine aw_tabIn (dflt := 100) (lo := 2) (hi := 7) (offs := #[39, 49, 59, 69, 79, 89]) (len := 39) hC 39 40 h1_2 (by decide +kernel) (by decide) (by decide) (by decide) (by decide) ?_
    obtain ⟨g1, hF⟩ := gd hF
    refine aw_run (pc' := 49) hC [(.aload_n 0, 1, 0, 0, .null), (.getfield 23, 3, 6, 2, .null), (.getfield 105, 3, 3, 2, .null), (.iload_n 1, 1, 0, 0, .null), (.iaload, 1, 0, 0, .null)] (by decide +kernel) [(0, .ref 0), (1, .int a1), (2, .int a2)] [.int (σ.1 7 a1.toNatClampNeg)] σ rfl rfl ⟨trivial, trivial, trivial, trivial, g1, trivial⟩ rfl ?_
    exact aw_iret hC hr (by decide +kernel) (Option.some.inj hF) rfl
  · have hF := (if_neg h1_2).symm.trans hF
    by_cases h1_3 : a2 = 3
    · have hF := (if_pos h1_3).symm.trans hF
      refine aw_tabIn (dflt := 100) (lo := 2) (hi := 7) (offs := #[39, 49, 59, 69, 79, 89]) (len := 39) hC 49 50 h1_3 (by decide +kernel) (by decide) (by decide) (by decide) (by decide) ?_
      obtain ⟨g2, hF⟩ := gd hF
      refine aw_run (pc' := 59) hC [(.aload_n 0, 1, 0, 0, .null), (.getfield 23, 3, 6, 2, .null), (.getfield 108, 3, 3, 3, .null), (.iload_n 1, 1, 0, 0, .null), (.iaload, 1, 0, 0, .null)] (by decide +kernel) [(0, .ref 0), (1, .int a1), (2, .int a2)] [.int (σ.1 8 a1.toNatClampNeg)] σ rfl rfl ⟨trivial, trivial, trivial, trivial, g2, trivial⟩ rfl ?_
      exact aw_iret hC hr (by decide +kernel) (Option.some.inj hF) rfl
    · have hF := (if_neg h1_3).symm.trans hF
      by_cases h1_4 : a2 = 4
      · have hF := (if_pos h1_4).symm.trans hF
        refine aw_tabIn (dflt := 100) (lo := 2) (hi := 7) (offs := #[39, 49, 59, 69, 79, 89]) (len := 39) hC 59 60 h1_4 (by decide +kernel) (by decide) (by decide) (by decide) (by decide) ?_
        obtain ⟨g3, hF⟩ := gd hF
        refine aw_run (pc' := 69) hC [(.aload_n 0, 1, 0, 0, .null), (.getfield 23, 3, 6, 2, .null), (.getfield 115, 3, 3, 4, .null), (.iload_n 1, 1, 0, 0, .null), (.iaload, 1, 0, 0, .null)] (by decide +kernel) [(0, .ref 0), (1, .int a1), (2, .int a2)] [.int (σ.1 9 a1.toNatClampNeg)] σ rfl rfl ⟨trivial, trivial, trivial, trivial, g3, trivial⟩ rfl ?_
        exact aw_iret hC hr (by decide +kernel) (Option.some.inj hF) rfl
      · have hF := (if_neg h1_4).symm.trans hF
        by_cases h1_5 : a2 = 5
        · have hF := (if_pos h1_5).symm.trans hF
          refine aw_tabIn (dflt := 100) (lo := 2) (hi := 7) (offs := #[39, 49, 59, 69, 79, 89]) (len := 39) hC 69 70 h1_5 (by decide +kernel) (by decide) (by decide) (by decide) (by decide) ?_
          refine aw_run (pc' := 76) hC [(.aload_n 0, 1, 0, 0, .null), (.getfield 23, 3, 6, 2, .null), (.iload_n 1, 1, 0, 0, .null), (.iconst 0, 1, 0, 0, .int 0)] (by decide +kernel) [(0, .ref 0), (1, .int a1), (2, .int a2)] [.int 0, .int a1, .ref 4] σ rfl rfl ⟨trivial, trivial, trivial, trivial, trivial⟩ rfl ?_
          obtain ⟨q4, eq4, hF⟩ := bd hF
          refine aw_callV hC hA (rest := []) (c_ro_outer σ a1 0 q4 eq4) mt_X3_outer ln_6_218 (by decide +kernel) ⟨_, rfl⟩ rfl rfl (Nat.le_of_ble_eq_true rfl) ⟨⟨rfl, rfl⟩, Nat.le_of_ble_eq_true rfl, Nat.le_of_ble_eq_true rfl⟩ ⟨Nat.zero_le _, Nat.zero_le _⟩ rfl ?_
          exact aw_iret hC hr (by decide +kernel) (Option.some.inj hF) rfl
        · have hF := (if_neg h1_5).symm.trans hF
          by_cases h1_6 : a2 = 6
          · have hF := (if_pos h1_6).symm.trans hF
            refine aw_tabIn (dflt := 100) (lo := 2) (hi := 7) (offs := #[39, 49, 59, 69, 79, 89]) (len := 39) hC 79 80 h1_6 (by decide +kernel) (by decide) (by decide) (by decide) (by decide) ?_
            refine aw_run (pc' := 86) hC [(.aload_n 0, 1, 0, 0, .null), (.getfield 23, 3, 6, 2, .null), (.iload_n 1, 1, 0, 0, .null), (.iconst 0, 1, 0, 0, .int 0)] (by decide +kernel) [(0, .ref 0), (1, .int a1), (2, .int a2)] [.int 0, .int a1, .ref 4] σ rfl rfl ⟨trivial, trivial, trivial, trivial, trivial⟩ rfl ?_
            obtain ⟨q5, eq5, hF⟩ := bd hF
            refine aw_callV hC hA (rest := []) (c_ro_inner σ a1 0 q5 eq5) mt_X3_inner ln_6_221 (by decide +kernel) ⟨_, rfl⟩ rfl rfl (Nat.le_of_ble_eq_true rfl) ⟨⟨rfl, rfl⟩, Nat.le_of_ble_eq_true rfl, Nat.le_of_ble_eq_true rfl⟩ ⟨Nat.zero_le _, Nat.zero_le _⟩ rfl ?_
            exact aw_iret hC hr (by decide +kernel) (Option.some.inj hF) rfl
          · have hF := (if_neg h1_6).symm.trans hF
            by_cases h1_7 : a2 = 7
            · have hF := (if_pos h1_7).symm.trans hF
              refine aw_tabIn (dflt := 100) (lo := 2) (hi := 7) (offs := #[39, 49, 59, 69, 79, 89]) (len := 39) hC 89 90 h1_7 (by decide +kernel) (by decide) (by decide) (by decide) (by decide) ?_
              refine aw_run (pc' := 96) hC [(.aload_n 0, 1, 0, 0, .null), (.getfield 23, 3, 6, 2, .null), (.iload_n 1, 1, 0, 0, .null), (.iconst 1, 1, 0, 0, .int 1)] (by decide +kernel) [(0, .ref 0), (1, .int a1), (2, .int a2)] [.int 1, .int a1, .ref 4] σ rfl rfl ⟨trivial, trivial, trivial, trivial, trivial⟩ rfl ?_
              obtain ⟨q6, eq6, hF⟩ := bd hF
              refine aw_callV hC hA (rest := []) (c_ro_inner σ a1 1 q6 eq6) mt_X3_inner ln_6_221 (by decide +kernel) ⟨_, rfl⟩ rfl rfl (Nat.le_of_ble_eq_true rfl) ⟨⟨rfl, rfl⟩, Nat.le_of_ble_eq_true rfl, Nat.le_of_ble_eq_true rfl⟩ ⟨Nat.zero_le _, Nat.zero_le _⟩ rfl ?_
              refine aw_run (pc' := 100) hC [(.ineg, 1, 0, 0, .null)] (by decide +kernel) [(0, .ref 0), (1, .int a1), (2, .int a2)] [.int (-q6)] σ rfl rfl ⟨trivial, trivial⟩ rfl ?_
              exact aw_iret hC hr (by decide +kernel) (Option.some.inj hF) rfl
            · have hF := (if_neg h1_7).symm.trans hF
              refine aw_tabOut (dflt := 100) (lo := 2) (hi := 7) (offs := #[39, 49, 59, 69, 79, 89]) (len := 39) hC 101 (by decide +kernel) (by have q2 := tn h1_2 (k := 2) (by decide); have q3 := tn h1_3 (k := 3) (by decide); have q4 := tn h1_4 (k := 4) (by decide); have q5 := tn h1_5 (k := 5) (by decide); have q6 := tn h1_6 (k := 6) (by decide); have q7 := tn h1_7 (k := 7) (by decide); omega) (by decide) ?_
              refine aw_run (pc' := 107) hC [(.aload_n 0, 1, 0, 0, .null), (.getfield 23, 3, 6, 2, .null), (.iload_n 1, 1, 0, 0, .null), (.iconst 1, 1, 0, 0, .int 1)] (by decide +kernel) [(0, .ref 0), (1, .int a1), (2, .int a2)] [.int 1, .int a1, .ref 4] σ rfl rfl ⟨trivial, trivial, trivial, trivial, trivial⟩ rfl ?_
              obtain ⟨q7, eq7, hF⟩ := bd hF
              refine aw_callV hC hA (rest := []) (c_ro_outer σ a1 1 q7 eq7) mt_X3_outer ln_6_218 (by decide +kernel) ⟨_, rfl⟩ rfl rfl (Nat.le_of_ble_eq_true rfl) ⟨⟨rfl, rfl⟩, Nat.le_of_ble_eq_true rfl, Nat.le_of_ble_eq_true rfl⟩ ⟨Nat.zero_le _, Nat.zero_le _⟩ rfl ?_
              refine aw_run (pc' := 111) hC [(.ineg, 1, 0, 0, .null)] (by decide +kernel) [(0, .ref 0), (1, .int a1), (2, .int a2)] [.int (-q7)] σ rfl rfl ⟨trivial, trivial⟩ rfl ?_
              exact aw_iret hC hr (by decide +kernel) (Option.some.inj hF) rfl
def f_ss_station (σ : Sg) (a1 : Int32) (a2 : Int32) : Option Int32 := if (f_ro_has σ a1) = 0 then (some (-100000002)) else (if a2 < 0 then (some (-100000003)) else (if a2 ≤ 8 then (if a2 = 0 then (if ib a1 8 then some (σ.1 5 a1.toNatClampNeg) else none) else (if a2 = 1 then (if ib a1 8 then if (σ.1 6 a1.toNatClampNeg) = 0 then (some 0) else (some 1) else none) else (if ib a1 8 then if (σ.1 6 a1.toNatClampNeg) = 0 then ((f_ss_chordFact σ a1 a2).bind fun q2 => some q2) else (some (-100000001)) else none))) else (some (-100000003))))
def rm_ss_station : Room := { frames := 2, cells := 0, slots := 0, locals := 44 }
set_option maxHeartbeats 4000000 in
set_option maxRecDepth 100000 in
theorem c_ss_station (σ : Sg) (a1 : Int32) (a2 : Int32) (z : Int32) (hF : f_ss_station σ a1 a2 = some z) : Ctr yX6_station cX6_station 3 (some .int) rm_ss_station [.ref 0, .int a1, .int a2] σ (some (.int z)) σ := by
  refine ct_start 6 (by decide) rfl (fun ad => Nat.le_of_ble_eq_true rfl) [(0, .ref 0), (1, .int a1), (2, .int a2)] (fun ad => rfl) ?_
  intro p l e s m args below meth c D ad tc A hC hA hr
  unfold f_ss_station at hF
  refine aw_run (pc' := 5) hC [(.aload_n 0, 1, 0, 0, .null), (.getfield 23, 3, 6, 2, .null), (.iload_n 1, 1, 0, 0, .null)] (by decide +kernel) [(0, .ref 0), (1, .int a1), (2, .int a2)] [.int a1, .ref 4] σ rfl rfl ⟨trivial, trivial, trivial, trivial⟩ rfl ?_
  refine aw_callV hC hA (rest := []) (c_ro_has σ a1 _ rfl) mt_X3_has ln_6_89 (by decide +kernel) ⟨_, rfl⟩ rfl rfl (Nat.le_of_ble_eq_true rfl) ⟨⟨rfl, rfl⟩, Nat.le_of_ble_eq_true rfl, Nat.le_of_ble_eq_true rfl⟩ ⟨Nat.zero_le _, Nat.zero_le _⟩ rfl ?_
  refine aw_if_ne (off := 6) hC 14 Iff.rfl (by decide +kernel) (by decide) (fun h => ?_) (fun h => ?_)
  · have hF := (if_neg h).symm.trans hF
    refine aw_run (pc' := 15) hC [(.iload_n 2, 1, 0, 0, .null)] (by decide +kernel) [(0, .ref 0), (1, .int a1), (2, .int a2)] [.int a2] σ rfl rfl ⟨trivial, trivial⟩ rfl ?_
    refine aw_if_lt (off := 9) hC 24 Iff.rfl (by decide +kernel) (by decide) (fun h => ?_) (fun h => ?_)
    · have hF := (if_pos h).symm.trans hF
      refine aw_run (pc' := 26) hC [(.ldc 48, 2, 0, 0, .int (-100000003))] (by decide +kernel) [(0, .ref 0), (1, .int a1), (2, .int a2)] [.int (-100000003)] σ rfl rfl ⟨trivial, trivial⟩ rfl ?_
      exact aw_iret hC hr (by decide +kernel) (Option.some.inj hF) rfl
    · have hF := (if_neg h).symm.trans hF
      refine aw_run (pc' := 21) hC [(.iload_n 2, 1, 0, 0, .null), (.bipush 8, 2, 0, 0, .int 8)] (by decide +kernel) [(0, .ref 0), (1, .int a1), (2, .int a2)] [.int 8, .int a2] σ rfl rfl ⟨trivial, trivial, trivial⟩ rfl ?_
      refine aw_icmp_le (off := 6) hC 27 (by decide +kernel) (by decide) (fun h => ?_) (fun h => ?_)
      · have hF := (if_pos h).symm.trans hF
        refine aw_run (pc' := 28) hC [(.iload_n 2, 1, 0, 0, .null)] (by decide +kernel) [(0, .ref 0), (1, .int a1), (2, .int a2)] [.int a2] σ rfl rfl ⟨trivial, trivial⟩ rfl ?_
        refine aw_if_ne (off := 13) hC 41 Iff.rfl (by decide +kernel) (by decide) (fun h => ?_) (fun h => ?_)
        · have hF := (if_neg h).symm.trans hF
          refine aw_run (pc' := 43) hC [(.iload_n 2, 1, 0, 0, .null), (.iconst 1, 1, 0, 0, .int 1)] (by decide +kernel) [(0, .ref 0), (1, .int a1), (2, .int a2)] [.int 1, .int a2] σ rfl rfl ⟨trivial, trivial, trivial⟩ rfl ?_
          refine aw_icmp_ne (off := 21) hC 64 (by decide +kernel) (by decide) (fun h => ?_) (fun h => ?_)
          · have hF := (if_neg h).symm.trans hF
            obtain ⟨g1, hF⟩ := gd hF
            refine aw_run (pc' := 73) hC [(.aload_n 0, 1, 0, 0, .null), (.getfield 23, 3, 6, 2, .null), (.getfield 101, 3, 3, 1, .null), (.iload_n 1, 1, 0, 0, .null), (.baload, 1, 0, 0, .null)] (by decide +kernel) [(0, .ref 0), (1, .int a1), (2, .int a2)] [.int (σ.1 6 a1.toNatClampNeg)] σ rfl rfl ⟨trivial, trivial, trivial, trivial, g1, trivial⟩ rfl ?_
            refine aw_if_eq (off := 8) hC 81 Iff.rfl (by decide +kernel) (by decide) (fun h => ?_) (fun h => ?_)
            · have hF := (if_pos h).symm.trans hF
              refine aw_run (pc' := 84) hC [(.aload_n 0, 1, 0, 0, .null), (.iload_n 1, 1, 0, 0, .null), (.iload_n 2, 1, 0, 0, .null)] (by decide +kernel) [(0, .ref 0), (1, .int a1), (2, .int a2)] [.int a2, .int a1, .ref 0] σ rfl rfl ⟨trivial, trivial, trivial, trivial⟩ rfl ?_
              obtain ⟨q2, eq2, hF⟩ := bd hF
              refine aw_callV hC hA (rest := []) (c_ss_chordFact σ a1 a2 q2 eq2) mt_X6_chordFact ln_6_125 (by decide +kernel) ⟨_, rfl⟩ rfl rfl (Nat.le_of_ble_eq_true rfl) ⟨⟨rfl, rfl⟩, Nat.le_of_ble_eq_true rfl, Nat.le_of_ble_eq_true rfl⟩ ⟨Nat.zero_le _, Nat.zero_le _⟩ rfl ?_
              exact aw_iret hC hr (by decide +kernel) (Option.some.inj hF) rfl
            · have hF := (if_neg h).symm.trans hF
              refine aw_run (pc' := 78) hC [(.ldc 124, 2, 0, 0, .int (-100000001))] (by decide +kernel) [(0, .ref 0), (1, .int a1), (2, .int a2)] [.int (-100000001)] σ rfl rfl ⟨trivial, trivial⟩ rfl ?_
              refine aw_goto (off := 9) hC 87 (by decide +kernel) (by decide) ?_
              exact aw_iret hC hr (by decide +kernel) (Option.some.inj hF) rfl
          · have hF := (if_pos h).symm.trans hF
            obtain ⟨g3, hF⟩ := gd hF
            refine aw_run (pc' := 55) hC [(.aload_n 0, 1, 0, 0, .null), (.getfield 23, 3, 6, 2, .null), (.getfield 101, 3, 3, 1, .null), (.iload_n 1, 1, 0, 0, .null), (.baload, 1, 0, 0, .null)] (by decide +kernel) [(0, .ref 0), (1, .int a1), (2, .int a2)] [.int (σ.1 6 a1.toNatClampNeg)] σ rfl rfl ⟨trivial, trivial, trivial, trivial, g3, trivial⟩ rfl ?_
            refine aw_if_eq (off := 7) hC 62 Iff.rfl (by decide +kernel) (by decide) (fun h => ?_) (fun h => ?_)
            · have hF := (if_pos h).symm.trans hF
              refine aw_run (pc' := 63) hC [(.iconst 0, 1, 0, 0, .int 0)] (by decide +kernel) [(0, .ref 0), (1, .int a1), (2, .int a2)] [.int 0] σ rfl rfl ⟨trivial, trivial⟩ rfl ?_
              exact aw_iret hC hr (by decide +kernel) (Option.some.inj hF) rfl
            · have hF := (if_neg h).symm.trans hF
              refine aw_run (pc' := 59) hC [(.iconst 1, 1, 0, 0, .int 1)] (by decide +kernel) [(0, .ref 0), (1, .int a1), (2, .int a2)] [.int 1] σ rfl rfl ⟨trivial, trivial⟩ rfl ?_
              refine aw_goto (off := 4) hC 63 (by decide +kernel) (by decide) ?_
              exact aw_iret hC hr (by decide +kernel) (Option.some.inj hF) rfl
        · have hF := (if_pos h).symm.trans hF
          obtain ⟨g4, hF⟩ := gd hF
          refine aw_run (pc' := 40) hC [(.aload_n 0, 1, 0, 0, .null), (.getfield 23, 3, 6, 2, .null), (.getfield 121, 3, 3, 0, .null), (.iload_n 1, 1, 0, 0, .null), (.iaload, 1, 0, 0, .null)] (by decide +kernel) [(0, .ref 0), (1, .int a1), (2, .int a2)] [.int (σ.1 5 a1.toNatClampNeg)] σ rfl rfl ⟨trivial, trivial, trivial, trivial, g4, trivial⟩ rfl ?_
          exact aw_iret hC hr (by decide +kernel) (Option.some.inj hF) rfl
      · have hF := (if_neg h).symm.trans hF
        refine aw_run (pc' := 26) hC [(.ldc 48, 2, 0, 0, .int (-100000003))] (by decide +kernel) [(0, .ref 0), (1, .int a1), (2, .int a2)] [.int (-100000003)] σ rfl rfl ⟨trivial, trivial⟩ rfl ?_
        exact aw_iret hC hr (by decide +kernel) (Option.some.inj hF) rfl
  · have hF := (if_pos h).symm.trans hF
    refine aw_run (pc' := 13) hC [(.ldc 93, 2, 0, 0, .int (-100000002))] (by decide +kernel) [(0, .ref 0), (1, .int a1), (2, .int a2)] [.int (-100000002)] σ rfl rfl ⟨trivial, trivial⟩ rfl ?_
    exact aw_iret hC hr (by decide +kernel) (Option.some.inj hF) rfl
def f_ss_isHeight (a0 : Int32) : Int32 := if a0 < (-200) then 0 else (if (200 : Int32) < a0 then 0 else 1)
def rm_ss_isHeight : Room := { frames := 0, cells := 0, slots := 0, locals := 0 }
set_option maxHeartbeats 4000000 in
set_option maxRecDepth 100000 in
theorem c_ss_isHeight (σ : Sg) (a0 : Int32) (z : Int32) (hF : f_ss_isHeight a0 = z) : Ctr yX6_isHeight cX6_isHeight 1 (some .boolean) rm_ss_isHeight [.int a0] σ (some (.int z)) σ := by
  refine ct_start 6 (by decide) rfl (fun ad => Nat.le_of_ble_eq_true rfl) [(0, .int a0)] (fun ad => rfl) ?_
  intro p l e s m args below meth c D ad tc A hC hA hr
  unfold f_ss_isHeight at hF
  refine aw_run (pc' := 4) hC [(.iload_n 0, 1, 0, 0, .null), (.sipush (-200), 3, 0, 0, .int (-200))] (by decide +kernel) [(0, .int a0)] [.int (-200), .int a0] σ rfl rfl ⟨trivial, trivial, trivial⟩ rfl ?_
  refine aw_icmp_lt (off := 14) hC 18 (by decide +kernel) (by decide) (fun h => ?_) (fun h => ?_)
  · have hF := (if_pos h).symm.trans hF
    refine aw_run (pc' := 19) hC [(.iconst 0, 1, 0, 0, .int 0)] (by decide +kernel) [(0, .int a0)] [.int 0] σ rfl rfl ⟨trivial, trivial⟩ rfl ?_
    exact aw_zret hC hr (Or.inl rfl) (by decide +kernel) hF rfl
  · have hF := (if_neg h).symm.trans hF
    refine aw_run (pc' := 11) hC [(.iload_n 0, 1, 0, 0, .null), (.sipush 200, 3, 0, 0, .int 200)] (by decide +kernel) [(0, .int a0)] [.int 200, .int a0] σ rfl rfl ⟨trivial, trivial, trivial⟩ rfl ?_
    refine aw_icmp_gt (off := 7) hC 18 (by decide +kernel) (by decide) (fun h => ?_) (fun h => ?_)
    · have hF := (if_pos h).symm.trans hF
      refine aw_run (pc' := 19) hC [(.iconst 0, 1, 0, 0, .int 0)] (by decide +kernel) [(0, .int a0)] [.int 0] σ rfl rfl ⟨trivial, trivial⟩ rfl ?_
      exact aw_zret hC hr (Or.inl rfl) (by decide +kernel) hF rfl
    · have hF := (if_neg h).symm.trans hF
      refine aw_run (pc' := 15) hC [(.iconst 1, 1, 0, 0, .int 1)] (by decide +kernel) [(0, .int a0)] [.int 1] σ rfl rfl ⟨trivial, trivial⟩ rfl ?_
      refine aw_goto (off := 4) hC 19 (by decide +kernel) (by decide) ?_
      exact aw_zret hC hr (Or.inr rfl) (by decide +kernel) hF rfl
def f_ss_at (N : Nat) (σ : Sg) (a1 : Int32) : Option Int32 := if (f_ss_isHeight a1) = 0 then (some (-100000003)) else ((f_ro_find N σ a1).bind fun q1 => if 0 ≤ q1 then (some q1) else (some (-100000001)))
def rm_ss_at : Room := { frames := 1, cells := 0, slots := 0, locals := 22 }
set_option maxHeartbeats 4000000 in
set_option maxRecDepth 100000 in
theorem c_ss_at (N : Nat) (σ : Sg) (a1 : Int32) (z : Int32) (hF : f_ss_at N σ a1 = some z) : Ctr yX6_at cX6_at 3 (some .int) rm_ss_at [.ref 0, .int a1] σ (some (.int z)) σ := by
  refine ct_start 6 (by decide) rfl (fun ad => Nat.le_of_ble_eq_true rfl) [(0, .ref 0), (1, .int a1)] (fun ad => rfl) ?_
  intro p l e s m args below meth c D ad tc A hC hA hr
  unfold f_ss_at at hF
  refine aw_run (pc' := 1) hC [(.iload_n 1, 1, 0, 0, .null)] (by decide +kernel) [(0, .ref 0), (1, .int a1)] [.int a1] σ rfl rfl ⟨trivial, trivial⟩ rfl ?_
  refine aw_callS hC hA (rest := []) (c_ss_isHeight σ a1 _ rfl) mt_X6_isHeight ln_6_129 (by decide +kernel) rfl rfl (Nat.le_of_ble_eq_true rfl) ⟨⟨rfl, rfl⟩, Nat.le_of_ble_eq_true rfl, Nat.le_of_ble_eq_true rfl⟩ ⟨Nat.zero_le _, Nat.zero_le _⟩ rfl ?_
  refine aw_if_ne (off := 6) hC 10 Iff.rfl (by decide +kernel) (by decide) (fun h => ?_) (fun h => ?_)
  · have hF := (if_neg h).symm.trans hF
    refine aw_run (pc' := 15) hC [(.aload_n 0, 1, 0, 0, .null), (.getfield 23, 3, 6, 2, .null), (.iload_n 1, 1, 0, 0, .null)] (by decide +kernel) [(0, .ref 0), (1, .int a1)] [.int a1, .ref 4] σ rfl rfl ⟨trivial, trivial, trivial, trivial⟩ rfl ?_
    obtain ⟨q1, eq1, hF⟩ := bd hF
    refine aw_callV hC hA (rest := []) (c_ro_find N σ a1 q1 eq1) mt_X3_find ln_6_69 (by decide +kernel) ⟨_, rfl⟩ rfl rfl (Nat.le_of_ble_eq_true rfl) ⟨⟨rfl, rfl⟩, Nat.le_of_ble_eq_true rfl, Nat.le_of_ble_eq_true rfl⟩ ⟨Nat.zero_le _, Nat.zero_le _⟩ rfl ?_
    refine aw_run (pc' := 20) hC [(.istore_n 2, 1, 0, 0, .null), (.iload_n 2, 1, 0, 0, .null)] (by decide +kernel) [(0, .ref 0), (1, .int a1), (2, .int q1)] [.int q1] σ rfl rfl ⟨trivial, trivial, trivial⟩ rfl ?_
    refine aw_if_ge (off := 8) hC 28 Iff.rfl (by decide +kernel) (by decide) (fun h => ?_) (fun h => ?_)
    · have hF := (if_pos h).symm.trans hF
      refine aw_run (pc' := 29) hC [(.iload_n 2, 1, 0, 0, .null)] (by decide +kernel) [(0, .ref 0), (1, .int a1), (2, .int q1)] [.int q1] σ rfl rfl ⟨trivial, trivial⟩ rfl ?_
      exact aw_iret hC hr (by decide +kernel) (Option.some.inj hF) rfl
    · have hF := (if_neg h).symm.trans hF
      refine aw_run (pc' := 25) hC [(.ldc 124, 2, 0, 0, .int (-100000001))] (by decide +kernel) [(0, .ref 0), (1, .int a1), (2, .int q1)] [.int (-100000001)] σ rfl rfl ⟨trivial, trivial⟩ rfl ?_
      refine aw_goto (off := 4) hC 29 (by decide +kernel) (by decide) ?_
      exact aw_iret hC hr (by decide +kernel) (Option.some.inj hF) rfl
  · have hF := (if_pos h).symm.trans hF
    refine aw_run (pc' := 9) hC [(.ldc 48, 2, 0, 0, .int (-100000003))] (by decide +kernel) [(0, .ref 0), (1, .int a1)] [.int (-100000003)] σ rfl rfl ⟨trivial, trivial⟩ rfl ?_
    exact aw_iret hC hr (by decide +kernel) (Option.some.inj hF) rfl
def f_ss_allFit (σ : Sg) : Int32 := if (σ.1 10 2) = 0 then 1 else 0
def rm_ss_allFit : Room := { frames := 0, cells := 0, slots := 0, locals := 0 }
set_option maxHeartbeats 4000000 in
set_option maxRecDepth 100000 in
theorem c_ss_allFit (σ : Sg) (z : Int32) (hF : f_ss_allFit σ = z) : Ctr yX6_allFit cX6_allFit 1 (some .boolean) rm_ss_allFit [.ref 0] σ (some (.int z)) σ := by
  refine ct_start 6 (by decide) rfl (fun ad => Nat.le_of_ble_eq_true rfl) [(0, .ref 0)] (fun ad => rfl) ?_
  intro p l e s m args below meth c D ad tc A hC hA hr
  unfold f_ss_allFit at hF
  refine aw_run (pc' := 7) hC [(.aload_n 0, 1, 0, 0, .null), (.getfield 30, 3, 6, 3, .null), (.getfield 135, 3, 5, 2, .null)] (by decide +kernel) [(0, .ref 0)] [.int (σ.1 10 2)] σ rfl rfl ⟨trivial, trivial, trivial, trivial⟩ rfl ?_
  refine aw_if_ne (off := 7) hC 14 Iff.rfl (by decide +kernel) (by decide) (fun h => ?_) (fun h => ?_)
  · have hF := (if_neg h).symm.trans hF
    refine aw_run (pc' := 15) hC [(.iconst 0, 1, 0, 0, .int 0)] (by decide +kernel) [(0, .ref 0)] [.int 0] σ rfl rfl ⟨trivial, trivial⟩ rfl ?_
    exact aw_zret hC hr (Or.inl rfl) (by decide +kernel) hF rfl
  · have hF := (if_pos h).symm.trans hF
    refine aw_run (pc' := 11) hC [(.iconst 1, 1, 0, 0, .int 1)] (by decide +kernel) [(0, .ref 0)] [.int 1] σ rfl rfl ⟨trivial, trivial⟩ rfl ?_
    refine aw_goto (off := 4) hC 15 (by decide +kernel) (by decide) ?_
    exact aw_zret hC hr (Or.inr rfl) (by decide +kernel) hF rfl
def f_ss_fits (σ : Sg) : Int32 := if (f_ss_allFit σ) = 0 then 0 else 1
def rm_ss_fits : Room := { frames := 1, cells := 0, slots := 0, locals := 20 }
set_option maxHeartbeats 4000000 in
set_option maxRecDepth 100000 in
theorem c_ss_fits (σ : Sg) (z : Int32) (hF : f_ss_fits σ = z) : Ctr yX6_fits cX6_fits 1 (some .int) rm_ss_fits [.ref 0] σ (some (.int z)) σ := by
  refine ct_start 6 (by decide) rfl (fun ad => Nat.le_of_ble_eq_true rfl) [(0, .ref 0)] (fun ad => rfl) ?_
  intro p l e s m args below meth c D ad tc A hC hA hr
  unfold f_ss_fits at hF
  refine aw_run (pc' := 1) hC [(.aload_n 0, 1, 0, 0, .null)] (by decide +kernel) [(0, .ref 0)] [.ref 0] σ rfl rfl ⟨trivial, trivial⟩ rfl ?_
  refine aw_callV hC hA (rest := []) (c_ss_allFit σ _ rfl) mt_X6_allFit ln_6_132 (by decide +kernel) ⟨_, rfl⟩ rfl rfl (Nat.le_of_ble_eq_true rfl) ⟨⟨rfl, rfl⟩, Nat.le_of_ble_eq_true rfl, Nat.le_of_ble_eq_true rfl⟩ ⟨Nat.zero_le _, Nat.zero_le _⟩ rfl ?_
  refine aw_if_eq (off := 7) hC 11 Iff.rfl (by decide +kernel) (by decide) (fun h => ?_) (fun h => ?_)
  · have hF := (if_pos h).symm.trans hF
    refine aw_run (pc' := 12) hC [(.iconst 0, 1, 0, 0, .int 0)] (by decide +kernel) [(0, .ref 0)] [.int 0] σ rfl rfl ⟨trivial, trivial⟩ rfl ?_
    exact aw_iret hC hr (by decide +kernel) hF rfl
  · have hF := (if_neg h).symm.trans hF
    refine aw_run (pc' := 8) hC [(.iconst 1, 1, 0, 0, .int 1)] (by decide +kernel) [(0, .ref 0)] [.int 1] σ rfl rfl ⟨trivial, trivial⟩ rfl ?_
    refine aw_goto (off := 4) hC 12 (by decide +kernel) (by decide) ?_
    exact aw_iret hC hr (by decide +kernel) hF rfl
def f_ss_wrong (σ : Sg) : Int32 := σ.1 10 2
def rm_ss_wrong : Room := { frames := 0, cells := 0, slots := 0, locals := 0 }
set_option maxHeartbeats 4000000 in
set_option maxRecDepth 100000 in
theorem c_ss_wrong (σ : Sg) (z : Int32) (hF : f_ss_wrong σ = z) : Ctr yX6_wrong cX6_wrong 1 (some .int) rm_ss_wrong [.ref 0] σ (some (.int z)) σ := by
  refine ct_start 6 (by decide) rfl (fun ad => Nat.le_of_ble_eq_true rfl) [(0, .ref 0)] (fun ad => rfl) ?_
  intro p l e s m args below meth c D ad tc A hC hA hr
  unfold f_ss_wrong at hF
  refine aw_run (pc' := 7) hC [(.aload_n 0, 1, 0, 0, .null), (.getfield 30, 3, 6, 3, .null), (.getfield 135, 3, 5, 2, .null)] (by decide +kernel) [(0, .ref 0)] [.int (σ.1 10 2)] σ rfl rfl ⟨trivial, trivial, trivial, trivial⟩ rfl ?_
  exact aw_iret hC hr (by decide +kernel) hF rfl
def f_hu_after (σ : Sg) (a1 : Int32) : Int32 := if (σ.1 12 5) ≤ (a1 + 1) then 0 else (a1 + 1)
def rm_hu_after : Room := { frames := 0, cells := 0, slots := 0, locals := 0 }
set_option maxHeartbeats 4000000 in
set_option maxRecDepth 100000 in
theorem c_hu_after (σ : Sg) (a1 : Int32) (z : Int32) (hF : f_hu_after σ a1 = z) : Ctr yX1_after cX1_after 2 (some .int) rm_hu_after [.ref 12, .int a1] σ (some (.int z)) σ := by
  refine ct_start 1 (by decide) rfl (fun ad => Nat.le_of_ble_eq_true rfl) [(0, .ref 12), (1, .int a1)] (fun ad => rfl) ?_
  intro p l e s m args below meth c D ad tc A hC hA hr
  unfold f_hu_after at hF
  refine aw_run (pc' := 7) hC [(.iload_n 1, 1, 0, 0, .null), (.iconst 1, 1, 0, 0, .int 1), (.iadd, 1, 0, 0, .null), (.aload_n 0, 1, 0, 0, .null), (.getfield 28, 3, 1, 5, .null)] (by decide +kernel) [(0, .ref 12), (1, .int a1)] [.int (σ.1 12 5), .int (a1 + 1)] σ rfl rfl ⟨trivial, trivial, trivial, trivial, trivial, trivial⟩ rfl ?_
  refine aw_icmp_ge (off := 9) hC 16 (by decide +kernel) (by decide) (fun h => ?_) (fun h => ?_)
  · have hF := (if_pos h).symm.trans hF
    refine aw_run (pc' := 17) hC [(.iconst 0, 1, 0, 0, .int 0)] (by decide +kernel) [(0, .ref 12), (1, .int a1)] [.int 0] σ rfl rfl ⟨trivial, trivial⟩ rfl ?_
    exact aw_iret hC hr (by decide +kernel) hF rfl
  · have hF := (if_neg h).symm.trans hF
    refine aw_run (pc' := 13) hC [(.iload_n 1, 1, 0, 0, .null), (.iconst 1, 1, 0, 0, .int 1), (.iadd, 1, 0, 0, .null)] (by decide +kernel) [(0, .ref 12), (1, .int a1)] [.int (a1 + 1)] σ rfl rfl ⟨trivial, trivial, trivial, trivial⟩ rfl ?_
    refine aw_goto (off := 4) hC 17 (by decide +kernel) (by decide) ?_
    exact aw_iret hC hr (by decide +kernel) hF rfl
def f_hu_doubleArea_c4_s (N : Nat) (kc4 : Int32 → Int32 → Sg → Option Int32) (a1 : Int32) (a2 : Int32) (σ : Sg) : Option Int32 := if (σ.1 12 5) ≤ a2 then (some a1) else (if ib a2 16 then if ib (f_hu_after σ a2) 16 then kc4 (a1 + (((σ.1 15 a2.toNatClampNeg) * (σ.1 16 (f_hu_after σ a2).toNatClampNeg)) - ((σ.1 15 (f_hu_after σ a2).toNatClampNeg) * (σ.1 16 a2.toNatClampNeg)))) (a2 + 1) σ else none else none)
def f_hu_doubleArea_c4 (N : Nat) : Nat → Int32 → Int32 → Sg → Option Int32
  | 0 => fun _ _ _ => none
  | n + 1 => f_hu_doubleArea_c4_s N (f_hu_doubleArea_c4 N n)
def f_hu_doubleArea (N : Nat) (σ : Sg) : Option Int32 := f_hu_doubleArea_c4 N N 0 0 σ
def rm_hu_doubleArea : Room := { frames := 1, cells := 0, slots := 0, locals := 21 }
set_option maxHeartbeats 4000000 in
set_option maxRecDepth 100000 in
theorem c_hu_doubleArea (N : Nat) (σ : Sg) (z : Int32) (hF : f_hu_doubleArea N σ = some z) : Ctr yX1_doubleArea cX1_doubleArea 4 (some .int) rm_hu_doubleArea [.ref 12] σ (some (.int z)) σ := by
  refine ct_start 1 (by decide) rfl (fun ad => Nat.le_of_ble_eq_true rfl) [(0, .ref 12)] (fun ad => rfl) ?_
  intro p l e s m args below meth c D ad tc A hC hA hr
  have Jc4 : ∀ (n : Nat) (a1 : Int32) (a2 : Int32), f_hu_doubleArea_c4 N n a1 a2 σ = some z → AW p l e rm_hu_doubleArea s m args below meth c D ad tc 4 A s.heap 0 0 (MQ below (Qr (some (.int z)) D ad tc σ A) args s 0 0 A) 4 [(0, .ref 12), (1, .int a1), (2, .int a2)] [] σ := by
    intro n
    induction n with
    | zero =>
      intro a1 a2 hF
      cases hF
    | succ n ih =>
      intro a1 a2 hF
      have hF : f_hu_doubleArea_c4_s N (f_hu_doubleArea_c4 N n) a1 a2 σ = some z := hF
      unfold f_hu_doubleArea_c4_s at hF
      refine aw_run (pc' := 9) hC [(.iload_n 2, 1, 0, 0, .null), (.aload_n 0, 1, 0, 0, .null), (.getfield 28, 3, 1, 5, .null)] (by decide +kernel) [(0, .ref 12), (1, .int a1), (2, .int a2)] [.int (σ.1 12 5), .int a2] σ rfl rfl ⟨trivial, trivial, trivial, trivial⟩ rfl ?_
      refine aw_icmp_ge (off := 45) hC 54 (by decide +kernel) (by decide) (fun h => ?_) (fun h => ?_)
      · have hF := (if_pos h).symm.trans hF
        refine aw_run (pc' := 55) hC [(.iload_n 1, 1, 0, 0, .null)] (by decide +kernel) [(0, .ref 12), (1, .int a1), (2, .int a2)] [.int a1] σ rfl rfl ⟨trivial, trivial⟩ rfl ?_
        exact aw_iret hC hr (by decide +kernel) (Option.some.inj hF) rfl
      · have hF := (if_neg h).symm.trans hF
        refine aw_run (pc' := 14) hC [(.aload_n 0, 1, 0, 0, .null), (.iload_n 2, 1, 0, 0, .null)] (by decide +kernel) [(0, .ref 12), (1, .int a1), (2, .int a2)] [.int a2, .ref 12] σ rfl rfl ⟨trivial, trivial, trivial⟩ rfl ?_
        refine aw_callV hC hA (rest := []) (c_hu_after σ a2 _ rfl) mt_X1_after ln_1_43 (by decide +kernel) ⟨_, rfl⟩ rfl rfl (Nat.le_of_ble_eq_true rfl) ⟨⟨rfl, rfl⟩, Nat.le_of_ble_eq_true rfl, Nat.le_of_ble_eq_true rfl⟩ ⟨Nat.zero_le _, Nat.zero_le _⟩ rfl ?_
        obtain ⟨g1, hF⟩ := gd hF
        obtain ⟨g2, hF⟩ := gd hF
        refine aw_run (pc' := 51) hC [(.istore_n 3, 1, 0, 0, .null), (.iload_n 1, 1, 0, 0, .null), (.aload_n 0, 1, 0, 0, .null), (.getfield 18, 3, 1, 3, .null), (.iload_n 2, 1, 0, 0, .null), (.iaload, 1, 0, 0, .null), (.aload_n 0, 1, 0, 0, .null), (.getfield 21, 3, 1, 4, .null), (.iload_n 3, 1, 0, 0, .null), (.iaload, 1, 0, 0, .null), (.imul, 1, 0, 0, .null), (.aload_n 0, 1, 0, 0, .null), (.getfield 18, 3, 1, 3, .null), (.iload_n 3, 1, 0, 0, .null), (.iaload, 1, 0, 0, .null), (.aload_n 0, 1, 0, 0, .null), (.getfield 21, 3, 1, 4, .null), (.iload_n 2, 1, 0, 0, .null), (.iaload, 1, 0, 0, .null), (.imul, 1, 0, 0, .null), (.isub, 1, 0, 0, .null), (.iadd, 1, 0, 0, .null), (.istore_n 1, 1, 0, 0, .null), (.iinc 2 1, 3, 0, 0, .int 1)] (by decide +kernel) [(0, .ref 12), (1, .int (a1 + (((σ.1 15 a2.toNatClampNeg) * (σ.1 16 (f_hu_after σ a2).toNatClampNeg)) - ((σ.1 15 (f_hu_after σ a2).toNatClampNeg) * (σ.1 16 a2.toNatClampNeg))))), (2, .int (a2 + 1)), (3, .int (f_hu_after σ a2))] [] σ rfl rfl ⟨trivial, trivial, trivial, trivial, trivial, g1, trivial, trivial, trivial, g2, trivial, trivial, trivial, trivial, g2, trivial, trivial, trivial, g1, trivial, trivial, trivial, trivial, trivial, trivial⟩ rfl ?_
        refine aw_goto (off := -47) hC 4 (by decide +kernel) (by decide) ?_
        refine aw_pick [0, 1, 2] [(0, .ref 12), (1, .int (a1 + (((σ.1 15 a2.toNatClampNeg) * (σ.1 16 (f_hu_after σ a2).toNatClampNeg)) - ((σ.1 15 (f_hu_after σ a2).toNatClampNeg) * (σ.1 16 a2.toNatClampNeg))))), (2, .int (a2 + 1))] rfl ?_
        exact ih (a1 + (((σ.1 15 a2.toNatClampNeg) * (σ.1 16 (f_hu_after σ a2).toNatClampNeg)) - ((σ.1 15 (f_hu_after σ a2).toNatClampNeg) * (σ.1 16 a2.toNatClampNeg)))) (a2 + 1) hF
  unfold f_hu_doubleArea at hF
  refine aw_run (pc' := 4) hC [(.iconst 0, 1, 0, 0, .int 0), (.istore_n 1, 1, 0, 0, .null), (.iconst 0, 1, 0, 0, .int 0), (.istore_n 2, 1, 0, 0, .null)] (by decide +kernel) [(0, .ref 12), (1, .int 0), (2, .int 0)] [] σ rfl rfl ⟨trivial, trivial, trivial, trivial, trivial⟩ rfl ?_
  exact Jc4 N 0 0 hF
def f_jm_max_7cf53 (a0 : Int32) (a1 : Int32) : Int32 := if a0 < a1 then a1 else a0
def rm_jm_max_7cf53 : Room := { frames := 0, cells := 0, slots := 0, locals := 0 }
set_option maxHeartbeats 4000000 in
set_option maxRecDepth 100000 in
theorem c_jm_max_7cf53 (σ : Sg) (a0 : Int32) (a1 : Int32) (z : Int32) (hF : f_jm_max_7cf53 a0 a1 = z) : Ctr yJ9_max_7cf53 cJ9_max_7cf53 2 (some .int) rm_jm_max_7cf53 [.int a0, .int a1] σ (some (.int z)) σ := by
  refine ct_startJ 9 pf_J9_max_7cf53 rfl (fun ad => Nat.le_of_ble_eq_true rfl) [(0, .int a0), (1, .int a1)] (fun ad => rfl) ?_
  intro p l e s m args below meth c D ad tc A hC hA hr
  unfold f_jm_max_7cf53 at hF
  refine aw_run (pc' := 2) hC [(.iload_n 0, 1, 0, 0, .null), (.iload_n 1, 1, 0, 0, .null)] (by decide +kernel) [(0, .int a0), (1, .int a1)] [.int a1, .int a0] σ rfl rfl ⟨trivial, trivial, trivial⟩ rfl ?_
  refine aw_icmp_lt (off := 7) hC 9 (by decide +kernel) (by decide) (fun h => ?_) (fun h => ?_)
  · have hF := (if_pos h).symm.trans hF
    refine aw_run (pc' := 10) hC [(.iload_n 1, 1, 0, 0, .null)] (by decide +kernel) [(0, .int a0), (1, .int a1)] [.int a1] σ rfl rfl ⟨trivial, trivial⟩ rfl ?_
    exact aw_iret hC hr (by decide +kernel) hF rfl
  · have hF := (if_neg h).symm.trans hF
    refine aw_run (pc' := 6) hC [(.iload_n 0, 1, 0, 0, .null)] (by decide +kernel) [(0, .int a0), (1, .int a1)] [.int a0] σ rfl rfl ⟨trivial, trivial⟩ rfl ?_
    refine aw_goto (off := 4) hC 10 (by decide +kernel) (by decide) ?_
    exact aw_iret hC hr (by decide +kernel) hF rfl
def f_hu_longestSquare_c14_s (N : Nat) (kc4 : Int32 → Int32 → Sg → Option Int32) (kc14 : Int32 → Int32 → Int32 → Sg → Option Int32) (a1 : Int32) (a2 : Int32) (a3 : Int32) (σ : Sg) : Option Int32 := if a2 ≤ a3 then (kc4 a1 (a2 + 1) σ) else (if ib a2 16 then if ib a3 16 then kc14 (f_jm_max_7cf53 a1 (f_hu_square ((σ.1 15 a2.toNatClampNeg) - (σ.1 15 a3.toNatClampNeg)) ((σ.1 16 a2.toNatClampNeg) - (σ.1 16 a3.toNatClampNeg)))) a2 (a3 + 1) σ else none else none)
def f_hu_longestSquare_c14 (N : Nat) (kc4 : Int32 → Int32 → Sg → Option Int32) : Nat → Int32 → Int32 → Int32 → Sg → Option Int32
  | 0 => fun _ _ _ _ => none
  | n + 1 => f_hu_longestSquare_c14_s N kc4 (f_hu_longestSquare_c14 N kc4 n)
def f_hu_longestSquare_c4_s (N : Nat) (kc4 : Int32 → Int32 → Sg → Option Int32) (a1 : Int32) (a2 : Int32) (σ : Sg) : Option Int32 := if (σ.1 12 5) ≤ a2 then (some a1) else (f_hu_longestSquare_c14 N kc4 N a1 a2 0 σ)
def f_hu_longestSquare_c4 (N : Nat) : Nat → Int32 → Int32 → Sg → Option Int32
  | 0 => fun _ _ _ => none
  | n + 1 => f_hu_longestSquare_c4_s N (f_hu_longestSquare_c4 N n)
def f_hu_longestSquare (N : Nat) (σ : Sg) : Option Int32 := f_hu_longestSquare_c4 N N 0 0 σ
def rm_hu_longestSquare : Room := { frames := 1, cells := 0, slots := 0, locals := 21 }
set_option maxHeartbeats 4000000 in
set_option maxRecDepth 100000 in
theorem c_hu_longestSquare (N : Nat) (σ : Sg) (z : Int32) (hF : f_hu_longestSquare N σ = some z) : Ctr yX1_longestSquare cX1_longestSquare 4 (some .int) rm_hu_longestSquare [.ref 12] σ (some (.int z)) σ := by
  refine ct_start 1 (by decide) rfl (fun ad => Nat.le_of_ble_eq_true rfl) [(0, .ref 12)] (fun ad => rfl) ?_
  intro p l e s m args below meth c D ad tc A hC hA hr
  have Jc14 : ∀ (kc4 : Int32 → Int32 → Sg → Option Int32) (Hc4 : ∀ (a1 : Int32) (a2 : Int32), kc4 a1 a2 σ = some z → AW p l e rm_hu_longestSquare s m args below meth c D ad tc 4 A s.heap 0 0 (MQ below (Qr (some (.int z)) D ad tc σ A) args s 0 0 A) 4 [(0, .ref 12), (1, .int a1), (2, .int a2)] [] σ) (n : Nat) (a1 : Int32) (a2 : Int32) (a3 : Int32), f_hu_longestSquare_c14 N kc4 n a1 a2 a3 σ = some z → AW p l e rm_hu_longestSquare s m args below meth c D ad tc 4 A s.heap 0 0 (MQ below (Qr (some (.int z)) D ad tc σ A) args s 0 0 A) 14 [(0, .ref 12), (1, .int a1), (2, .int a2), (3, .int a3)] [] σ := by
    intro kc4 Hc4 n
    induction n with
    | zero =>
      intro a1 a2 a3 hF
      cases hF
    | succ n ih =>
      intro a1 a2 a3 hF
      have hF : f_hu_longestSquare_c14_s N kc4 (f_hu_longestSquare_c14 N kc4 n) a1 a2 a3 σ = some z := hF
      unfold f_hu_longestSquare_c14_s at hF
      refine aw_run (pc' := 16) hC [(.iload_n 3, 1, 0, 0, .null), (.iload_n 2, 1, 0, 0, .null)] (by decide +kernel) [(0, .ref 12), (1, .int a1), (2, .int a2), (3, .int a3)] [.int a2, .int a3] σ rfl rfl ⟨trivial, trivial, trivial⟩ rfl ?_
      refine aw_icmp_ge (off := 43) hC 59 (by decide +kernel) (by decide) (fun h => ?_) (fun h => ?_)
      · have hF := (if_pos h).symm.trans hF
        refine aw_run (pc' := 62) hC [(.iinc 2 1, 3, 0, 0, .int 1)] (by decide +kernel) [(0, .ref 12), (1, .int a1), (2, .int (a2 + 1)), (3, .int a3)] [] σ rfl rfl ⟨trivial, trivial⟩ rfl ?_
        refine aw_goto (off := -58) hC 4 (by decide +kernel) (by decide) ?_
        refine aw_pick [0, 1, 2] [(0, .ref 12), (1, .int a1), (2, .int (a2 + 1))] rfl ?_
        exact Hc4 a1 (a2 + 1) hF
      · have hF := (if_neg h).symm.trans hF
        obtain ⟨g1, hF⟩ := gd hF
        obtain ⟨g2, hF⟩ := gd hF
        refine aw_run (pc' := 46) hC [(.iload_n 1, 1, 0, 0, .null), (.aload_n 0, 1, 0, 0, .null), (.getfield 18, 3, 1, 3, .null), (.iload_n 2, 1, 0, 0, .null), (.iaload, 1, 0, 0, .null), (.aload_n 0, 1, 0, 0, .null), (.getfield 18, 3, 1, 3, .null), (.iload_n 3, 1, 0, 0, .null), (.iaload, 1, 0, 0, .null), (.isub, 1, 0, 0, .null), (.aload_n 0, 1, 0, 0, .null), (.getfield 21, 3, 1, 4, .null), (.iload_n 2, 1, 0, 0, .null), (.iaload, 1, 0, 0, .null), (.aload_n 0, 1, 0, 0, .null), (.getfield 21, 3, 1, 4, .null), (.iload_n 3, 1, 0, 0, .null), (.iaload, 1, 0, 0, .null), (.isub, 1, 0, 0, .null)] (by decide +kernel) [(0, .ref 12), (1, .int a1), (2, .int a2), (3, .int a3)] [.int ((σ.1 16 a2.toNatClampNeg) - (σ.1 16 a3.toNatClampNeg)), .int ((σ.1 15 a2.toNatClampNeg) - (σ.1 15 a3.toNatClampNeg)), .int a1] σ rfl rfl ⟨trivial, trivial, trivial, trivial, g1, trivial, trivial, trivial, g2, trivial, trivial, trivial, trivial, g1, trivial, trivial, trivial, g2, trivial, trivial⟩ rfl ?_
        refine aw_callS hC hA (rest := [.int a1]) (c_hu_square σ ((σ.1 15 a2.toNatClampNeg) - (σ.1 15 a3.toNatClampNeg)) ((σ.1 16 a2.toNatClampNeg) - (σ.1 16 a3.toNatClampNeg)) _ rfl) mt_X1_square ln_1_46 (by decide +kernel) rfl rfl (Nat.le_of_ble_eq_true rfl) ⟨⟨rfl, rfl⟩, Nat.le_of_ble_eq_true rfl, Nat.le_of_ble_eq_true rfl⟩ ⟨Nat.zero_le _, Nat.zero_le _⟩ rfl ?_
        refine aw_callS hC hA (rest := []) (c_jm_max_7cf53 σ a1 (f_hu_square ((σ.1 15 a2.toNatClampNeg) - (σ.1 15 a3.toNatClampNeg)) ((σ.1 16 a2.toNatClampNeg) - (σ.1 16 a3.toNatClampNeg))) _ rfl) mt_J9_max_7cf53 ln_1_50 (by decide +kernel) rfl rfl (Nat.le_of_ble_eq_true rfl) ⟨⟨rfl, rfl⟩, Nat.le_of_ble_eq_true rfl, Nat.le_of_ble_eq_true rfl⟩ ⟨Nat.zero_le _, Nat.zero_le _⟩ rfl ?_
        refine aw_run (pc' := 56) hC [(.istore_n 1, 1, 0, 0, .null), (.iinc 3 1, 3, 0, 0, .int 1)] (by decide +kernel) [(0, .ref 12), (1, .int (f_jm_max_7cf53 a1 (f_hu_square ((σ.1 15 a2.toNatClampNeg) - (σ.1 15 a3.toNatClampNeg)) ((σ.1 16 a2.toNatClampNeg) - (σ.1 16 a3.toNatClampNeg))))), (2, .int a2), (3, .int (a3 + 1))] [] σ rfl rfl ⟨trivial, trivial, trivial⟩ rfl ?_
        refine aw_goto (off := -42) hC 14 (by decide +kernel) (by decide) ?_
        exact ih (f_jm_max_7cf53 a1 (f_hu_square ((σ.1 15 a2.toNatClampNeg) - (σ.1 15 a3.toNatClampNeg)) ((σ.1 16 a2.toNatClampNeg) - (σ.1 16 a3.toNatClampNeg)))) a2 (a3 + 1) hF
  have Jc4 : ∀ (n : Nat) (a1 : Int32) (a2 : Int32), f_hu_longestSquare_c4 N n a1 a2 σ = some z → AW p l e rm_hu_longestSquare s m args below meth c D ad tc 4 A s.heap 0 0 (MQ below (Qr (some (.int z)) D ad tc σ A) args s 0 0 A) 4 [(0, .ref 12), (1, .int a1), (2, .int a2)] [] σ := by
    intro n
    induction n with
    | zero =>
      intro a1 a2 hF
      cases hF
    | succ n ih =>
      intro a1 a2 hF
      have hF : f_hu_longestSquare_c4_s N (f_hu_longestSquare_c4 N n) a1 a2 σ = some z := hF
      unfold f_hu_longestSquare_c4_s at hF
      refine aw_run (pc' := 9) hC [(.iload_n 2, 1, 0, 0, .null), (.aload_n 0, 1, 0, 0, .null), (.getfield 28, 3, 1, 5, .null)] (by decide +kernel) [(0, .ref 12), (1, .int a1), (2, .int a2)] [.int (σ.1 12 5), .int a2] σ rfl rfl ⟨trivial, trivial, trivial, trivial⟩ rfl ?_
      refine aw_icmp_ge (off := 56) hC 65 (by decide +kernel) (by decide) (fun h => ?_) (fun h => ?_)
      · have hF := (if_pos h).symm.trans hF
        refine aw_run (pc' := 66) hC [(.iload_n 1, 1, 0, 0, .null)] (by decide +kernel) [(0, .ref 12), (1, .int a1), (2, .int a2)] [.int a1] σ rfl rfl ⟨trivial, trivial⟩ rfl ?_
        exact aw_iret hC hr (by decide +kernel) (Option.some.inj hF) rfl
      · have hF := (if_neg h).symm.trans hF
        refine aw_run (pc' := 14) hC [(.iconst 0, 1, 0, 0, .int 0), (.istore_n 3, 1, 0, 0, .null)] (by decide +kernel) [(0, .ref 12), (1, .int a1), (2, .int a2), (3, .int 0)] [] σ rfl rfl ⟨trivial, trivial, trivial⟩ rfl ?_
        exact Jc14 (f_hu_longestSquare_c4 N n) ih N a1 a2 0 hF
  unfold f_hu_longestSquare at hF
  refine aw_run (pc' := 4) hC [(.iconst 0, 1, 0, 0, .int 0), (.istore_n 1, 1, 0, 0, .null), (.iconst 0, 1, 0, 0, .int 0), (.istore_n 2, 1, 0, 0, .null)] (by decide +kernel) [(0, .ref 12), (1, .int 0), (2, .int 0)] [] σ rfl rfl ⟨trivial, trivial, trivial, trivial, trivial⟩ rfl ?_
  exact Jc4 N 0 0 hF
