def f_mo_within (a0 : Int64) (a2 : Int64) (a4 : Int64) : Int32 := if a0 < a2 then 0 else (if a4 < a0 then 0 else 1)
def rm_mo_within : Room := { frames := 0, cells := 0, slots := 0, locals := 0 }
set_option maxHeartbeats 4000000 in
set_option maxRecDepth 100000 in
theorem c_mo_within (σ : Sg) (a0 : Int64) (a2 : Int64) (a4 : Int64) (z : Int32) (hF : f_mo_within a0 a2 a4 = z) : Ctr yX7_within cX7_within 6 (some .boolean) rm_mo_within [.long a0, .long a2, .long a4] σ (some (.int z)) σ := by
  refine ct_start 7 (by decide) rfl (fun ad => Nat.le_of_ble_eq_true rfl) [(0, .long a0), (2, .long a2), (4, .long a4)] (fun ad => rfl) ?_
  intro p l e s m args below meth c D ad tc A hC hA hr
  unfold f_mo_within at hF
  refine aw_run (pc' := 3) hC [(.lload_n 0, 1, 0, 0, .null), (.lload_n 2, 1, 0, 0, .null), (.lcmp, 1, 0, 0, .null)] (by decide +kernel) [(0, .long a0), (2, .long a2), (4, .long a4)] [.int (lg_cmp a0 a2)] σ rfl rfl ⟨trivial, trivial, trivial, trivial⟩ rfl ?_
  refine aw_if_lt (off := 14) hC 17 (lc_lt _ _) (by decide +kernel) (by decide) (fun h => ?_) (fun h => ?_)
  · have hF := (if_pos h).symm.trans hF
    refine aw_run (pc' := 18) hC [(.iconst 0, 1, 0, 0, .int 0)] (by decide +kernel) [(0, .long a0), (2, .long a2), (4, .long a4)] [.int 0] σ rfl rfl ⟨trivial, trivial⟩ rfl ?_
    exact aw_zret hC hr (Or.inl rfl) (by decide +kernel) hF rfl
  · have hF := (if_neg h).symm.trans hF
    refine aw_run (pc' := 10) hC [(.lload_n 0, 1, 0, 0, .null), (.lload 4, 2, 0, 0, .null), (.lcmp, 1, 0, 0, .null)] (by decide +kernel) [(0, .long a0), (2, .long a2), (4, .long a4)] [.int (lg_cmp a0 a4)] σ rfl rfl ⟨trivial, trivial, trivial, trivial⟩ rfl ?_
    refine aw_if_gt (off := 7) hC 17 (lc_gt _ _) (by decide +kernel) (by decide) (fun h => ?_) (fun h => ?_)
    · have hF := (if_pos h).symm.trans hF
      refine aw_run (pc' := 18) hC [(.iconst 0, 1, 0, 0, .int 0)] (by decide +kernel) [(0, .long a0), (2, .long a2), (4, .long a4)] [.int 0] σ rfl rfl ⟨trivial, trivial⟩ rfl ?_
      exact aw_zret hC hr (Or.inl rfl) (by decide +kernel) hF rfl
    · have hF := (if_neg h).symm.trans hF
      refine aw_run (pc' := 14) hC [(.iconst 1, 1, 0, 0, .int 1)] (by decide +kernel) [(0, .long a0), (2, .long a2), (4, .long a4)] [.int 1] σ rfl rfl ⟨trivial, trivial⟩ rfl ?_
      refine aw_goto (off := 4) hC 18 (by decide +kernel) (by decide) ?_
      exact aw_zret hC hr (Or.inr rfl) (by decide +kernel) hF rfl
def f_mo_letter (σ : Sg) (a1 : Int32) : Option (Int32 × Sg) := if (f_mo_within a1.toInt64 32 126) = 0 then (some (-100000003, σ)) else (if (σ.1 20 0) = 24 then (some (-100000005, σ)) else (if ib (σ.1 20 0) 24 then nm (uI σ 21 (σ.1 20 0).toNatClampNeg a1) fun σ2 => nm (uI σ2 20 0 ((σ2.1 20 0) + 1)) fun σ3 => some (σ3.1 20 0, σ3) else none))
def rm_mo_letter : Room := { frames := 1, cells := 0, slots := 0, locals := 25 }
set_option maxHeartbeats 4000000 in
set_option maxRecDepth 100000 in
theorem c_mo_letter (σ : Sg) (a1 : Int32) (z : Int32 × Sg) (hF : f_mo_letter σ a1 = some z) : Ctr yX7_letter cX7_letter 2 (some .int) rm_mo_letter [.ref 20, .int a1] σ (some (.int z.1)) z.2 := by
  refine ct_start 7 (by decide) rfl (fun ad => Nat.le_of_ble_eq_true rfl) [(0, .ref 20), (1, .int a1)] (fun ad => rfl) ?_
  intro p l e s m args below meth c D ad tc A hC hA hr
  unfold f_mo_letter at hF
  refine aw_run (pc' := 8) hC [(.iload_n 1, 1, 0, 0, .null), (.i2l, 1, 0, 0, .null), (.ldc2_w 46, 3, 0, 0, .long 32), (.ldc2_w 48, 3, 0, 0, .long 126)] (by decide +kernel) [(0, .ref 20), (1, .int a1)] [.long 126, .long 32, .long a1.toInt64] σ rfl rfl ⟨trivial, trivial, trivial, trivial, trivial⟩ rfl ?_
  refine aw_callS hC hA (rest := []) (c_mo_within σ a1.toInt64 32 126 _ rfl) mt_X7_within ln_7_50 (by decide +kernel) rfl rfl (Nat.le_of_ble_eq_true rfl) ⟨⟨rfl, rfl⟩, Nat.le_of_ble_eq_true rfl, Nat.le_of_ble_eq_true rfl⟩ ⟨Nat.zero_le _, Nat.zero_le _⟩ rfl ?_
  refine aw_if_ne (off := 6) hC 17 Iff.rfl (by decide +kernel) (by decide) (fun h => ?_) (fun h => ?_)
  · have hF := (if_neg h).symm.trans hF
    refine aw_run (pc' := 23) hC [(.aload_n 0, 1, 0, 0, .null), (.getfield 55, 3, 7, 0, .null), (.bipush 24, 2, 0, 0, .int 24)] (by decide +kernel) [(0, .ref 20), (1, .int a1)] [.int 24, .int (σ.1 20 0)] σ rfl rfl ⟨trivial, trivial, trivial, trivial⟩ rfl ?_
    refine aw_icmp_ne (off := 6) hC 29 (by decide +kernel) (by decide) (fun h => ?_) (fun h => ?_)
    · have hF := (if_neg h).symm.trans hF
      obtain ⟨g1, hF⟩ := gd hF
      obtain ⟨σ2, hσ2, hF⟩ := nmd hF
      refine aw_run (pc' := 39) hC [(.aload_n 0, 1, 0, 0, .null), (.getfield 7, 3, 7, 1, .null), (.aload_n 0, 1, 0, 0, .null), (.getfield 55, 3, 7, 0, .null), (.iload_n 1, 1, 0, 0, .null), (.iastore, 1, 0, 0, .null)] (by decide +kernel) [(0, .ref 20), (1, .int a1)] [] (uI σ 21 (σ.1 20 0).toNatClampNeg a1) rfl rfl ⟨trivial, trivial, trivial, trivial, trivial, g1, trivial⟩ hσ2 ?_
      obtain ⟨σ3, hσ3, hF⟩ := nmd hF
      refine aw_run (pc' := 49) hC [(.aload_n 0, 1, 0, 0, .null), (.dup, 1, 0, 0, .null), (.getfield 55, 3, 7, 0, .null), (.iconst 1, 1, 0, 0, .int 1), (.iadd, 1, 0, 0, .null), (.putfield 55, 3, 7, 0, .null)] (by decide +kernel) [(0, .ref 20), (1, .int a1)] [] (uI σ2 20 0 ((σ2.1 20 0) + 1)) rfl rfl ⟨trivial, trivial, trivial, trivial, trivial, trivial, trivial⟩ hσ3 ?_
      refine aw_run (pc' := 53) hC [(.aload_n 0, 1, 0, 0, .null), (.getfield 55, 3, 7, 0, .null)] (by decide +kernel) [(0, .ref 20), (1, .int a1)] [.int (σ3.1 20 0)] σ3 rfl rfl ⟨trivial, trivial, trivial⟩ rfl ?_
      exact aw_iret hC hr (by decide +kernel) (pS1 hF) (pS2 hF)
    · have hF := (if_pos h).symm.trans hF
      refine aw_run (pc' := 28) hC [(.ldc 58, 2, 0, 0, .int (-100000005))] (by decide +kernel) [(0, .ref 20), (1, .int a1)] [.int (-100000005)] σ rfl rfl ⟨trivial, trivial⟩ rfl ?_
      exact aw_iret hC hr (by decide +kernel) (pS1 hF) (pS2 hF)
  · have hF := (if_pos h).symm.trans hF
    refine aw_run (pc' := 16) hC [(.ldc 54, 2, 0, 0, .int (-100000003))] (by decide +kernel) [(0, .ref 20), (1, .int a1)] [.int (-100000003)] σ rfl rfl ⟨trivial, trivial⟩ rfl ?_
    exact aw_iret hC hr (by decide +kernel) (pS1 hF) (pS2 hF)
def f_mo_blank (σ : Sg) : Int32 × Sg := nm (uI σ 20 0 0) fun σ1 => (σ.1 20 0, σ1)
def rm_mo_blank : Room := { frames := 0, cells := 0, slots := 0, locals := 0 }
set_option maxHeartbeats 4000000 in
set_option maxRecDepth 100000 in
theorem c_mo_blank (σ : Sg) (z : Int32 × Sg) (hF : f_mo_blank σ = z) : Ctr yX7_blank cX7_blank 2 (some .int) rm_mo_blank [.ref 20] σ (some (.int z.1)) z.2 := by
  refine ct_start 7 (by decide) rfl (fun ad => Nat.le_of_ble_eq_true rfl) [(0, .ref 20)] (fun ad => rfl) ?_
  intro p l e s m args below meth c D ad tc A hC hA hr
  unfold f_mo_blank at hF
  obtain ⟨σ1, hσ1, hF⟩ := nmd hF
  refine aw_run (pc' := 10) hC [(.aload_n 0, 1, 0, 0, .null), (.getfield 55, 3, 7, 0, .null), (.istore_n 1, 1, 0, 0, .null), (.aload_n 0, 1, 0, 0, .null), (.iconst 0, 1, 0, 0, .int 0), (.putfield 55, 3, 7, 0, .null)] (by decide +kernel) [(0, .ref 20), (1, .int (σ.1 20 0))] [] (uI σ 20 0 0) rfl rfl ⟨trivial, trivial, trivial, trivial, trivial, trivial, trivial⟩ hσ1 ?_
  refine aw_run (pc' := 11) hC [(.iload_n 1, 1, 0, 0, .null)] (by decide +kernel) [(0, .ref 20), (1, .int (σ.1 20 0))] [.int (σ.1 20 0)] σ1 rfl rfl ⟨trivial, trivial⟩ rfl ?_
  exact aw_iret hC hr (by decide +kernel) (pT1 hF) (pT2 hF)
def f_mo_goesTo_c37 (a1 : Int32) (t1 : Int32) (t2 : Int32) (σ : Sg) : Option (Int32 × Sg) := if ib t1 4 then nm (uI σ 27 t1.toNatClampNeg t2) fun σ3 => nm (uI σ3 20 11 a1) fun σ4 => if ib a1 4 then nm (uI σ4 27 a1.toNatClampNeg 0) fun σ6 => nm (uI σ6 20 13 0) fun σ7 => nm (uI σ7 20 14 0) fun σ8 => some (1, σ8) else none else none
def f_mo_goesTo (σ : Sg) (a1 : Int32) : Option (Int32 × Sg) := if (σ.1 20 14) = 0 then (if ib (σ.1 20 11) 4 then f_mo_goesTo_c37 a1 (σ.1 20 11) (σ.1 27 (σ.1 20 11).toNatClampNeg) σ else none) else (if ib (σ.1 20 11) 4 then f_mo_goesTo_c37 a1 (σ.1 20 11) (-(σ.1 27 (σ.1 20 11).toNatClampNeg)) σ else none)
def rm_mo_goesTo : Room := { frames := 0, cells := 0, slots := 0, locals := 0 }
set_option maxHeartbeats 4000000 in
set_option maxRecDepth 100000 in
theorem c_mo_goesTo (σ : Sg) (a1 : Int32) (z : Int32 × Sg) (hF : f_mo_goesTo σ a1 = some z) : Ctr yX7_goesTo cX7_goesTo 2 (some .boolean) rm_mo_goesTo [.ref 20, .int a1] σ (some (.int z.1)) z.2 := by
  refine ct_start 7 (by decide) rfl (fun ad => Nat.le_of_ble_eq_true rfl) [(0, .ref 20), (1, .int a1)] (fun ad => rfl) ?_
  intro p l e s m args below meth c D ad tc A hC hA hr
  have Jc37 : ∀ (a1 : Int32) (t1 : Int32) (t2 : Int32) (σ : Sg), f_mo_goesTo_c37 a1 t1 t2 σ = some z → AW p l e rm_mo_goesTo s m args below meth c D ad tc 2 A s.heap 0 0 (MQ below (Qr (some (.int z.1)) D ad tc z.2 A) args s 0 0 A) 37 [(0, .ref 20), (1, .int a1)] [.int t2, .int t1, .ref 27] σ := by
    intro a1 t1 t2 σ hF
    unfold f_mo_goesTo_c37 at hF
    obtain ⟨g2, hF⟩ := gd hF
    obtain ⟨σ3, hσ3, hF⟩ := nmd hF
    refine aw_run (pc' := 38) hC [(.iastore, 1, 0, 0, .null)] (by decide +kernel) [(0, .ref 20), (1, .int a1)] [] (uI σ 27 t1.toNatClampNeg t2) rfl rfl ⟨g2, trivial⟩ hσ3 ?_
    obtain ⟨σ4, hσ4, hF⟩ := nmd hF
    refine aw_run (pc' := 43) hC [(.aload_n 0, 1, 0, 0, .null), (.iload_n 1, 1, 0, 0, .null), (.putfield 59, 3, 7, 11, .null)] (by decide +kernel) [(0, .ref 20), (1, .int a1)] [] (uI σ3 20 11 a1) rfl rfl ⟨trivial, trivial, trivial, trivial⟩ hσ4 ?_
    obtain ⟨g5, hF⟩ := gd hF
    obtain ⟨σ6, hσ6, hF⟩ := nmd hF
    refine aw_run (pc' := 50) hC [(.aload_n 0, 1, 0, 0, .null), (.getfield 33, 3, 7, 12, .null), (.iload_n 1, 1, 0, 0, .null), (.iconst 0, 1, 0, 0, .int 0), (.iastore, 1, 0, 0, .null)] (by decide +kernel) [(0, .ref 20), (1, .int a1)] [] (uI σ4 27 a1.toNatClampNeg 0) rfl rfl ⟨trivial, trivial, trivial, trivial, g5, trivial⟩ hσ6 ?_
    obtain ⟨σ7, hσ7, hF⟩ := nmd hF
    refine aw_run (pc' := 55) hC [(.aload_n 0, 1, 0, 0, .null), (.iconst 0, 1, 0, 0, .int 0), (.putfield 62, 3, 7, 13, .null)] (by decide +kernel) [(0, .ref 20), (1, .int a1)] [] (uI σ6 20 13 0) rfl rfl ⟨trivial, trivial, trivial, trivial⟩ hσ7 ?_
    obtain ⟨σ8, hσ8, hF⟩ := nmd hF
    refine aw_run (pc' := 60) hC [(.aload_n 0, 1, 0, 0, .null), (.iconst 0, 1, 0, 0, .int 0), (.putfield 65, 3, 7, 14, .null)] (by decide +kernel) [(0, .ref 20), (1, .int a1)] [] (uI σ7 20 14 0) rfl rfl ⟨trivial, trivial, (Or.inl rfl), trivial⟩ hσ8 ?_
    refine aw_run (pc' := 61) hC [(.iconst 1, 1, 0, 0, .int 1)] (by decide +kernel) [(0, .ref 20), (1, .int a1)] [.int 1] σ8 rfl rfl ⟨trivial, trivial⟩ rfl ?_
    exact aw_zret hC hr (Or.inr rfl) (by decide +kernel) (pS1 hF) (pS2 hF)
  unfold f_mo_goesTo at hF
  refine aw_run (pc' := 12) hC [(.aload_n 0, 1, 0, 0, .null), (.getfield 33, 3, 7, 12, .null), (.aload_n 0, 1, 0, 0, .null), (.getfield 59, 3, 7, 11, .null), (.aload_n 0, 1, 0, 0, .null), (.getfield 65, 3, 7, 14, .null)] (by decide +kernel) [(0, .ref 20), (1, .int a1)] [.int (σ.1 20 14), .int (σ.1 20 11), .ref 27] σ rfl rfl ⟨trivial, trivial, trivial, trivial, trivial, trivial, trivial⟩ rfl ?_
  refine aw_if_eq (off := 16) hC 28 Iff.rfl (by decide +kernel) (by decide) (fun h => ?_) (fun h => ?_)
  · have hF := (if_pos h).symm.trans hF
    obtain ⟨g1, hF⟩ := gd hF
    refine aw_run (pc' := 37) hC [(.aload_n 0, 1, 0, 0, .null), (.getfield 33, 3, 7, 12, .null), (.aload_n 0, 1, 0, 0, .null), (.getfield 59, 3, 7, 11, .null), (.iaload, 1, 0, 0, .null)] (by decide +kernel) [(0, .ref 20), (1, .int a1)] [.int (σ.1 27 (σ.1 20 11).toNatClampNeg), .int (σ.1 20 11), .ref 27] σ rfl rfl ⟨trivial, trivial, trivial, trivial, g1, trivial⟩ rfl ?_
    exact Jc37 a1 (σ.1 20 11) (σ.1 27 (σ.1 20 11).toNatClampNeg) σ hF
  · have hF := (if_neg h).symm.trans hF
    obtain ⟨g9, hF⟩ := gd hF
    refine aw_run (pc' := 25) hC [(.aload_n 0, 1, 0, 0, .null), (.getfield 33, 3, 7, 12, .null), (.aload_n 0, 1, 0, 0, .null), (.getfield 59, 3, 7, 11, .null), (.iaload, 1, 0, 0, .null), (.ineg, 1, 0, 0, .null)] (by decide +kernel) [(0, .ref 20), (1, .int a1)] [.int (-(σ.1 27 (σ.1 20 11).toNatClampNeg)), .int (σ.1 20 11), .ref 27] σ rfl rfl ⟨trivial, trivial, trivial, trivial, g9, trivial, trivial⟩ rfl ?_
    refine aw_goto (off := 12) hC 37 (by decide +kernel) (by decide) ?_
    exact Jc37 a1 (σ.1 20 11) (-(σ.1 27 (σ.1 20 11).toNatClampNeg)) σ hF
def f_mo_mostOf (σ : Sg) : Int32 := if (σ.1 20 11) = 0 then 200 else (if (σ.1 20 11) = 3 then 20 else 500)
def rm_mo_mostOf : Room := { frames := 0, cells := 0, slots := 0, locals := 0 }
set_option maxHeartbeats 4000000 in
set_option maxRecDepth 100000 in
theorem c_mo_mostOf (σ : Sg) (z : Int32) (hF : f_mo_mostOf σ = z) : Ctr yX7_mostOf cX7_mostOf 1 (some .int) rm_mo_mostOf [.ref 20] σ (some (.int z)) σ := by
  refine ct_start 7 (by decide) rfl (fun ad => Nat.le_of_ble_eq_true rfl) [(0, .ref 20)] (fun ad => rfl) ?_
  intro p l e s m args below meth c D ad tc A hC hA hr
  unfold f_mo_mostOf at hF
  refine aw_run (pc' := 4) hC [(.aload_n 0, 1, 0, 0, .null), (.getfield 59, 3, 7, 11, .null)] (by decide +kernel) [(0, .ref 20)] [.int (σ.1 20 11)] σ rfl rfl ⟨trivial, trivial, trivial⟩ rfl ?_
  refine aw_if_ne (off := 9) hC 13 Iff.rfl (by decide +kernel) (by decide) (fun h => ?_) (fun h => ?_)
  · have hF := (if_neg h).symm.trans hF
    refine aw_run (pc' := 18) hC [(.aload_n 0, 1, 0, 0, .null), (.getfield 59, 3, 7, 11, .null), (.iconst 3, 1, 0, 0, .int 3)] (by decide +kernel) [(0, .ref 20)] [.int 3, .int (σ.1 20 11)] σ rfl rfl ⟨trivial, trivial, trivial, trivial⟩ rfl ?_
    refine aw_icmp_ne (off := 8) hC 26 (by decide +kernel) (by decide) (fun h => ?_) (fun h => ?_)
    · have hF := (if_neg h).symm.trans hF
      refine aw_run (pc' := 29) hC [(.sipush 500, 3, 0, 0, .int 500)] (by decide +kernel) [(0, .ref 20)] [.int 500] σ rfl rfl ⟨trivial, trivial⟩ rfl ?_
      exact aw_iret hC hr (by decide +kernel) hF rfl
    · have hF := (if_pos h).symm.trans hF
      refine aw_run (pc' := 23) hC [(.bipush 20, 2, 0, 0, .int 20)] (by decide +kernel) [(0, .ref 20)] [.int 20] σ rfl rfl ⟨trivial, trivial⟩ rfl ?_
      refine aw_goto (off := 6) hC 29 (by decide +kernel) (by decide) ?_
      exact aw_iret hC hr (by decide +kernel) hF rfl
  · have hF := (if_pos h).symm.trans hF
    refine aw_run (pc' := 10) hC [(.sipush 200, 3, 0, 0, .int 200)] (by decide +kernel) [(0, .ref 20)] [.int 200] σ rfl rfl ⟨trivial, trivial⟩ rfl ?_
    refine aw_goto (off := 19) hC 29 (by decide +kernel) (by decide) ?_
    exact aw_iret hC hr (by decide +kernel) hF rfl
def f_mo_takesFigure_c82 (a1 : Int32) (t0 : Int32) (σ : Sg) : Option (Int32 × Sg) := if t0 = 0 then (if t0 = 0 ∨ t0 = 1 then some (t0, σ) else none) else (if ib (σ.1 20 11) 4 then nm (uI σ 27 (σ.1 20 11).toNatClampNeg ((10 * (σ.1 27 (σ.1 20 11).toNatClampNeg)) + a1)) fun σ4 => nm (uI σ4 20 13 ((σ4.1 20 13) + 1)) fun σ5 => if t0 = 0 ∨ t0 = 1 then some (t0, σ5) else none else none)
def f_mo_takesFigure_c81 (a1 : Int32) (σ : Sg) : Option (Int32 × Sg) := f_mo_takesFigure_c82 a1 0 σ
def f_mo_takesFigure_c51 (a1 : Int32) (t0 : Int32) (σ : Sg) : Option (Int32 × Sg) := if t0 = 0 then (f_mo_takesFigure_c81 a1 σ) else (if ib (σ.1 20 11) 4 then if (f_mo_mostOf σ) < ((10 * (σ.1 27 (σ.1 20 11).toNatClampNeg)) + a1) then (f_mo_takesFigure_c81 a1 σ) else (f_mo_takesFigure_c82 a1 1 σ) else none)
def f_mo_takesFigure_c26 (a1 : Int32) (σ : Sg) : Option (Int32 × Sg) := f_mo_takesFigure_c51 a1 1 σ
def f_mo_takesFigure_c30 (a1 : Int32) (σ : Sg) : Option (Int32 × Sg) := f_mo_takesFigure_c51 a1 0 σ
def f_mo_takesFigure (σ : Sg) (a1 : Int32) : Option (Int32 × Sg) := if (σ.1 20 13) = 0 then (if 0 < a1 then (f_mo_takesFigure_c26 a1 σ) else (if (σ.1 20 14) = 0 then (if (3 : Int32) ≤ (σ.1 20 11) then (f_mo_takesFigure_c30 a1 σ) else (f_mo_takesFigure_c26 a1 σ)) else (f_mo_takesFigure_c30 a1 σ))) else (if ib (σ.1 20 11) 4 then if (σ.1 27 (σ.1 20 11).toNatClampNeg) ≤ 0 then (f_mo_takesFigure_c51 a1 0 σ) else (f_mo_takesFigure_c51 a1 1 σ) else none)
def rm_mo_takesFigure : Room := { frames := 1, cells := 0, slots := 0, locals := 20 }
set_option maxHeartbeats 4000000 in
set_option maxRecDepth 100000 in
theorem c_mo_takesFigure (σ : Sg) (a1 : Int32) (z : Int32 × Sg) (hF : f_mo_takesFigure σ a1 = some z) : Ctr yX7_takesFigure cX7_takesFigure 4 (some .boolean) rm_mo_takesFigure [.ref 20, .int a1] σ (some (.int z.1)) z.2 := by
  refine ct_start 7 (by decide) rfl (fun ad => Nat.le_of_ble_eq_true rfl) [(0, .ref 20), (1, .int a1)] (fun ad => rfl) ?_
  intro p l e s m args below meth c D ad tc A hC hA hr
  have Jc82 : ∀ (a1 : Int32) (t0 : Int32) (σ : Sg), f_mo_takesFigure_c82 a1 t0 σ = some z → AW p l e rm_mo_takesFigure s m args below meth c D ad tc 4 A s.heap 0 0 (MQ below (Qr (some (.int z.1)) D ad tc z.2 A) args s 0 0 A) 82 [(0, .ref 20), (1, .int a1)] [.int t0] σ := by
    intro a1 t0 σ hF
    unfold f_mo_takesFigure_c82 at hF
    refine aw_run (pc' := 84) hC [(.istore_n 3, 1, 0, 0, .null), (.iload_n 3, 1, 0, 0, .null)] (by decide +kernel) [(0, .ref 20), (1, .int a1), (3, .int t0)] [.int t0] σ rfl rfl ⟨trivial, trivial, trivial⟩ rfl ?_
    refine aw_if_eq (off := 36) hC 120 Iff.rfl (by decide +kernel) (by decide) (fun h => ?_) (fun h => ?_)
    · have hF := (if_pos h).symm.trans hF
      refine aw_run (pc' := 121) hC [(.iload_n 3, 1, 0, 0, .null)] (by decide +kernel) [(0, .ref 20), (1, .int a1), (3, .int t0)] [.int t0] σ rfl rfl ⟨trivial, trivial⟩ rfl ?_
      obtain ⟨g2, hF⟩ := gd hF
      exact aw_zret hC hr g2 (by decide +kernel) (pS1 hF) (pS2 hF)
    · have hF := (if_neg h).symm.trans hF
      obtain ⟨g3, hF⟩ := gd hF
      obtain ⟨σ4, hσ4, hF⟩ := nmd hF
      refine aw_run (pc' := 110) hC [(.aload_n 0, 1, 0, 0, .null), (.getfield 33, 3, 7, 12, .null), (.aload_n 0, 1, 0, 0, .null), (.getfield 59, 3, 7, 11, .null), (.bipush 10, 2, 0, 0, .int 10), (.aload_n 0, 1, 0, 0, .null), (.getfield 33, 3, 7, 12, .null), (.aload_n 0, 1, 0, 0, .null), (.getfield 59, 3, 7, 11, .null), (.iaload, 1, 0, 0, .null), (.imul, 1, 0, 0, .null), (.iload_n 1, 1, 0, 0, .null), (.iadd, 1, 0, 0, .null), (.iastore, 1, 0, 0, .null)] (by decide +kernel) [(0, .ref 20), (1, .int a1), (3, .int t0)] [] (uI σ 27 (σ.1 20 11).toNatClampNeg ((10 * (σ.1 27 (σ.1 20 11).toNatClampNeg)) + a1)) rfl rfl ⟨trivial, trivial, trivial, trivial, trivial, trivial, trivial, trivial, trivial, g3, trivial, trivial, trivial, g3, trivial⟩ hσ4 ?_
      obtain ⟨σ5, hσ5, hF⟩ := nmd hF
      refine aw_run (pc' := 120) hC [(.aload_n 0, 1, 0, 0, .null), (.dup, 1, 0, 0, .null), (.getfield 62, 3, 7, 13, .null), (.iconst 1, 1, 0, 0, .int 1), (.iadd, 1, 0, 0, .null), (.putfield 62, 3, 7, 13, .null)] (by decide +kernel) [(0, .ref 20), (1, .int a1), (3, .int t0)] [] (uI σ4 20 13 ((σ4.1 20 13) + 1)) rfl rfl ⟨trivial, trivial, trivial, trivial, trivial, trivial, trivial⟩ hσ5 ?_
      refine aw_run (pc' := 121) hC [(.iload_n 3, 1, 0, 0, .null)] (by decide +kernel) [(0, .ref 20), (1, .int a1), (3, .int t0)] [.int t0] σ5 rfl rfl ⟨trivial, trivial⟩ rfl ?_
      obtain ⟨g6, hF⟩ := gd hF
      exact aw_zret hC hr g6 (by decide +kernel) (pS1 hF) (pS2 hF)
  have Jc81 : ∀ (a1 : Int32) (σ : Sg), f_mo_takesFigure_c81 a1 σ = some z → AW p l e rm_mo_takesFigure s m args below meth c D ad tc 4 A s.heap 0 0 (MQ below (Qr (some (.int z.1)) D ad tc z.2 A) args s 0 0 A) 81 [(0, .ref 20), (1, .int a1)] [] σ := by
    intro a1 σ hF
    unfold f_mo_takesFigure_c81 at hF
    refine aw_run (pc' := 82) hC [(.iconst 0, 1, 0, 0, .int 0)] (by decide +kernel) [(0, .ref 20), (1, .int a1)] [.int 0] σ rfl rfl ⟨trivial, trivial⟩ rfl ?_
    exact Jc82 a1 0 σ hF
  have Jc51 : ∀ (a1 : Int32) (t0 : Int32) (σ : Sg), f_mo_takesFigure_c51 a1 t0 σ = some z → AW p l e rm_mo_takesFigure s m args below meth c D ad tc 4 A s.heap 0 0 (MQ below (Qr (some (.int z.1)) D ad tc z.2 A) args s 0 0 A) 51 [(0, .ref 20), (1, .int a1)] [.int t0] σ := by
    intro a1 t0 σ hF
    unfold f_mo_takesFigure_c51 at hF
    refine aw_run (pc' := 53) hC [(.istore_n 2, 1, 0, 0, .null), (.iload_n 2, 1, 0, 0, .null)] (by decide +kernel) [(0, .ref 20), (1, .int a1), (2, .int t0)] [.int t0] σ rfl rfl ⟨trivial, trivial, trivial⟩ rfl ?_
    refine aw_if_eq (off := 28) hC 81 Iff.rfl (by decide +kernel) (by decide) (fun h => ?_) (fun h => ?_)
    · have hF := (if_pos h).symm.trans hF
      refine aw_pick [0, 1] [(0, .ref 20), (1, .int a1)] rfl ?_
      exact Jc81 a1 σ hF
    · have hF := (if_neg h).symm.trans hF
      obtain ⟨g7, hF⟩ := gd hF
      refine aw_run (pc' := 71) hC [(.bipush 10, 2, 0, 0, .int 10), (.aload_n 0, 1, 0, 0, .null), (.getfield 33, 3, 7, 12, .null), (.aload_n 0, 1, 0, 0, .null), (.getfield 59, 3, 7, 11, .null), (.iaload, 1, 0, 0, .null), (.imul, 1, 0, 0, .null), (.iload_n 1, 1, 0, 0, .null), (.iadd, 1, 0, 0, .null), (.aload_n 0, 1, 0, 0, .null)] (by decide +kernel) [(0, .ref 20), (1, .int a1), (2, .int t0)] [.ref 20, .int ((10 * (σ.1 27 (σ.1 20 11).toNatClampNeg)) + a1)] σ rfl rfl ⟨trivial, trivial, trivial, trivial, trivial, g7, trivial, trivial, trivial, trivial, trivial⟩ rfl ?_
      refine aw_callV hC hA (rest := [.int ((10 * (σ.1 27 (σ.1 20 11).toNatClampNeg)) + a1)]) (c_mo_mostOf σ _ rfl) mt_X7_mostOf ln_7_69 (by decide +kernel) ⟨_, rfl⟩ rfl rfl (Nat.le_of_ble_eq_true rfl) ⟨⟨rfl, rfl⟩, Nat.le_of_ble_eq_true rfl, Nat.le_of_ble_eq_true rfl⟩ ⟨Nat.zero_le _, Nat.zero_le _⟩ rfl ?_
      refine aw_icmp_gt (off := 7) hC 81 (by decide +kernel) (by decide) (fun h => ?_) (fun h => ?_)
      · have hF := (if_pos h).symm.trans hF
        refine aw_pick [0, 1] [(0, .ref 20), (1, .int a1)] rfl ?_
        exact Jc81 a1 σ hF
      · have hF := (if_neg h).symm.trans hF
        refine aw_run (pc' := 78) hC [(.iconst 1, 1, 0, 0, .int 1)] (by decide +kernel) [(0, .ref 20), (1, .int a1), (2, .int t0)] [.int 1] σ rfl rfl ⟨trivial, trivial⟩ rfl ?_
        refine aw_goto (off := 4) hC 82 (by decide +kernel) (by decide) ?_
        refine aw_pick [0, 1] [(0, .ref 20), (1, .int a1)] rfl ?_
        exact Jc82 a1 1 σ hF
  have Jc26 : ∀ (a1 : Int32) (σ : Sg), f_mo_takesFigure_c26 a1 σ = some z → AW p l e rm_mo_takesFigure s m args below meth c D ad tc 4 A s.heap 0 0 (MQ below (Qr (some (.int z.1)) D ad tc z.2 A) args s 0 0 A) 26 [(0, .ref 20), (1, .int a1)] [] σ := by
    intro a1 σ hF
    unfold f_mo_takesFigure_c26 at hF
    refine aw_run (pc' := 27) hC [(.iconst 1, 1, 0, 0, .int 1)] (by decide +kernel) [(0, .ref 20), (1, .int a1)] [.int 1] σ rfl rfl ⟨trivial, trivial⟩ rfl ?_
    refine aw_goto (off := 24) hC 51 (by decide +kernel) (by decide) ?_
    exact Jc51 a1 1 σ hF
  have Jc30 : ∀ (a1 : Int32) (σ : Sg), f_mo_takesFigure_c30 a1 σ = some z → AW p l e rm_mo_takesFigure s m args below meth c D ad tc 4 A s.heap 0 0 (MQ below (Qr (some (.int z.1)) D ad tc z.2 A) args s 0 0 A) 30 [(0, .ref 20), (1, .int a1)] [] σ := by
    intro a1 σ hF
    unfold f_mo_takesFigure_c30 at hF
    refine aw_run (pc' := 31) hC [(.iconst 0, 1, 0, 0, .int 0)] (by decide +kernel) [(0, .ref 20), (1, .int a1)] [.int 0] σ rfl rfl ⟨trivial, trivial⟩ rfl ?_
    refine aw_goto (off := 20) hC 51 (by decide +kernel) (by decide) ?_
    exact Jc51 a1 0 σ hF
  unfold f_mo_takesFigure at hF
  refine aw_run (pc' := 4) hC [(.aload_n 0, 1, 0, 0, .null), (.getfield 62, 3, 7, 13, .null)] (by decide +kernel) [(0, .ref 20), (1, .int a1)] [.int (σ.1 20 13)] σ rfl rfl ⟨trivial, trivial, trivial⟩ rfl ?_
  refine aw_if_ne (off := 30) hC 34 Iff.rfl (by decide +kernel) (by decide) (fun h => ?_) (fun h => ?_)
  · have hF := (if_neg h).symm.trans hF
    obtain ⟨g1, hF⟩ := gd hF
    refine aw_run (pc' := 43) hC [(.aload_n 0, 1, 0, 0, .null), (.getfield 33, 3, 7, 12, .null), (.aload_n 0, 1, 0, 0, .null), (.getfield 59, 3, 7, 11, .null), (.iaload, 1, 0, 0, .null)] (by decide +kernel) [(0, .ref 20), (1, .int a1)] [.int (σ.1 27 (σ.1 20 11).toNatClampNeg)] σ rfl rfl ⟨trivial, trivial, trivial, trivial, g1, trivial⟩ rfl ?_
    refine aw_if_le (off := 7) hC 50 Iff.rfl (by decide +kernel) (by decide) (fun h => ?_) (fun h => ?_)
    · have hF := (if_pos h).symm.trans hF
      refine aw_run (pc' := 51) hC [(.iconst 0, 1, 0, 0, .int 0)] (by decide +kernel) [(0, .ref 20), (1, .int a1)] [.int 0] σ rfl rfl ⟨trivial, trivial⟩ rfl ?_
      exact Jc51 a1 0 σ hF
    · have hF := (if_neg h).symm.trans hF
      refine aw_run (pc' := 47) hC [(.iconst 1, 1, 0, 0, .int 1)] (by decide +kernel) [(0, .ref 20), (1, .int a1)] [.int 1] σ rfl rfl ⟨trivial, trivial⟩ rfl ?_
      refine aw_goto (off := 4) hC 51 (by decide +kernel) (by decide) ?_
      exact Jc51 a1 1 σ hF
  · have hF := (if_pos h).symm.trans hF
    refine aw_run (pc' := 8) hC [(.iload_n 1, 1, 0, 0, .null)] (by decide +kernel) [(0, .ref 20), (1, .int a1)] [.int a1] σ rfl rfl ⟨trivial, trivial⟩ rfl ?_
    refine aw_if_gt (off := 18) hC 26 Iff.rfl (by decide +kernel) (by decide) (fun h => ?_) (fun h => ?_)
    · have hF := (if_pos h).symm.trans hF
      exact Jc26 a1 σ hF
    · have hF := (if_neg h).symm.trans hF
      refine aw_run (pc' := 15) hC [(.aload_n 0, 1, 0, 0, .null), (.getfield 65, 3, 7, 14, .null)] (by decide +kernel) [(0, .ref 20), (1, .int a1)] [.int (σ.1 20 14)] σ rfl rfl ⟨trivial, trivial, trivial⟩ rfl ?_
      refine aw_if_ne (off := 15) hC 30 Iff.rfl (by decide +kernel) (by decide) (fun h => ?_) (fun h => ?_)
      · have hF := (if_neg h).symm.trans hF
        exact Jc30 a1 σ hF
      · have hF := (if_pos h).symm.trans hF
        refine aw_run (pc' := 23) hC [(.aload_n 0, 1, 0, 0, .null), (.getfield 59, 3, 7, 11, .null), (.iconst 3, 1, 0, 0, .int 3)] (by decide +kernel) [(0, .ref 20), (1, .int a1)] [.int 3, .int (σ.1 20 11)] σ rfl rfl ⟨trivial, trivial, trivial, trivial⟩ rfl ?_
        refine aw_icmp_ge (off := 7) hC 30 (by decide +kernel) (by decide) (fun h => ?_) (fun h => ?_)
        · have hF := (if_pos h).symm.trans hF
          exact Jc30 a1 σ hF
        · have hF := (if_neg h).symm.trans hF
          exact Jc26 a1 σ hF
def f_mo_takes_c179 (t0 : Int32) (σ : Sg) : Option (Int32 × Sg) := if t0 = 0 then (some (0, σ)) else ((f_mo_goesTo σ ((σ.1 20 11) + 1)).bind fun q1 => if q1.1 = 0 then (some (0, q1.2)) else (some (1, q1.2)))
def f_mo_takes_c178 (σ : Sg) : Option (Int32 × Sg) := f_mo_takes_c179 0 σ
def f_mo_takes_c174 (σ : Sg) : Option (Int32 × Sg) := f_mo_takes_c179 1 σ
def f_mo_takes_c160 (a1 : Int32) (σ : Sg) : Option (Int32 × Sg) := if (σ.1 20 11) = 2 then (if a1 = 126 then (f_mo_takes_c174 σ) else (f_mo_takes_c178 σ)) else (f_mo_takes_c178 σ)
def f_mo_takes_c146 (a1 : Int32) (σ : Sg) : Option (Int32 × Sg) := if (σ.1 20 11) = 1 then (if a1 = 44 then (f_mo_takes_c174 σ) else (f_mo_takes_c160 a1 σ)) else (f_mo_takes_c160 a1 σ)
def f_mo_takes_c113 (a2 : Int32) (t1 : Int32) (σ : Sg) : Option (Int32 × Sg) := if t1 = 0 ∨ t1 = 1 then nm (uI σ 20 14 t1) fun σ5 => if a2 = 0 then (if (σ5.1 20 15) = 0 then (some (0, σ5)) else (some (1, σ5))) else (some (1, σ5)) else none
def f_mo_takes_c108 (a2 : Int32) (σ : Sg) : Option (Int32 × Sg) := f_mo_takes_c113 a2 1 σ
def f_mo_takes_c93 (a2 : Int32) (t1 : Int32) (σ : Sg) : Option (Int32 × Sg) := if t1 = 0 ∨ t1 = 1 then nm (uI σ 20 15 t1) fun σ3 => if (σ3.1 20 14) = 0 then (if a2 = 0 then (f_mo_takes_c113 a2 0 σ3) else (f_mo_takes_c108 a2 σ3)) else (f_mo_takes_c108 a2 σ3) else none
def f_mo_takes_c92 (a2 : Int32) (σ : Sg) : Option (Int32 × Sg) := f_mo_takes_c93 a2 0 σ
def f_mo_takes_c65 (a1 : Int32) (t0 : Int32) (σ : Sg) : Option (Int32 × Sg) := if a1 = 120 then (if (σ.1 20 11) = 1 then (if (σ.1 20 14) = 0 then (f_mo_takes_c93 t0 1 σ) else (f_mo_takes_c92 t0 σ)) else (f_mo_takes_c92 t0 σ)) else (f_mo_takes_c92 t0 σ)
def f_mo_takes_c64 (a1 : Int32) (σ : Sg) : Option (Int32 × Sg) := f_mo_takes_c65 a1 0 σ
def f_mo_takes (σ : Sg) (a1 : Int32) : Option (Int32 × Sg) := if (σ.1 20 15) = 0 then (if (f_mo_within a1.toInt64 48 57) = 0 then (if (σ.1 20 13) = 0 then (if a1 = 45 then (if (3 : Int32) ≤ (σ.1 20 11) then (f_mo_takes_c64 a1 σ) else (if (σ.1 20 14) = 0 then (f_mo_takes_c65 a1 1 σ) else (f_mo_takes_c64 a1 σ))) else (f_mo_takes_c64 a1 σ)) else (if (σ.1 20 11) = 0 then (if a1 = 58 then (f_mo_takes_c174 σ) else (f_mo_takes_c146 a1 σ)) else (f_mo_takes_c146 a1 σ))) else ((f_mo_takesFigure σ (a1 - 48)).bind fun q6 => if q6.1 = 0 ∨ q6.1 = 1 then some (q6.1, q6.2) else none)) else (some (0, σ))
def rm_mo_takes : Room := { frames := 2, cells := 0, slots := 0, locals := 43 }
set_option maxHeartbeats 4000000 in
set_option maxRecDepth 100000 in
theorem c_mo_takes (σ : Sg) (a1 : Int32) (z : Int32 × Sg) (hF : f_mo_takes σ a1 = some z) : Ctr yX7_takes cX7_takes 3 (some .boolean) rm_mo_takes [.ref 20, .int a1] σ (some (.int z.1)) z.2 := by
  refine ct_start 7 (by decide) rfl (fun ad => Nat.le_of_ble_eq_true rfl) [(0, .ref 20), (1, .int a1)] (fun ad => rfl) ?_
  intro p l e s m args below meth c D ad tc A hC hA hr
  have Jc179 : ∀ (t0 : Int32) (σ : Sg), f_mo_takes_c179 t0 σ = some z → AW p l e rm_mo_takes s m args below meth c D ad tc 3 A s.heap 0 0 (MQ below (Qr (some (.int z.1)) D ad tc z.2 A) args s 0 0 A) 179 [(0, .ref 20)] [.int t0] σ := by
    intro t0 σ hF
    unfold f_mo_takes_c179 at hF
    refine aw_run (pc' := 181) hC [(.istore_n 2, 1, 0, 0, .null), (.iload_n 2, 1, 0, 0, .null)] (by decide +kernel) [(0, .ref 20), (2, .int t0)] [.int t0] σ rfl rfl ⟨trivial, trivial, trivial⟩ rfl ?_
    refine aw_if_eq (off := 20) hC 201 Iff.rfl (by decide +kernel) (by decide) (fun h => ?_) (fun h => ?_)
    · have hF := (if_pos h).symm.trans hF
      refine aw_run (pc' := 202) hC [(.iconst 0, 1, 0, 0, .int 0)] (by decide +kernel) [(0, .ref 20), (2, .int t0)] [.int 0] σ rfl rfl ⟨trivial, trivial⟩ rfl ?_
      exact aw_zret hC hr (Or.inl rfl) (by decide +kernel) (pS1 hF) (pS2 hF)
    · have hF := (if_neg h).symm.trans hF
      refine aw_run (pc' := 191) hC [(.aload_n 0, 1, 0, 0, .null), (.aload_n 0, 1, 0, 0, .null), (.getfield 59, 3, 7, 11, .null), (.iconst 1, 1, 0, 0, .int 1), (.iadd, 1, 0, 0, .null)] (by decide +kernel) [(0, .ref 20), (2, .int t0)] [.int ((σ.1 20 11) + 1), .ref 20] σ rfl rfl ⟨trivial, trivial, trivial, trivial, trivial, trivial⟩ rfl ?_
      obtain ⟨q1, eq1, hF⟩ := bd hF
      refine aw_callV hC hA (rest := []) (c_mo_goesTo σ ((σ.1 20 11) + 1) q1 eq1) mt_X7_goesTo ln_7_84 (by decide +kernel) ⟨_, rfl⟩ rfl rfl (Nat.le_of_ble_eq_true rfl) ⟨⟨rfl, rfl⟩, Nat.le_of_ble_eq_true rfl, Nat.le_of_ble_eq_true rfl⟩ ⟨Nat.zero_le _, Nat.zero_le _⟩ rfl ?_
      refine aw_if_eq (off := 7) hC 201 Iff.rfl (by decide +kernel) (by decide) (fun h => ?_) (fun h => ?_)
      · have hF := (if_pos h).symm.trans hF
        refine aw_run (pc' := 202) hC [(.iconst 0, 1, 0, 0, .int 0)] (by decide +kernel) [(0, .ref 20), (2, .int t0)] [.int 0] q1.2 rfl rfl ⟨trivial, trivial⟩ rfl ?_
        exact aw_zret hC hr (Or.inl rfl) (by decide +kernel) (pS1 hF) (pS2 hF)
      · have hF := (if_neg h).symm.trans hF
        refine aw_run (pc' := 198) hC [(.iconst 1, 1, 0, 0, .int 1)] (by decide +kernel) [(0, .ref 20), (2, .int t0)] [.int 1] q1.2 rfl rfl ⟨trivial, trivial⟩ rfl ?_
        refine aw_goto (off := 4) hC 202 (by decide +kernel) (by decide) ?_
        exact aw_zret hC hr (Or.inr rfl) (by decide +kernel) (pS1 hF) (pS2 hF)
  have Jc178 : ∀ (σ : Sg), f_mo_takes_c178 σ = some z → AW p l e rm_mo_takes s m args below meth c D ad tc 3 A s.heap 0 0 (MQ below (Qr (some (.int z.1)) D ad tc z.2 A) args s 0 0 A) 178 [(0, .ref 20)] [] σ := by
    intro σ hF
    unfold f_mo_takes_c178 at hF
    refine aw_run (pc' := 179) hC [(.iconst 0, 1, 0, 0, .int 0)] (by decide +kernel) [(0, .ref 20)] [.int 0] σ rfl rfl ⟨trivial, trivial⟩ rfl ?_
    exact Jc179 0 σ hF
  have Jc174 : ∀ (σ : Sg), f_mo_takes_c174 σ = some z → AW p l e rm_mo_takes s m args below meth c D ad tc 3 A s.heap 0 0 (MQ below (Qr (some (.int z.1)) D ad tc z.2 A) args s 0 0 A) 174 [(0, .ref 20)] [] σ := by
    intro σ hF
    unfold f_mo_takes_c174 at hF
    refine aw_run (pc' := 175) hC [(.iconst 1, 1, 0, 0, .int 1)] (by decide +kernel) [(0, .ref 20)] [.int 1] σ rfl rfl ⟨trivial, trivial⟩ rfl ?_
    refine aw_goto (off := 4) hC 179 (by decide +kernel) (by decide) ?_
    exact Jc179 1 σ hF
  have Jc160 : ∀ (a1 : Int32) (σ : Sg), f_mo_takes_c160 a1 σ = some z → AW p l e rm_mo_takes s m args below meth c D ad tc 3 A s.heap 0 0 (MQ below (Qr (some (.int z.1)) D ad tc z.2 A) args s 0 0 A) 160 [(0, .ref 20), (1, .int a1)] [] σ := by
    intro a1 σ hF
    unfold f_mo_takes_c160 at hF
    refine aw_run (pc' := 165) hC [(.aload_n 0, 1, 0, 0, .null), (.getfield 59, 3, 7, 11, .null), (.iconst 2, 1, 0, 0, .int 2)] (by decide +kernel) [(0, .ref 20), (1, .int a1)] [.int 2, .int (σ.1 20 11)] σ rfl rfl ⟨trivial, trivial, trivial, trivial⟩ rfl ?_
    refine aw_icmp_ne (off := 13) hC 178 (by decide +kernel) (by decide) (fun h => ?_) (fun h => ?_)
    · have hF := (if_neg h).symm.trans hF
      refine aw_pick [0] [(0, .ref 20)] rfl ?_
      exact Jc178 σ hF
    · have hF := (if_pos h).symm.trans hF
      refine aw_run (pc' := 171) hC [(.iload_n 1, 1, 0, 0, .null), (.bipush 126, 2, 0, 0, .int 126)] (by decide +kernel) [(0, .ref 20), (1, .int a1)] [.int 126, .int a1] σ rfl rfl ⟨trivial, trivial, trivial⟩ rfl ?_
      refine aw_icmp_ne (off := 7) hC 178 (by decide +kernel) (by decide) (fun h => ?_) (fun h => ?_)
      · have hF := (if_neg h).symm.trans hF
        refine aw_pick [0] [(0, .ref 20)] rfl ?_
        exact Jc178 σ hF
      · have hF := (if_pos h).symm.trans hF
        refine aw_pick [0] [(0, .ref 20)] rfl ?_
        exact Jc174 σ hF
  have Jc146 : ∀ (a1 : Int32) (σ : Sg), f_mo_takes_c146 a1 σ = some z → AW p l e rm_mo_takes s m args below meth c D ad tc 3 A s.heap 0 0 (MQ below (Qr (some (.int z.1)) D ad tc z.2 A) args s 0 0 A) 146 [(0, .ref 20), (1, .int a1)] [] σ := by
    intro a1 σ hF
    unfold f_mo_takes_c146 at hF
    refine aw_run (pc' := 151) hC [(.aload_n 0, 1, 0, 0, .null), (.getfield 59, 3, 7, 11, .null), (.iconst 1, 1, 0, 0, .int 1)] (by decide +kernel) [(0, .ref 20), (1, .int a1)] [.int 1, .int (σ.1 20 11)] σ rfl rfl ⟨trivial, trivial, trivial, trivial⟩ rfl ?_
    refine aw_icmp_ne (off := 9) hC 160 (by decide +kernel) (by decide) (fun h => ?_) (fun h => ?_)
    · have hF := (if_neg h).symm.trans hF
      exact Jc160 a1 σ hF
    · have hF := (if_pos h).symm.trans hF
      refine aw_run (pc' := 157) hC [(.iload_n 1, 1, 0, 0, .null), (.bipush 44, 2, 0, 0, .int 44)] (by decide +kernel) [(0, .ref 20), (1, .int a1)] [.int 44, .int a1] σ rfl rfl ⟨trivial, trivial, trivial⟩ rfl ?_
      refine aw_icmp_eq (off := 17) hC 174 (by decide +kernel) (by decide) (fun h => ?_) (fun h => ?_)
      · have hF := (if_pos h).symm.trans hF
        refine aw_pick [0] [(0, .ref 20)] rfl ?_
        exact Jc174 σ hF
      · have hF := (if_neg h).symm.trans hF
        exact Jc160 a1 σ hF
  have Jc113 : ∀ (a2 : Int32) (t1 : Int32) (σ : Sg), f_mo_takes_c113 a2 t1 σ = some z → AW p l e rm_mo_takes s m args below meth c D ad tc 3 A s.heap 0 0 (MQ below (Qr (some (.int z.1)) D ad tc z.2 A) args s 0 0 A) 113 [(0, .ref 20), (2, .int a2)] [.int t1, .ref 20] σ := by
    intro a2 t1 σ hF
    unfold f_mo_takes_c113 at hF
    obtain ⟨g4, hF⟩ := gd hF
    obtain ⟨σ5, hσ5, hF⟩ := nmd hF
    refine aw_run (pc' := 116) hC [(.putfield 65, 3, 7, 14, .null)] (by decide +kernel) [(0, .ref 20), (2, .int a2)] [] (uI σ 20 14 t1) rfl rfl ⟨g4, trivial⟩ hσ5 ?_
    refine aw_run (pc' := 117) hC [(.iload_n 2, 1, 0, 0, .null)] (by decide +kernel) [(0, .ref 20), (2, .int a2)] [.int a2] σ5 rfl rfl ⟨trivial, trivial⟩ rfl ?_
    refine aw_if_ne (off := 10) hC 127 Iff.rfl (by decide +kernel) (by decide) (fun h => ?_) (fun h => ?_)
    · have hF := (if_neg h).symm.trans hF
      refine aw_run (pc' := 128) hC [(.iconst 1, 1, 0, 0, .int 1)] (by decide +kernel) [(0, .ref 20), (2, .int a2)] [.int 1] σ5 rfl rfl ⟨trivial, trivial⟩ rfl ?_
      refine aw_goto (off := 4) hC 132 (by decide +kernel) (by decide) ?_
      exact aw_zret hC hr (Or.inr rfl) (by decide +kernel) (pS1 hF) (pS2 hF)
    · have hF := (if_pos h).symm.trans hF
      refine aw_run (pc' := 124) hC [(.aload_n 0, 1, 0, 0, .null), (.getfield 73, 3, 7, 15, .null)] (by decide +kernel) [(0, .ref 20), (2, .int a2)] [.int (σ5.1 20 15)] σ5 rfl rfl ⟨trivial, trivial, trivial⟩ rfl ?_
      refine aw_if_eq (off := 7) hC 131 Iff.rfl (by decide +kernel) (by decide) (fun h => ?_) (fun h => ?_)
      · have hF := (if_pos h).symm.trans hF
        refine aw_run (pc' := 132) hC [(.iconst 0, 1, 0, 0, .int 0)] (by decide +kernel) [(0, .ref 20), (2, .int a2)] [.int 0] σ5 rfl rfl ⟨trivial, trivial⟩ rfl ?_
        exact aw_zret hC hr (Or.inl rfl) (by decide +kernel) (pS1 hF) (pS2 hF)
      · have hF := (if_neg h).symm.trans hF
        refine aw_run (pc' := 128) hC [(.iconst 1, 1, 0, 0, .int 1)] (by decide +kernel) [(0, .ref 20), (2, .int a2)] [.int 1] σ5 rfl rfl ⟨trivial, trivial⟩ rfl ?_
        refine aw_goto (off := 4) hC 132 (by decide +kernel) (by decide) ?_
        exact aw_zret hC hr (Or.inr rfl) (by decide +kernel) (pS1 hF) (pS2 hF)
  have Jc108 : ∀ (a2 : Int32) (σ : Sg), f_mo_takes_c108 a2 σ = some z → AW p l e rm_mo_takes s m args below meth c D ad tc 3 A s.heap 0 0 (MQ below (Qr (some (.int z.1)) D ad tc z.2 A) args s 0 0 A) 108 [(0, .ref 20), (2, .int a2)] [.ref 20] σ := by
    intro a2 σ hF
    unfold f_mo_takes_c108 at hF
    refine aw_run (pc' := 109) hC [(.iconst 1, 1, 0, 0, .int 1)] (by decide +kernel) [(0, .ref 20), (2, .int a2)] [.int 1, .ref 20] σ rfl rfl ⟨trivial, trivial⟩ rfl ?_
    refine aw_goto (off := 4) hC 113 (by decide +kernel) (by decide) ?_
    exact Jc113 a2 1 σ hF
  have Jc93 : ∀ (a2 : Int32) (t1 : Int32) (σ : Sg), f_mo_takes_c93 a2 t1 σ = some z → AW p l e rm_mo_takes s m args below meth c D ad tc 3 A s.heap 0 0 (MQ below (Qr (some (.int z.1)) D ad tc z.2 A) args s 0 0 A) 93 [(0, .ref 20), (2, .int a2)] [.int t1, .ref 20] σ := by
    intro a2 t1 σ hF
    unfold f_mo_takes_c93 at hF
    obtain ⟨g2, hF⟩ := gd hF
    obtain ⟨σ3, hσ3, hF⟩ := nmd hF
    refine aw_run (pc' := 96) hC [(.putfield 73, 3, 7, 15, .null)] (by decide +kernel) [(0, .ref 20), (2, .int a2)] [] (uI σ 20 15 t1) rfl rfl ⟨g2, trivial⟩ hσ3 ?_
    refine aw_run (pc' := 101) hC [(.aload_n 0, 1, 0, 0, .null), (.aload_n 0, 1, 0, 0, .null), (.getfield 65, 3, 7, 14, .null)] (by decide +kernel) [(0, .ref 20), (2, .int a2)] [.int (σ3.1 20 14), .ref 20] σ3 rfl rfl ⟨trivial, trivial, trivial, trivial⟩ rfl ?_
    refine aw_if_ne (off := 7) hC 108 Iff.rfl (by decide +kernel) (by decide) (fun h => ?_) (fun h => ?_)
    · have hF := (if_neg h).symm.trans hF
      exact Jc108 a2 σ3 hF
    · have hF := (if_pos h).symm.trans hF
      refine aw_run (pc' := 105) hC [(.iload_n 2, 1, 0, 0, .null)] (by decide +kernel) [(0, .ref 20), (2, .int a2)] [.int a2, .ref 20] σ3 rfl rfl ⟨trivial, trivial⟩ rfl ?_
      refine aw_if_eq (off := 7) hC 112 Iff.rfl (by decide +kernel) (by decide) (fun h => ?_) (fun h => ?_)
      · have hF := (if_pos h).symm.trans hF
        refine aw_run (pc' := 113) hC [(.iconst 0, 1, 0, 0, .int 0)] (by decide +kernel) [(0, .ref 20), (2, .int a2)] [.int 0, .ref 20] σ3 rfl rfl ⟨trivial, trivial⟩ rfl ?_
        exact Jc113 a2 0 σ3 hF
      · have hF := (if_neg h).symm.trans hF
        exact Jc108 a2 σ3 hF
  have Jc92 : ∀ (a2 : Int32) (σ : Sg), f_mo_takes_c92 a2 σ = some z → AW p l e rm_mo_takes s m args below meth c D ad tc 3 A s.heap 0 0 (MQ below (Qr (some (.int z.1)) D ad tc z.2 A) args s 0 0 A) 92 [(0, .ref 20), (2, .int a2)] [.ref 20] σ := by
    intro a2 σ hF
    unfold f_mo_takes_c92 at hF
    refine aw_run (pc' := 93) hC [(.iconst 0, 1, 0, 0, .int 0)] (by decide +kernel) [(0, .ref 20), (2, .int a2)] [.int 0, .ref 20] σ rfl rfl ⟨trivial, trivial⟩ rfl ?_
    exact Jc93 a2 0 σ hF
  have Jc65 : ∀ (a1 : Int32) (t0 : Int32) (σ : Sg), f_mo_takes_c65 a1 t0 σ = some z → AW p l e rm_mo_takes s m args below meth c D ad tc 3 A s.heap 0 0 (MQ below (Qr (some (.int z.1)) D ad tc z.2 A) args s 0 0 A) 65 [(0, .ref 20), (1, .int a1)] [.int t0] σ := by
    intro a1 t0 σ hF
    unfold f_mo_takes_c65 at hF
    refine aw_run (pc' := 70) hC [(.istore_n 2, 1, 0, 0, .null), (.aload_n 0, 1, 0, 0, .null), (.iload_n 1, 1, 0, 0, .null), (.bipush 120, 2, 0, 0, .int 120)] (by decide +kernel) [(0, .ref 20), (1, .int a1), (2, .int t0)] [.int 120, .int a1, .ref 20] σ rfl rfl ⟨trivial, trivial, trivial, trivial, trivial⟩ rfl ?_
    refine aw_icmp_ne (off := 22) hC 92 (by decide +kernel) (by decide) (fun h => ?_) (fun h => ?_)
    · have hF := (if_neg h).symm.trans hF
      refine aw_pick [0, 2] [(0, .ref 20), (2, .int t0)] rfl ?_
      exact Jc92 t0 σ hF
    · have hF := (if_pos h).symm.trans hF
      refine aw_run (pc' := 78) hC [(.aload_n 0, 1, 0, 0, .null), (.getfield 59, 3, 7, 11, .null), (.iconst 1, 1, 0, 0, .int 1)] (by decide +kernel) [(0, .ref 20), (1, .int a1), (2, .int t0)] [.int 1, .int (σ.1 20 11), .ref 20] σ rfl rfl ⟨trivial, trivial, trivial, trivial⟩ rfl ?_
      refine aw_icmp_ne (off := 14) hC 92 (by decide +kernel) (by decide) (fun h => ?_) (fun h => ?_)
      · have hF := (if_neg h).symm.trans hF
        refine aw_pick [0, 2] [(0, .ref 20), (2, .int t0)] rfl ?_
        exact Jc92 t0 σ hF
      · have hF := (if_pos h).symm.trans hF
        refine aw_run (pc' := 85) hC [(.aload_n 0, 1, 0, 0, .null), (.getfield 65, 3, 7, 14, .null)] (by decide +kernel) [(0, .ref 20), (1, .int a1), (2, .int t0)] [.int (σ.1 20 14), .ref 20] σ rfl rfl ⟨trivial, trivial, trivial⟩ rfl ?_
        refine aw_if_ne (off := 7) hC 92 Iff.rfl (by decide +kernel) (by decide) (fun h => ?_) (fun h => ?_)
        · have hF := (if_neg h).symm.trans hF
          refine aw_pick [0, 2] [(0, .ref 20), (2, .int t0)] rfl ?_
          exact Jc92 t0 σ hF
        · have hF := (if_pos h).symm.trans hF
          refine aw_run (pc' := 89) hC [(.iconst 1, 1, 0, 0, .int 1)] (by decide +kernel) [(0, .ref 20), (1, .int a1), (2, .int t0)] [.int 1, .ref 20] σ rfl rfl ⟨trivial, trivial⟩ rfl ?_
          refine aw_goto (off := 4) hC 93 (by decide +kernel) (by decide) ?_
          refine aw_pick [0, 2] [(0, .ref 20), (2, .int t0)] rfl ?_
          exact Jc93 t0 1 σ hF
  have Jc64 : ∀ (a1 : Int32) (σ : Sg), f_mo_takes_c64 a1 σ = some z → AW p l e rm_mo_takes s m args below meth c D ad tc 3 A s.heap 0 0 (MQ below (Qr (some (.int z.1)) D ad tc z.2 A) args s 0 0 A) 64 [(0, .ref 20), (1, .int a1)] [] σ := by
    intro a1 σ hF
    unfold f_mo_takes_c64 at hF
    refine aw_run (pc' := 65) hC [(.iconst 0, 1, 0, 0, .int 0)] (by decide +kernel) [(0, .ref 20), (1, .int a1)] [.int 0] σ rfl rfl ⟨trivial, trivial⟩ rfl ?_
    exact Jc65 a1 0 σ hF
  unfold f_mo_takes at hF
  refine aw_run (pc' := 4) hC [(.aload_n 0, 1, 0, 0, .null), (.getfield 73, 3, 7, 15, .null)] (by decide +kernel) [(0, .ref 20), (1, .int a1)] [.int (σ.1 20 15)] σ rfl rfl ⟨trivial, trivial, trivial⟩ rfl ?_
  refine aw_if_eq (off := 5) hC 9 Iff.rfl (by decide +kernel) (by decide) (fun h => ?_) (fun h => ?_)
  · have hF := (if_pos h).symm.trans hF
    refine aw_run (pc' := 17) hC [(.iload_n 1, 1, 0, 0, .null), (.i2l, 1, 0, 0, .null), (.ldc2_w 76, 3, 0, 0, .long 48), (.ldc2_w 78, 3, 0, 0, .long 57)] (by decide +kernel) [(0, .ref 20), (1, .int a1)] [.long 57, .long 48, .long a1.toInt64] σ rfl rfl ⟨trivial, trivial, trivial, trivial, trivial⟩ rfl ?_
    refine aw_callS hC hA (rest := []) (c_mo_within σ a1.toInt64 48 57 _ rfl) mt_X7_within ln_7_50 (by decide +kernel) rfl rfl (Nat.le_of_ble_eq_true rfl) ⟨⟨rfl, rfl⟩, Nat.le_of_ble_eq_true rfl, Nat.le_of_ble_eq_true rfl⟩ ⟨Nat.zero_le _, Nat.zero_le _⟩ rfl ?_
    refine aw_if_eq (off := 12) hC 32 Iff.rfl (by decide +kernel) (by decide) (fun h => ?_) (fun h => ?_)
    · have hF := (if_pos h).symm.trans hF
      refine aw_run (pc' := 36) hC [(.aload_n 0, 1, 0, 0, .null), (.getfield 62, 3, 7, 13, .null)] (by decide +kernel) [(0, .ref 20), (1, .int a1)] [.int (σ.1 20 13)] σ rfl rfl ⟨trivial, trivial, trivial⟩ rfl ?_
      refine aw_if_ne (off := 97) hC 133 Iff.rfl (by decide +kernel) (by decide) (fun h => ?_) (fun h => ?_)
      · have hF := (if_neg h).symm.trans hF
        refine aw_run (pc' := 137) hC [(.aload_n 0, 1, 0, 0, .null), (.getfield 59, 3, 7, 11, .null)] (by decide +kernel) [(0, .ref 20), (1, .int a1)] [.int (σ.1 20 11)] σ rfl rfl ⟨trivial, trivial, trivial⟩ rfl ?_
        refine aw_if_ne (off := 9) hC 146 Iff.rfl (by decide +kernel) (by decide) (fun h => ?_) (fun h => ?_)
        · have hF := (if_neg h).symm.trans hF
          exact Jc146 a1 σ hF
        · have hF := (if_pos h).symm.trans hF
          refine aw_run (pc' := 143) hC [(.iload_n 1, 1, 0, 0, .null), (.bipush 58, 2, 0, 0, .int 58)] (by decide +kernel) [(0, .ref 20), (1, .int a1)] [.int 58, .int a1] σ rfl rfl ⟨trivial, trivial, trivial⟩ rfl ?_
          refine aw_icmp_eq (off := 31) hC 174 (by decide +kernel) (by decide) (fun h => ?_) (fun h => ?_)
          · have hF := (if_pos h).symm.trans hF
            refine aw_pick [0] [(0, .ref 20)] rfl ?_
            exact Jc174 σ hF
          · have hF := (if_neg h).symm.trans hF
            exact Jc146 a1 σ hF
      · have hF := (if_pos h).symm.trans hF
        refine aw_run (pc' := 42) hC [(.iload_n 1, 1, 0, 0, .null), (.bipush 45, 2, 0, 0, .int 45)] (by decide +kernel) [(0, .ref 20), (1, .int a1)] [.int 45, .int a1] σ rfl rfl ⟨trivial, trivial, trivial⟩ rfl ?_
        refine aw_icmp_ne (off := 22) hC 64 (by decide +kernel) (by decide) (fun h => ?_) (fun h => ?_)
        · have hF := (if_neg h).symm.trans hF
          exact Jc64 a1 σ hF
        · have hF := (if_pos h).symm.trans hF
          refine aw_run (pc' := 50) hC [(.aload_n 0, 1, 0, 0, .null), (.getfield 59, 3, 7, 11, .null), (.iconst 3, 1, 0, 0, .int 3)] (by decide +kernel) [(0, .ref 20), (1, .int a1)] [.int 3, .int (σ.1 20 11)] σ rfl rfl ⟨trivial, trivial, trivial, trivial⟩ rfl ?_
          refine aw_icmp_ge (off := 14) hC 64 (by decide +kernel) (by decide) (fun h => ?_) (fun h => ?_)
          · have hF := (if_pos h).symm.trans hF
            exact Jc64 a1 σ hF
          · have hF := (if_neg h).symm.trans hF
            refine aw_run (pc' := 57) hC [(.aload_n 0, 1, 0, 0, .null), (.getfield 65, 3, 7, 14, .null)] (by decide +kernel) [(0, .ref 20), (1, .int a1)] [.int (σ.1 20 14)] σ rfl rfl ⟨trivial, trivial, trivial⟩ rfl ?_
            refine aw_if_ne (off := 7) hC 64 Iff.rfl (by decide +kernel) (by decide) (fun h => ?_) (fun h => ?_)
            · have hF := (if_neg h).symm.trans hF
              exact Jc64 a1 σ hF
            · have hF := (if_pos h).symm.trans hF
              refine aw_run (pc' := 61) hC [(.iconst 1, 1, 0, 0, .int 1)] (by decide +kernel) [(0, .ref 20), (1, .int a1)] [.int 1] σ rfl rfl ⟨trivial, trivial⟩ rfl ?_
              refine aw_goto (off := 4) hC 65 (by decide +kernel) (by decide) ?_
              exact Jc65 a1 1 σ hF
    · have hF := (if_neg h).symm.trans hF
      refine aw_run (pc' := 28) hC [(.aload_n 0, 1, 0, 0, .null), (.iload_n 1, 1, 0, 0, .null), (.bipush 48, 2, 0, 0, .int 48), (.isub, 1, 0, 0, .null)] (by decide +kernel) [(0, .ref 20), (1, .int a1)] [.int (a1 - 48), .ref 20] σ rfl rfl ⟨trivial, trivial, trivial, trivial, trivial⟩ rfl ?_
      obtain ⟨q6, eq6, hF⟩ := bd hF
      refine aw_callV hC hA (rest := []) (c_mo_takesFigure σ (a1 - 48) q6 eq6) mt_X7_takesFigure ln_7_80 (by decide +kernel) ⟨_, rfl⟩ rfl rfl (Nat.le_of_ble_eq_true rfl) ⟨⟨rfl, rfl⟩, Nat.le_of_ble_eq_true rfl, Nat.le_of_ble_eq_true rfl⟩ ⟨Nat.zero_le _, Nat.zero_le _⟩ rfl ?_
      obtain ⟨g7, hF⟩ := gd hF
      exact aw_zret hC hr g7 (by decide +kernel) (pS1 hF) (pS2 hF)
  · have hF := (if_neg h).symm.trans hF
    refine aw_run (pc' := 8) hC [(.iconst 0, 1, 0, 0, .int 0)] (by decide +kernel) [(0, .ref 20), (1, .int a1)] [.int 0] σ rfl rfl ⟨trivial, trivial⟩ rfl ?_
    exact aw_zret hC hr (Or.inl rfl) (by decide +kernel) (pS1 hF) (pS2 hF)
def f_mo_goAlong_c29_s (N : Nat) (kc29 : Int32 → Sg → Option (Int32 × Sg)) (a1 : Int32) (σ : Sg) : Option (Int32 × Sg) := if (σ.1 20 0) ≤ a1 then (some (a1, σ)) else (if ib a1 24 then (f_mo_takes σ (σ.1 21 a1.toNatClampNeg)).bind fun q7 => if q7.1 = 0 then (some (a1, q7.2)) else (kc29 (a1 + 1) q7.2) else none)
def f_mo_goAlong_c29 (N : Nat) : Nat → Int32 → Sg → Option (Int32 × Sg)
  | 0 => fun _ _ => none
  | n + 1 => f_mo_goAlong_c29_s N (f_mo_goAlong_c29 N n)
def f_mo_goAlong (N : Nat) (σ : Sg) : Option (Int32 × Sg) := nm (uI σ 20 11 0) fun σ1 => nm (uI σ1 27 0 0) fun σ2 => nm (uI σ2 20 13 0) fun σ3 => nm (uI σ3 20 14 0) fun σ4 => nm (uI σ4 20 15 0) fun σ5 => f_mo_goAlong_c29 N N 0 σ5
def rm_mo_goAlong : Room := { frames := 3, cells := 0, slots := 0, locals := 65 }
set_option maxHeartbeats 4000000 in
set_option maxRecDepth 100000 in
theorem c_mo_goAlong (N : Nat) (σ : Sg) (z : Int32 × Sg) (hF : f_mo_goAlong N σ = some z) : Ctr yX7_goAlong cX7_goAlong 2 (some .int) rm_mo_goAlong [.ref 20] σ (some (.int z.1)) z.2 := by
  refine ct_start 7 (by decide) rfl (fun ad => Nat.le_of_ble_eq_true rfl) [(0, .ref 20)] (fun ad => rfl) ?_
  intro p l e s m args below meth c D ad tc A hC hA hr
  have Jc29 : ∀ (n : Nat) (a1 : Int32) (σ : Sg), f_mo_goAlong_c29 N n a1 σ = some z → AW p l e rm_mo_goAlong s m args below meth c D ad tc 2 A s.heap 0 0 (MQ below (Qr (some (.int z.1)) D ad tc z.2 A) args s 0 0 A) 29 [(0, .ref 20), (1, .int a1)] [] σ := by
    intro n
    induction n with
    | zero =>
      intro a1 σ hF
      cases hF
    | succ n ih =>
      intro a1 σ hF
      have hF : f_mo_goAlong_c29_s N (f_mo_goAlong_c29 N n) a1 σ = some z := hF
      unfold f_mo_goAlong_c29_s at hF
      refine aw_run (pc' := 34) hC [(.iload_n 1, 1, 0, 0, .null), (.aload_n 0, 1, 0, 0, .null), (.getfield 55, 3, 7, 0, .null)] (by decide +kernel) [(0, .ref 20), (1, .int a1)] [.int (σ.1 20 0), .int a1] σ rfl rfl ⟨trivial, trivial, trivial, trivial⟩ rfl ?_
      refine aw_icmp_ge (off := 22) hC 56 (by decide +kernel) (by decide) (fun h => ?_) (fun h => ?_)
      · have hF := (if_pos h).symm.trans hF
        refine aw_run (pc' := 57) hC [(.iload_n 1, 1, 0, 0, .null)] (by decide +kernel) [(0, .ref 20), (1, .int a1)] [.int a1] σ rfl rfl ⟨trivial, trivial⟩ rfl ?_
        exact aw_iret hC hr (by decide +kernel) (pS1 hF) (pS2 hF)
      · have hF := (if_neg h).symm.trans hF
        obtain ⟨g6, hF⟩ := gd hF
        refine aw_run (pc' := 44) hC [(.aload_n 0, 1, 0, 0, .null), (.aload_n 0, 1, 0, 0, .null), (.getfield 7, 3, 7, 1, .null), (.iload_n 1, 1, 0, 0, .null), (.iaload, 1, 0, 0, .null)] (by decide +kernel) [(0, .ref 20), (1, .int a1)] [.int (σ.1 21 a1.toNatClampNeg), .ref 20] σ rfl rfl ⟨trivial, trivial, trivial, trivial, g6, trivial⟩ rfl ?_
        obtain ⟨q7, eq7, hF⟩ := bd hF
        refine aw_callV hC hA (rest := []) (c_mo_takes σ (σ.1 21 a1.toNatClampNeg) q7 eq7) mt_X7_takes ln_7_87 (by decide +kernel) ⟨_, rfl⟩ rfl rfl (Nat.le_of_ble_eq_true rfl) ⟨⟨rfl, rfl⟩, Nat.le_of_ble_eq_true rfl, Nat.le_of_ble_eq_true rfl⟩ ⟨Nat.zero_le _, Nat.zero_le _⟩ rfl ?_
        refine aw_if_eq (off := 9) hC 56 Iff.rfl (by decide +kernel) (by decide) (fun h => ?_) (fun h => ?_)
        · have hF := (if_pos h).symm.trans hF
          refine aw_run (pc' := 57) hC [(.iload_n 1, 1, 0, 0, .null)] (by decide +kernel) [(0, .ref 20), (1, .int a1)] [.int a1] q7.2 rfl rfl ⟨trivial, trivial⟩ rfl ?_
          exact aw_iret hC hr (by decide +kernel) (pS1 hF) (pS2 hF)
        · have hF := (if_neg h).symm.trans hF
          refine aw_run (pc' := 53) hC [(.iinc 1 1, 3, 0, 0, .int 1)] (by decide +kernel) [(0, .ref 20), (1, .int (a1 + 1))] [] q7.2 rfl rfl ⟨trivial, trivial⟩ rfl ?_
          refine aw_goto (off := -24) hC 29 (by decide +kernel) (by decide) ?_
          exact ih (a1 + 1) q7.2 hF
  unfold f_mo_goAlong at hF
  obtain ⟨σ1, hσ1, hF⟩ := nmd hF
  refine aw_run (pc' := 5) hC [(.aload_n 0, 1, 0, 0, .null), (.iconst 0, 1, 0, 0, .int 0), (.putfield 59, 3, 7, 11, .null)] (by decide +kernel) [(0, .ref 20)] [] (uI σ 20 11 0) rfl rfl ⟨trivial, trivial, trivial, trivial⟩ hσ1 ?_
  obtain ⟨σ2, hσ2, hF⟩ := nmd hF
  refine aw_run (pc' := 12) hC [(.aload_n 0, 1, 0, 0, .null), (.getfield 33, 3, 7, 12, .null), (.iconst 0, 1, 0, 0, .int 0), (.iconst 0, 1, 0, 0, .int 0), (.iastore, 1, 0, 0, .null)] (by decide +kernel) [(0, .ref 20)] [] (uI σ1 27 0 0) rfl rfl ⟨trivial, trivial, trivial, trivial, (show ib 0 4 by decide), trivial⟩ hσ2 ?_
  obtain ⟨σ3, hσ3, hF⟩ := nmd hF
  refine aw_run (pc' := 17) hC [(.aload_n 0, 1, 0, 0, .null), (.iconst 0, 1, 0, 0, .int 0), (.putfield 62, 3, 7, 13, .null)] (by decide +kernel) [(0, .ref 20)] [] (uI σ2 20 13 0) rfl rfl ⟨trivial, trivial, trivial, trivial⟩ hσ3 ?_
  obtain ⟨σ4, hσ4, hF⟩ := nmd hF
  refine aw_run (pc' := 22) hC [(.aload_n 0, 1, 0, 0, .null), (.iconst 0, 1, 0, 0, .int 0), (.putfield 65, 3, 7, 14, .null)] (by decide +kernel) [(0, .ref 20)] [] (uI σ3 20 14 0) rfl rfl ⟨trivial, trivial, (Or.inl rfl), trivial⟩ hσ4 ?_
  obtain ⟨σ5, hσ5, hF⟩ := nmd hF
  refine aw_run (pc' := 27) hC [(.aload_n 0, 1, 0, 0, .null), (.iconst 0, 1, 0, 0, .int 0), (.putfield 73, 3, 7, 15, .null)] (by decide +kernel) [(0, .ref 20)] [] (uI σ4 20 15 0) rfl rfl ⟨trivial, trivial, (Or.inl rfl), trivial⟩ hσ5 ?_
  refine aw_run (pc' := 29) hC [(.iconst 0, 1, 0, 0, .int 0), (.istore_n 1, 1, 0, 0, .null)] (by decide +kernel) [(0, .ref 20), (1, .int 0)] [] σ5 rfl rfl ⟨trivial, trivial, trivial⟩ rfl ?_
  exact Jc29 N 0 σ5 hF
def f_mo_fault (N : Nat) (σ : Sg) : Option (Int32 × Sg) := (f_mo_goAlong N σ).bind fun q1 => some (q1.1, q1.2)
def rm_mo_fault : Room := { frames := 4, cells := 0, slots := 0, locals := 86 }
set_option maxHeartbeats 4000000 in
set_option maxRecDepth 100000 in
theorem c_mo_fault (N : Nat) (σ : Sg) (z : Int32 × Sg) (hF : f_mo_fault N σ = some z) : Ctr yX7_fault cX7_fault 1 (some .int) rm_mo_fault [.ref 20] σ (some (.int z.1)) z.2 := by
  refine ct_start 7 (by decide) rfl (fun ad => Nat.le_of_ble_eq_true rfl) [(0, .ref 20)] (fun ad => rfl) ?_
  intro p l e s m args below meth c D ad tc A hC hA hr
  unfold f_mo_fault at hF
  refine aw_run (pc' := 1) hC [(.aload_n 0, 1, 0, 0, .null)] (by decide +kernel) [(0, .ref 20)] [.ref 20] σ rfl rfl ⟨trivial, trivial⟩ rfl ?_
  obtain ⟨q1, eq1, hF⟩ := bd hF
  refine aw_callV hC hA (rest := []) (c_mo_goAlong N σ q1 eq1) mt_X7_goAlong ln_7_90 (by decide +kernel) ⟨_, rfl⟩ rfl rfl (Nat.le_of_ble_eq_true rfl) ⟨⟨rfl, rfl⟩, Nat.le_of_ble_eq_true rfl, Nat.le_of_ble_eq_true rfl⟩ ⟨Nat.zero_le _, Nat.zero_le _⟩ rfl ?_
  exact aw_iret hC hr (by decide +kernel) (pS1 hF) (pS2 hF)
def f_mo_findStation_c5_s (N : Nat) (kc5 : Int32 → Int32 → Int32 → Sg → Option Int32) (a1 : Int32) (a2 : Int32) (a3 : Int32) (σ : Sg) : Option Int32 := if (σ.1 20 2) ≤ a3 then (some a2) else (if ib a3 8 then if (σ.1 22 a3.toNatClampNeg) = a1 then (kc5 a1 a3 (a3 + 1) σ) else (kc5 a1 a2 (a3 + 1) σ) else none)
def f_mo_findStation_c5 (N : Nat) : Nat → Int32 → Int32 → Int32 → Sg → Option Int32
  | 0 => fun _ _ _ _ => none
  | n + 1 => f_mo_findStation_c5_s N (f_mo_findStation_c5 N n)
def f_mo_findStation (N : Nat) (σ : Sg) (a1 : Int32) : Option Int32 := f_mo_findStation_c5 N N a1 (-100000001) 0 σ
def rm_mo_findStation : Room := { frames := 0, cells := 0, slots := 0, locals := 0 }
set_option maxHeartbeats 4000000 in
set_option maxRecDepth 100000 in
theorem c_mo_findStation (N : Nat) (σ : Sg) (a1 : Int32) (z : Int32) (hF : f_mo_findStation N σ a1 = some z) : Ctr yX7_findStation cX7_findStation 4 (some .int) rm_mo_findStation [.ref 20, .int a1] σ (some (.int z)) σ := by
  refine ct_start 7 (by decide) rfl (fun ad => Nat.le_of_ble_eq_true rfl) [(0, .ref 20), (1, .int a1)] (fun ad => rfl) ?_
  intro p l e s m args below meth c D ad tc A hC hA hr
  have Jc5 : ∀ (n : Nat) (a1 : Int32) (a2 : Int32) (a3 : Int32), f_mo_findStation_c5 N n a1 a2 a3 σ = some z → AW p l e rm_mo_findStation s m args below meth c D ad tc 4 A s.heap 0 0 (MQ below (Qr (some (.int z)) D ad tc σ A) args s 0 0 A) 5 [(0, .ref 20), (1, .int a1), (2, .int a2), (3, .int a3)] [] σ := by
    intro n
    induction n with
    | zero =>
      intro a1 a2 a3 hF
      cases hF
    | succ n ih =>
      intro a1 a2 a3 hF
      have hF : f_mo_findStation_c5_s N (f_mo_findStation_c5 N n) a1 a2 a3 σ = some z := hF
      unfold f_mo_findStation_c5_s at hF
      refine aw_run (pc' := 10) hC [(.iload_n 3, 1, 0, 0, .null), (.aload_n 0, 1, 0, 0, .null), (.getfield 98, 3, 7, 2, .null)] (by decide +kernel) [(0, .ref 20), (1, .int a1), (2, .int a2), (3, .int a3)] [.int (σ.1 20 2), .int a3] σ rfl rfl ⟨trivial, trivial, trivial, trivial⟩ rfl ?_
      refine aw_icmp_ge (off := 25) hC 35 (by decide +kernel) (by decide) (fun h => ?_) (fun h => ?_)
      · have hF := (if_pos h).symm.trans hF
        refine aw_run (pc' := 36) hC [(.iload_n 2, 1, 0, 0, .null)] (by decide +kernel) [(0, .ref 20), (1, .int a1), (2, .int a2), (3, .int a3)] [.int a2] σ rfl rfl ⟨trivial, trivial⟩ rfl ?_
        exact aw_iret hC hr (by decide +kernel) (Option.some.inj hF) rfl
      · have hF := (if_neg h).symm.trans hF
        obtain ⟨g1, hF⟩ := gd hF
        refine aw_run (pc' := 20) hC [(.aload_n 0, 1, 0, 0, .null), (.getfield 13, 3, 7, 3, .null), (.iload_n 3, 1, 0, 0, .null), (.iaload, 1, 0, 0, .null), (.iload_n 1, 1, 0, 0, .null)] (by decide +kernel) [(0, .ref 20), (1, .int a1), (2, .int a2), (3, .int a3)] [.int a1, .int (σ.1 22 a3.toNatClampNeg)] σ rfl rfl ⟨trivial, trivial, trivial, g1, trivial, trivial⟩ rfl ?_
        refine aw_icmp_ne (off := 7) hC 27 (by decide +kernel) (by decide) (fun h => ?_) (fun h => ?_)
        · have hF := (if_neg h).symm.trans hF
          refine aw_run (pc' := 32) hC [(.iload_n 2, 1, 0, 0, .null), (.istore_n 2, 1, 0, 0, .null), (.iinc 3 1, 3, 0, 0, .int 1)] (by decide +kernel) [(0, .ref 20), (1, .int a1), (2, .int a2), (3, .int (a3 + 1))] [] σ rfl rfl ⟨trivial, trivial, trivial, trivial⟩ rfl ?_
          refine aw_goto (off := -27) hC 5 (by decide +kernel) (by decide) ?_
          exact ih a1 a2 (a3 + 1) hF
        · have hF := (if_pos h).symm.trans hF
          refine aw_run (pc' := 24) hC [(.iload_n 3, 1, 0, 0, .null)] (by decide +kernel) [(0, .ref 20), (1, .int a1), (2, .int a2), (3, .int a3)] [.int a3] σ rfl rfl ⟨trivial, trivial⟩ rfl ?_
          refine aw_goto (off := 4) hC 28 (by decide +kernel) (by decide) ?_
          refine aw_run (pc' := 32) hC [(.istore_n 2, 1, 0, 0, .null), (.iinc 3 1, 3, 0, 0, .int 1)] (by decide +kernel) [(0, .ref 20), (1, .int a1), (2, .int a3), (3, .int (a3 + 1))] [] σ rfl rfl ⟨trivial, trivial, trivial⟩ rfl ?_
          refine aw_goto (off := -27) hC 5 (by decide +kernel) (by decide) ?_
          exact ih a1 a3 (a3 + 1) hF
  unfold f_mo_findStation at hF
  refine aw_run (pc' := 5) hC [(.ldc 97, 2, 0, 0, .int (-100000001)), (.istore_n 2, 1, 0, 0, .null), (.iconst 0, 1, 0, 0, .int 0), (.istore_n 3, 1, 0, 0, .null)] (by decide +kernel) [(0, .ref 20), (1, .int a1), (2, .int (-100000001)), (3, .int 0)] [] σ rfl rfl ⟨trivial, trivial, trivial, trivial, trivial⟩ rfl ?_
  exact Jc5 N a1 (-100000001) 0 hF
def f_mo_isReport_c91 (N : Nat) (t0 : Int32) (σ : Sg) : Option (Int32 × Sg) := (f_mo_findStation N σ (σ.1 27 0)).bind fun q5 => if q5 = (-100000001) then (if (σ.1 20 15) = 0 then (if (σ.1 27 2) ≤ ((σ.1 27 1) + (2 * t0)) then (some (0, σ)) else (some (1, σ))) else (some (1, σ))) else (some (0, σ))
def f_mo_isReport_c72 (N : Nat) (t1 : Int32) (t2 : Int32) (σ : Sg) : Option (Int32 × Sg) := if ib t1 4 then nm (uI σ 27 t1.toNatClampNeg t2) fun σ4 => if (σ4.1 20 11) = 3 then (f_mo_isReport_c91 N (σ4.1 27 3) σ4) else (f_mo_isReport_c91 N 0 σ4) else none
def f_mo_isReport_c35 (N : Nat) (σ : Sg) : Option (Int32 × Sg) := if (σ.1 20 14) = 0 then (if ib (σ.1 20 11) 4 then f_mo_isReport_c72 N (σ.1 20 11) (σ.1 27 (σ.1 20 11).toNatClampNeg) σ else none) else (if ib (σ.1 20 11) 4 then f_mo_isReport_c72 N (σ.1 20 11) (-(σ.1 27 (σ.1 20 11).toNatClampNeg)) σ else none)
def f_mo_isReport (N : Nat) (σ : Sg) : Option (Int32 × Sg) := (f_mo_goAlong N σ).bind fun q1 => if q1.1 < (q1.2.1 20 0) then (some (0, q1.2)) else (if (q1.2.1 20 15) = 0 then (if (q1.2.1 20 11) < 2 then (some (0, q1.2)) else (if (q1.2.1 20 13) = 0 then (some (0, q1.2)) else (f_mo_isReport_c35 N q1.2))) else (f_mo_isReport_c35 N q1.2))
def rm_mo_isReport : Room := { frames := 4, cells := 0, slots := 0, locals := 86 }
set_option maxHeartbeats 4000000 in
set_option maxRecDepth 100000 in
theorem c_mo_isReport (N : Nat) (σ : Sg) (z : Int32 × Sg) (hF : f_mo_isReport N σ = some z) : Ctr yX7_isReport cX7_isReport 2 (some .boolean) rm_mo_isReport [.ref 20] σ (some (.int z.1)) z.2 := by
  refine ct_start 7 (by decide) rfl (fun ad => Nat.le_of_ble_eq_true rfl) [(0, .ref 20)] (fun ad => rfl) ?_
  intro p l e s m args below meth c D ad tc A hC hA hr
  have Jc91 : ∀ (t0 : Int32) (σ : Sg), f_mo_isReport_c91 N t0 σ = some z → AW p l e rm_mo_isReport s m args below meth c D ad tc 2 A s.heap 0 0 (MQ below (Qr (some (.int z.1)) D ad tc z.2 A) args s 0 0 A) 91 [(0, .ref 20)] [.int t0] σ := by
    intro t0 σ hF
    unfold f_mo_isReport_c91 at hF
    refine aw_run (pc' := 99) hC [(.istore_n 1, 1, 0, 0, .null), (.aload_n 0, 1, 0, 0, .null), (.aload_n 0, 1, 0, 0, .null), (.getfield 33, 3, 7, 12, .null), (.iconst 0, 1, 0, 0, .int 0), (.iaload, 1, 0, 0, .null)] (by decide +kernel) [(0, .ref 20), (1, .int t0)] [.int (σ.1 27 0), .ref 20] σ rfl rfl ⟨trivial, trivial, trivial, trivial, trivial, (show ib 0 4 by decide), trivial⟩ rfl ?_
    obtain ⟨q5, eq5, hF⟩ := bd hF
    refine aw_callV hC hA (rest := []) (c_mo_findStation N σ (σ.1 27 0) q5 eq5) mt_X7_findStation ln_7_93 (by decide +kernel) ⟨_, rfl⟩ rfl rfl (Nat.le_of_ble_eq_true rfl) ⟨⟨rfl, rfl⟩, Nat.le_of_ble_eq_true rfl, Nat.le_of_ble_eq_true rfl⟩ ⟨Nat.zero_le _, Nat.zero_le _⟩ rfl ?_
    refine aw_run (pc' := 104) hC [(.ldc 97, 2, 0, 0, .int (-100000001))] (by decide +kernel) [(0, .ref 20), (1, .int t0)] [.int (-100000001), .int q5] σ rfl rfl ⟨trivial, trivial⟩ rfl ?_
    refine aw_icmp_ne (off := 33) hC 137 (by decide +kernel) (by decide) (fun h => ?_) (fun h => ?_)
    · have hF := (if_neg h).symm.trans hF
      refine aw_run (pc' := 138) hC [(.iconst 0, 1, 0, 0, .int 0)] (by decide +kernel) [(0, .ref 20), (1, .int t0)] [.int 0] σ rfl rfl ⟨trivial, trivial⟩ rfl ?_
      exact aw_zret hC hr (Or.inl rfl) (by decide +kernel) (pS1 hF) (pS2 hF)
    · have hF := (if_pos h).symm.trans hF
      refine aw_run (pc' := 111) hC [(.aload_n 0, 1, 0, 0, .null), (.getfield 73, 3, 7, 15, .null)] (by decide +kernel) [(0, .ref 20), (1, .int t0)] [.int (σ.1 20 15)] σ rfl rfl ⟨trivial, trivial, trivial⟩ rfl ?_
      refine aw_if_ne (off := 22) hC 133 Iff.rfl (by decide +kernel) (by decide) (fun h => ?_) (fun h => ?_)
      · have hF := (if_neg h).symm.trans hF
        refine aw_run (pc' := 134) hC [(.iconst 1, 1, 0, 0, .int 1)] (by decide +kernel) [(0, .ref 20), (1, .int t0)] [.int 1] σ rfl rfl ⟨trivial, trivial⟩ rfl ?_
        refine aw_goto (off := 4) hC 138 (by decide +kernel) (by decide) ?_
        exact aw_zret hC hr (Or.inr rfl) (by decide +kernel) (pS1 hF) (pS2 hF)
      · have hF := (if_pos h).symm.trans hF
        refine aw_run (pc' := 130) hC [(.aload_n 0, 1, 0, 0, .null), (.getfield 33, 3, 7, 12, .null), (.iconst 2, 1, 0, 0, .int 2), (.iaload, 1, 0, 0, .null), (.aload_n 0, 1, 0, 0, .null), (.getfield 33, 3, 7, 12, .null), (.iconst 1, 1, 0, 0, .int 1), (.iaload, 1, 0, 0, .null), (.iconst 2, 1, 0, 0, .int 2), (.iload_n 1, 1, 0, 0, .null), (.imul, 1, 0, 0, .null), (.iadd, 1, 0, 0, .null)] (by decide +kernel) [(0, .ref 20), (1, .int t0)] [.int ((σ.1 27 1) + (2 * t0)), .int (σ.1 27 2)] σ rfl rfl ⟨trivial, trivial, trivial, (show ib 2 4 by decide), trivial, trivial, trivial, (show ib 1 4 by decide), trivial, trivial, trivial, trivial, trivial⟩ rfl ?_
        refine aw_icmp_le (off := 7) hC 137 (by decide +kernel) (by decide) (fun h => ?_) (fun h => ?_)
        · have hF := (if_pos h).symm.trans hF
          refine aw_run (pc' := 138) hC [(.iconst 0, 1, 0, 0, .int 0)] (by decide +kernel) [(0, .ref 20), (1, .int t0)] [.int 0] σ rfl rfl ⟨trivial, trivial⟩ rfl ?_
          exact aw_zret hC hr (Or.inl rfl) (by decide +kernel) (pS1 hF) (pS2 hF)
        · have hF := (if_neg h).symm.trans hF
          refine aw_run (pc' := 134) hC [(.iconst 1, 1, 0, 0, .int 1)] (by decide +kernel) [(0, .ref 20), (1, .int t0)] [.int 1] σ rfl rfl ⟨trivial, trivial⟩ rfl ?_
          refine aw_goto (off := 4) hC 138 (by decide +kernel) (by decide) ?_
          exact aw_zret hC hr (Or.inr rfl) (by decide +kernel) (pS1 hF) (pS2 hF)
  have Jc72 : ∀ (t1 : Int32) (t2 : Int32) (σ : Sg), f_mo_isReport_c72 N t1 t2 σ = some z → AW p l e rm_mo_isReport s m args below meth c D ad tc 2 A s.heap 0 0 (MQ below (Qr (some (.int z.1)) D ad tc z.2 A) args s 0 0 A) 72 [(0, .ref 20)] [.int t2, .int t1, .ref 27] σ := by
    intro t1 t2 σ hF
    unfold f_mo_isReport_c72 at hF
    obtain ⟨g3, hF⟩ := gd hF
    obtain ⟨σ4, hσ4, hF⟩ := nmd hF
    refine aw_run (pc' := 73) hC [(.iastore, 1, 0, 0, .null)] (by decide +kernel) [(0, .ref 20)] [] (uI σ 27 t1.toNatClampNeg t2) rfl rfl ⟨g3, trivial⟩ hσ4 ?_
    refine aw_run (pc' := 78) hC [(.aload_n 0, 1, 0, 0, .null), (.getfield 59, 3, 7, 11, .null), (.iconst 3, 1, 0, 0, .int 3)] (by decide +kernel) [(0, .ref 20)] [.int 3, .int (σ4.1 20 11)] σ4 rfl rfl ⟨trivial, trivial, trivial, trivial⟩ rfl ?_
    refine aw_icmp_ne (off := 12) hC 90 (by decide +kernel) (by decide) (fun h => ?_) (fun h => ?_)
    · have hF := (if_neg h).symm.trans hF
      refine aw_run (pc' := 91) hC [(.iconst 0, 1, 0, 0, .int 0)] (by decide +kernel) [(0, .ref 20)] [.int 0] σ4 rfl rfl ⟨trivial, trivial⟩ rfl ?_
      exact Jc91 0 σ4 hF
    · have hF := (if_pos h).symm.trans hF
      refine aw_run (pc' := 87) hC [(.aload_n 0, 1, 0, 0, .null), (.getfield 33, 3, 7, 12, .null), (.iconst 3, 1, 0, 0, .int 3), (.iaload, 1, 0, 0, .null)] (by decide +kernel) [(0, .ref 20)] [.int (σ4.1 27 3)] σ4 rfl rfl ⟨trivial, trivial, trivial, (show ib 3 4 by decide), trivial⟩ rfl ?_
      refine aw_goto (off := 4) hC 91 (by decide +kernel) (by decide) ?_
      exact Jc91 (σ4.1 27 3) σ4 hF
  have Jc35 : ∀ (σ : Sg), f_mo_isReport_c35 N σ = some z → AW p l e rm_mo_isReport s m args below meth c D ad tc 2 A s.heap 0 0 (MQ below (Qr (some (.int z.1)) D ad tc z.2 A) args s 0 0 A) 35 [(0, .ref 20)] [] σ := by
    intro σ hF
    unfold f_mo_isReport_c35 at hF
    refine aw_run (pc' := 47) hC [(.aload_n 0, 1, 0, 0, .null), (.getfield 33, 3, 7, 12, .null), (.aload_n 0, 1, 0, 0, .null), (.getfield 59, 3, 7, 11, .null), (.aload_n 0, 1, 0, 0, .null), (.getfield 65, 3, 7, 14, .null)] (by decide +kernel) [(0, .ref 20)] [.int (σ.1 20 14), .int (σ.1 20 11), .ref 27] σ rfl rfl ⟨trivial, trivial, trivial, trivial, trivial, trivial, trivial⟩ rfl ?_
    refine aw_if_eq (off := 16) hC 63 Iff.rfl (by decide +kernel) (by decide) (fun h => ?_) (fun h => ?_)
    · have hF := (if_pos h).symm.trans hF
      obtain ⟨g2, hF⟩ := gd hF
      refine aw_run (pc' := 72) hC [(.aload_n 0, 1, 0, 0, .null), (.getfield 33, 3, 7, 12, .null), (.aload_n 0, 1, 0, 0, .null), (.getfield 59, 3, 7, 11, .null), (.iaload, 1, 0, 0, .null)] (by decide +kernel) [(0, .ref 20)] [.int (σ.1 27 (σ.1 20 11).toNatClampNeg), .int (σ.1 20 11), .ref 27] σ rfl rfl ⟨trivial, trivial, trivial, trivial, g2, trivial⟩ rfl ?_
      exact Jc72 (σ.1 20 11) (σ.1 27 (σ.1 20 11).toNatClampNeg) σ hF
    · have hF := (if_neg h).symm.trans hF
      obtain ⟨g6, hF⟩ := gd hF
      refine aw_run (pc' := 60) hC [(.aload_n 0, 1, 0, 0, .null), (.getfield 33, 3, 7, 12, .null), (.aload_n 0, 1, 0, 0, .null), (.getfield 59, 3, 7, 11, .null), (.iaload, 1, 0, 0, .null), (.ineg, 1, 0, 0, .null)] (by decide +kernel) [(0, .ref 20)] [.int (-(σ.1 27 (σ.1 20 11).toNatClampNeg)), .int (σ.1 20 11), .ref 27] σ rfl rfl ⟨trivial, trivial, trivial, trivial, g6, trivial, trivial⟩ rfl ?_
      refine aw_goto (off := 12) hC 72 (by decide +kernel) (by decide) ?_
      exact Jc72 (σ.1 20 11) (-(σ.1 27 (σ.1 20 11).toNatClampNeg)) σ hF
  unfold f_mo_isReport at hF
  refine aw_run (pc' := 1) hC [(.aload_n 0, 1, 0, 0, .null)] (by decide +kernel) [(0, .ref 20)] [.ref 20] σ rfl rfl ⟨trivial, trivial⟩ rfl ?_
  obtain ⟨q1, eq1, hF⟩ := bd hF
  refine aw_callV hC hA (rest := []) (c_mo_goAlong N σ q1 eq1) mt_X7_goAlong ln_7_90 (by decide +kernel) ⟨_, rfl⟩ rfl rfl (Nat.le_of_ble_eq_true rfl) ⟨⟨rfl, rfl⟩, Nat.le_of_ble_eq_true rfl, Nat.le_of_ble_eq_true rfl⟩ ⟨Nat.zero_le _, Nat.zero_le _⟩ rfl ?_
  refine aw_run (pc' := 8) hC [(.aload_n 0, 1, 0, 0, .null), (.getfield 55, 3, 7, 0, .null)] (by decide +kernel) [(0, .ref 20)] [.int (q1.2.1 20 0), .int q1.1] q1.2 rfl rfl ⟨trivial, trivial, trivial⟩ rfl ?_
  refine aw_icmp_lt (off := 25) hC 33 (by decide +kernel) (by decide) (fun h => ?_) (fun h => ?_)
  · have hF := (if_pos h).symm.trans hF
    refine aw_run (pc' := 34) hC [(.iconst 0, 1, 0, 0, .int 0)] (by decide +kernel) [(0, .ref 20)] [.int 0] q1.2 rfl rfl ⟨trivial, trivial⟩ rfl ?_
    exact aw_zret hC hr (Or.inl rfl) (by decide +kernel) (pS1 hF) (pS2 hF)
  · have hF := (if_neg h).symm.trans hF
    refine aw_run (pc' := 15) hC [(.aload_n 0, 1, 0, 0, .null), (.getfield 73, 3, 7, 15, .null)] (by decide +kernel) [(0, .ref 20)] [.int (q1.2.1 20 15)] q1.2 rfl rfl ⟨trivial, trivial, trivial⟩ rfl ?_
    refine aw_if_ne (off := 20) hC 35 Iff.rfl (by decide +kernel) (by decide) (fun h => ?_) (fun h => ?_)
    · have hF := (if_neg h).symm.trans hF
      exact Jc35 q1.2 hF
    · have hF := (if_pos h).symm.trans hF
      refine aw_run (pc' := 23) hC [(.aload_n 0, 1, 0, 0, .null), (.getfield 59, 3, 7, 11, .null), (.iconst 2, 1, 0, 0, .int 2)] (by decide +kernel) [(0, .ref 20)] [.int 2, .int (q1.2.1 20 11)] q1.2 rfl rfl ⟨trivial, trivial, trivial, trivial⟩ rfl ?_
      refine aw_icmp_lt (off := 10) hC 33 (by decide +kernel) (by decide) (fun h => ?_) (fun h => ?_)
      · have hF := (if_pos h).symm.trans hF
        refine aw_run (pc' := 34) hC [(.iconst 0, 1, 0, 0, .int 0)] (by decide +kernel) [(0, .ref 20)] [.int 0] q1.2 rfl rfl ⟨trivial, trivial⟩ rfl ?_
        exact aw_zret hC hr (Or.inl rfl) (by decide +kernel) (pS1 hF) (pS2 hF)
      · have hF := (if_neg h).symm.trans hF
        refine aw_run (pc' := 30) hC [(.aload_n 0, 1, 0, 0, .null), (.getfield 62, 3, 7, 13, .null)] (by decide +kernel) [(0, .ref 20)] [.int (q1.2.1 20 13)] q1.2 rfl rfl ⟨trivial, trivial, trivial⟩ rfl ?_
        refine aw_if_ne (off := 5) hC 35 Iff.rfl (by decide +kernel) (by decide) (fun h => ?_) (fun h => ?_)
        · have hF := (if_neg h).symm.trans hF
          exact Jc35 q1.2 hF
        · have hF := (if_pos h).symm.trans hF
          refine aw_run (pc' := 34) hC [(.iconst 0, 1, 0, 0, .int 0)] (by decide +kernel) [(0, .ref 20)] [.int 0] q1.2 rfl rfl ⟨trivial, trivial⟩ rfl ?_
          exact aw_zret hC hr (Or.inl rfl) (by decide +kernel) (pS1 hF) (pS2 hF)
