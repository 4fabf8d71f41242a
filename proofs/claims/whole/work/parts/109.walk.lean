def f_mo_report_c135 (N : Nat) (t1 : Int32) (t2 : Int32) (σ : Sg) : Option (Int32 × Sg) := if ib t1 8 then nm (uI σ 26 t1.toNatClampNeg t2) fun σ11 => nm (uI σ11 20 2 ((σ11.1 20 2) + 1)) fun σ12 => nm (uI σ12 20 9 ((σ12.1 20 9) + 1)) fun σ13 => nm (uI σ13 20 0 0) fun σ14 => some ((σ14.1 20 2) - 1, σ14) else none
def f_mo_report_c134 (N : Nat) (t1 : Int32) (σ : Sg) : Option (Int32 × Sg) := f_mo_report_c135 N t1 0 σ
def f_mo_report_c101 (N : Nat) (t1 : Int32) (t2 : Int32) (σ : Sg) : Option (Int32 × Sg) := if ib t1 8 then nm (uI σ 25 t1.toNatClampNeg t2) fun σ9 => if (σ9.1 20 15) = 0 then (if (σ9.1 20 11) = 3 then (f_mo_report_c135 N (σ9.1 20 2) (σ9.1 27 3) σ9) else (f_mo_report_c134 N (σ9.1 20 2) σ9)) else (f_mo_report_c134 N (σ9.1 20 2) σ9) else none
def f_mo_report_c75 (N : Nat) (t1 : Int32) (t2 : Int32) (σ : Sg) : Option (Int32 × Sg) := if ib t1 8 then nm (uI σ 24 t1.toNatClampNeg t2) fun σ7 => if (σ7.1 20 15) = 0 then (f_mo_report_c101 N (σ7.1 20 2) (σ7.1 27 2) σ7) else (f_mo_report_c101 N (σ7.1 20 2) 0 σ7) else none
def f_mo_report (N : Nat) (σ : Sg) : Option (Int32 × Sg) := (f_mo_isReport N σ).bind fun q1 => if q1.1 = 0 then (some (-100000004, q1.2)) else (if (q1.2.1 20 2) = 8 then (some (-100000005, q1.2)) else (if ib (q1.2.1 20 2) 8 then nm (uI q1.2 22 (q1.2.1 20 2).toNatClampNeg (q1.2.1 27 0)) fun σ3 => if ib (σ3.1 20 2) 8 then nm (uI σ3 23 (σ3.1 20 2).toNatClampNeg ((σ3.1 20 15) &&& 1)) fun σ5 => if (σ5.1 20 15) = 0 then (f_mo_report_c75 N (σ5.1 20 2) (σ5.1 27 1) σ5) else (f_mo_report_c75 N (σ5.1 20 2) 0 σ5) else none else none))
def rm_mo_report : Room := { frames := 5, cells := 0, slots := 0, locals := 107 }
set_option maxHeartbeats 4000000 in
set_option maxRecDepth 100000 in
theorem c_mo_report (N : Nat) (σ : Sg) (z : Int32 × Sg) (hF : f_mo_report N σ = some z) : Ctr yX7_report cX7_report 1 (some .int) rm_mo_report [.ref 20] σ (some (.int z.1)) z.2 := by
  refine ct_start 7 (by decide) rfl (fun ad => Nat.le_of_ble_eq_true rfl) [(0, .ref 20)] (fun ad => rfl) ?_
  intro p l e s m args below meth c D ad tc A hC hA hr
  have Jc135 : ∀ (t1 : Int32) (t2 : Int32) (σ : Sg), f_mo_report_c135 N t1 t2 σ = some z → AW p l e rm_mo_report s m args below meth c D ad tc 1 A s.heap 0 0 (MQ below (Qr (some (.int z.1)) D ad tc z.2 A) args s 0 0 A) 135 [(0, .ref 20)] [.int t2, .int t1, .ref 26] σ := by
    intro t1 t2 σ hF
    unfold f_mo_report_c135 at hF
    obtain ⟨g10, hF⟩ := gd hF
    obtain ⟨σ11, hσ11, hF⟩ := nmd hF
    refine aw_run (pc' := 136) hC [(.iastore, 1, 0, 0, .null)] (by decide +kernel) [(0, .ref 20)] [] (uI σ 26 t1.toNatClampNeg t2) rfl rfl ⟨g10, trivial⟩ hσ11 ?_
    obtain ⟨σ12, hσ12, hF⟩ := nmd hF
    refine aw_run (pc' := 146) hC [(.aload_n 0, 1, 0, 0, .null), (.dup, 1, 0, 0, .null), (.getfield 98, 3, 7, 2, .null), (.iconst 1, 1, 0, 0, .int 1), (.iadd, 1, 0, 0, .null), (.putfield 98, 3, 7, 2, .null)] (by decide +kernel) [(0, .ref 20)] [] (uI σ11 20 2 ((σ11.1 20 2) + 1)) rfl rfl ⟨trivial, trivial, trivial, trivial, trivial, trivial, trivial⟩ hσ12 ?_
    obtain ⟨σ13, hσ13, hF⟩ := nmd hF
    refine aw_run (pc' := 156) hC [(.aload_n 0, 1, 0, 0, .null), (.dup, 1, 0, 0, .null), (.getfield 106, 3, 7, 9, .null), (.iconst 1, 1, 0, 0, .int 1), (.iadd, 1, 0, 0, .null), (.putfield 106, 3, 7, 9, .null)] (by decide +kernel) [(0, .ref 20)] [] (uI σ12 20 9 ((σ12.1 20 9) + 1)) rfl rfl ⟨trivial, trivial, trivial, trivial, trivial, trivial, trivial⟩ hσ13 ?_
    obtain ⟨σ14, hσ14, hF⟩ := nmd hF
    refine aw_run (pc' := 161) hC [(.aload_n 0, 1, 0, 0, .null), (.iconst 0, 1, 0, 0, .int 0), (.putfield 55, 3, 7, 0, .null)] (by decide +kernel) [(0, .ref 20)] [] (uI σ13 20 0 0) rfl rfl ⟨trivial, trivial, trivial, trivial⟩ hσ14 ?_
    refine aw_run (pc' := 167) hC [(.aload_n 0, 1, 0, 0, .null), (.getfield 98, 3, 7, 2, .null), (.iconst 1, 1, 0, 0, .int 1), (.isub, 1, 0, 0, .null)] (by decide +kernel) [(0, .ref 20)] [.int ((σ14.1 20 2) - 1)] σ14 rfl rfl ⟨trivial, trivial, trivial, trivial, trivial⟩ rfl ?_
    exact aw_iret hC hr (by decide +kernel) (pS1 hF) (pS2 hF)
  have Jc134 : ∀ (t1 : Int32) (σ : Sg), f_mo_report_c134 N t1 σ = some z → AW p l e rm_mo_report s m args below meth c D ad tc 1 A s.heap 0 0 (MQ below (Qr (some (.int z.1)) D ad tc z.2 A) args s 0 0 A) 134 [(0, .ref 20)] [.int t1, .ref 26] σ := by
    intro t1 σ hF
    unfold f_mo_report_c134 at hF
    refine aw_run (pc' := 135) hC [(.iconst 0, 1, 0, 0, .int 0)] (by decide +kernel) [(0, .ref 20)] [.int 0, .int t1, .ref 26] σ rfl rfl ⟨trivial, trivial⟩ rfl ?_
    exact Jc135 t1 0 σ hF
  have Jc101 : ∀ (t1 : Int32) (t2 : Int32) (σ : Sg), f_mo_report_c101 N t1 t2 σ = some z → AW p l e rm_mo_report s m args below meth c D ad tc 1 A s.heap 0 0 (MQ below (Qr (some (.int z.1)) D ad tc z.2 A) args s 0 0 A) 101 [(0, .ref 20)] [.int t2, .int t1, .ref 25] σ := by
    intro t1 t2 σ hF
    unfold f_mo_report_c101 at hF
    obtain ⟨g8, hF⟩ := gd hF
    obtain ⟨σ9, hσ9, hF⟩ := nmd hF
    refine aw_run (pc' := 102) hC [(.iastore, 1, 0, 0, .null)] (by decide +kernel) [(0, .ref 20)] [] (uI σ 25 t1.toNatClampNeg t2) rfl rfl ⟨g8, trivial⟩ hσ9 ?_
    refine aw_run (pc' := 114) hC [(.aload_n 0, 1, 0, 0, .null), (.getfield 26, 3, 7, 7, .null), (.aload_n 0, 1, 0, 0, .null), (.getfield 98, 3, 7, 2, .null), (.aload_n 0, 1, 0, 0, .null), (.getfield 73, 3, 7, 15, .null)] (by decide +kernel) [(0, .ref 20)] [.int (σ9.1 20 15), .int (σ9.1 20 2), .ref 26] σ9 rfl rfl ⟨trivial, trivial, trivial, trivial, trivial, trivial, trivial⟩ rfl ?_
    refine aw_if_ne (off := 20) hC 134 Iff.rfl (by decide +kernel) (by decide) (fun h => ?_) (fun h => ?_)
    · have hF := (if_neg h).symm.trans hF
      exact Jc134 (σ9.1 20 2) σ9 hF
    · have hF := (if_pos h).symm.trans hF
      refine aw_run (pc' := 122) hC [(.aload_n 0, 1, 0, 0, .null), (.getfield 59, 3, 7, 11, .null), (.iconst 3, 1, 0, 0, .int 3)] (by decide +kernel) [(0, .ref 20)] [.int 3, .int (σ9.1 20 11), .int (σ9.1 20 2), .ref 26] σ9 rfl rfl ⟨trivial, trivial, trivial, trivial⟩ rfl ?_
      refine aw_icmp_ne (off := 12) hC 134 (by decide +kernel) (by decide) (fun h => ?_) (fun h => ?_)
      · have hF := (if_neg h).symm.trans hF
        exact Jc134 (σ9.1 20 2) σ9 hF
      · have hF := (if_pos h).symm.trans hF
        refine aw_run (pc' := 131) hC [(.aload_n 0, 1, 0, 0, .null), (.getfield 33, 3, 7, 12, .null), (.iconst 3, 1, 0, 0, .int 3), (.iaload, 1, 0, 0, .null)] (by decide +kernel) [(0, .ref 20)] [.int (σ9.1 27 3), .int (σ9.1 20 2), .ref 26] σ9 rfl rfl ⟨trivial, trivial, trivial, (show ib 3 4 by decide), trivial⟩ rfl ?_
        refine aw_goto (off := 4) hC 135 (by decide +kernel) (by decide) ?_
        exact Jc135 (σ9.1 20 2) (σ9.1 27 3) σ9 hF
  have Jc75 : ∀ (t1 : Int32) (t2 : Int32) (σ : Sg), f_mo_report_c75 N t1 t2 σ = some z → AW p l e rm_mo_report s m args below meth c D ad tc 1 A s.heap 0 0 (MQ below (Qr (some (.int z.1)) D ad tc z.2 A) args s 0 0 A) 75 [(0, .ref 20)] [.int t2, .int t1, .ref 24] σ := by
    intro t1 t2 σ hF
    unfold f_mo_report_c75 at hF
    obtain ⟨g6, hF⟩ := gd hF
    obtain ⟨σ7, hσ7, hF⟩ := nmd hF
    refine aw_run (pc' := 76) hC [(.iastore, 1, 0, 0, .null)] (by decide +kernel) [(0, .ref 20)] [] (uI σ 24 t1.toNatClampNeg t2) rfl rfl ⟨g6, trivial⟩ hσ7 ?_
    refine aw_run (pc' := 88) hC [(.aload_n 0, 1, 0, 0, .null), (.getfield 23, 3, 7, 6, .null), (.aload_n 0, 1, 0, 0, .null), (.getfield 98, 3, 7, 2, .null), (.aload_n 0, 1, 0, 0, .null), (.getfield 73, 3, 7, 15, .null)] (by decide +kernel) [(0, .ref 20)] [.int (σ7.1 20 15), .int (σ7.1 20 2), .ref 25] σ7 rfl rfl ⟨trivial, trivial, trivial, trivial, trivial, trivial, trivial⟩ rfl ?_
    refine aw_if_eq (off := 7) hC 95 Iff.rfl (by decide +kernel) (by decide) (fun h => ?_) (fun h => ?_)
    · have hF := (if_pos h).symm.trans hF
      refine aw_run (pc' := 101) hC [(.aload_n 0, 1, 0, 0, .null), (.getfield 33, 3, 7, 12, .null), (.iconst 2, 1, 0, 0, .int 2), (.iaload, 1, 0, 0, .null)] (by decide +kernel) [(0, .ref 20)] [.int (σ7.1 27 2), .int (σ7.1 20 2), .ref 25] σ7 rfl rfl ⟨trivial, trivial, trivial, (show ib 2 4 by decide), trivial⟩ rfl ?_
      exact Jc101 (σ7.1 20 2) (σ7.1 27 2) σ7 hF
    · have hF := (if_neg h).symm.trans hF
      refine aw_run (pc' := 92) hC [(.iconst 0, 1, 0, 0, .int 0)] (by decide +kernel) [(0, .ref 20)] [.int 0, .int (σ7.1 20 2), .ref 25] σ7 rfl rfl ⟨trivial, trivial⟩ rfl ?_
      refine aw_goto (off := 9) hC 101 (by decide +kernel) (by decide) ?_
      exact Jc101 (σ7.1 20 2) 0 σ7 hF
  unfold f_mo_report at hF
  refine aw_run (pc' := 1) hC [(.aload_n 0, 1, 0, 0, .null)] (by decide +kernel) [(0, .ref 20)] [.ref 20] σ rfl rfl ⟨trivial, trivial⟩ rfl ?_
  obtain ⟨q1, eq1, hF⟩ := bd hF
  refine aw_callV hC hA (rest := []) (c_mo_isReport N σ q1 eq1) mt_X7_isReport ln_7_101 (by decide +kernel) ⟨_, rfl⟩ rfl rfl (Nat.le_of_ble_eq_true rfl) ⟨⟨rfl, rfl⟩, Nat.le_of_ble_eq_true rfl, Nat.le_of_ble_eq_true rfl⟩ ⟨Nat.zero_le _, Nat.zero_le _⟩ rfl ?_
  refine aw_if_ne (off := 6) hC 10 Iff.rfl (by decide +kernel) (by decide) (fun h => ?_) (fun h => ?_)
  · have hF := (if_neg h).symm.trans hF
    refine aw_run (pc' := 16) hC [(.aload_n 0, 1, 0, 0, .null), (.getfield 98, 3, 7, 2, .null), (.bipush 8, 2, 0, 0, .int 8)] (by decide +kernel) [(0, .ref 20)] [.int 8, .int (q1.2.1 20 2)] q1.2 rfl rfl ⟨trivial, trivial, trivial, trivial⟩ rfl ?_
    refine aw_icmp_ne (off := 6) hC 22 (by decide +kernel) (by decide) (fun h => ?_) (fun h => ?_)
    · have hF := (if_neg h).symm.trans hF
      obtain ⟨g2, hF⟩ := gd hF
      obtain ⟨σ3, hσ3, hF⟩ := nmd hF
      refine aw_run (pc' := 37) hC [(.aload_n 0, 1, 0, 0, .null), (.getfield 13, 3, 7, 3, .null), (.aload_n 0, 1, 0, 0, .null), (.getfield 98, 3, 7, 2, .null), (.aload_n 0, 1, 0, 0, .null), (.getfield 33, 3, 7, 12, .null), (.iconst 0, 1, 0, 0, .int 0), (.iaload, 1, 0, 0, .null), (.iastore, 1, 0, 0, .null)] (by decide +kernel) [(0, .ref 20)] [] (uI q1.2 22 (q1.2.1 20 2).toNatClampNeg (q1.2.1 27 0)) rfl rfl ⟨trivial, trivial, trivial, trivial, trivial, trivial, trivial, (show ib 0 4 by decide), g2, trivial⟩ hσ3 ?_
      obtain ⟨g4, hF⟩ := gd hF
      obtain ⟨σ5, hσ5, hF⟩ := nmd hF
      refine aw_run (pc' := 50) hC [(.aload_n 0, 1, 0, 0, .null), (.getfield 16, 3, 7, 4, .null), (.aload_n 0, 1, 0, 0, .null), (.getfield 98, 3, 7, 2, .null), (.aload_n 0, 1, 0, 0, .null), (.getfield 73, 3, 7, 15, .null), (.bastore, 1, 0, 0, .null)] (by decide +kernel) [(0, .ref 20)] [] (uI σ3 23 (σ3.1 20 2).toNatClampNeg ((σ3.1 20 15) &&& 1)) rfl rfl ⟨trivial, trivial, trivial, trivial, trivial, trivial, g4, trivial⟩ hσ5 ?_
      refine aw_run (pc' := 62) hC [(.aload_n 0, 1, 0, 0, .null), (.getfield 20, 3, 7, 5, .null), (.aload_n 0, 1, 0, 0, .null), (.getfield 98, 3, 7, 2, .null), (.aload_n 0, 1, 0, 0, .null), (.getfield 73, 3, 7, 15, .null)] (by decide +kernel) [(0, .ref 20)] [.int (σ5.1 20 15), .int (σ5.1 20 2), .ref 24] σ5 rfl rfl ⟨trivial, trivial, trivial, trivial, trivial, trivial, trivial⟩ rfl ?_
      refine aw_if_eq (off := 7) hC 69 Iff.rfl (by decide +kernel) (by decide) (fun h => ?_) (fun h => ?_)
      · have hF := (if_pos h).symm.trans hF
        refine aw_run (pc' := 75) hC [(.aload_n 0, 1, 0, 0, .null), (.getfield 33, 3, 7, 12, .null), (.iconst 1, 1, 0, 0, .int 1), (.iaload, 1, 0, 0, .null)] (by decide +kernel) [(0, .ref 20)] [.int (σ5.1 27 1), .int (σ5.1 20 2), .ref 24] σ5 rfl rfl ⟨trivial, trivial, trivial, (show ib 1 4 by decide), trivial⟩ rfl ?_
        exact Jc75 (σ5.1 20 2) (σ5.1 27 1) σ5 hF
      · have hF := (if_neg h).symm.trans hF
        refine aw_run (pc' := 66) hC [(.iconst 0, 1, 0, 0, .int 0)] (by decide +kernel) [(0, .ref 20)] [.int 0, .int (σ5.1 20 2), .ref 24] σ5 rfl rfl ⟨trivial, trivial⟩ rfl ?_
        refine aw_goto (off := 9) hC 75 (by decide +kernel) (by decide) ?_
        exact Jc75 (σ5.1 20 2) 0 σ5 hF
    · have hF := (if_pos h).symm.trans hF
      refine aw_run (pc' := 21) hC [(.ldc 58, 2, 0, 0, .int (-100000005))] (by decide +kernel) [(0, .ref 20)] [.int (-100000005)] q1.2 rfl rfl ⟨trivial, trivial⟩ rfl ?_
      exact aw_iret hC hr (by decide +kernel) (pS1 hF) (pS2 hF)
  · have hF := (if_pos h).symm.trans hF
    refine aw_run (pc' := 9) hC [(.ldc 105, 2, 0, 0, .int (-100000004))] (by decide +kernel) [(0, .ref 20)] [.int (-100000004)] q1.2 rfl rfl ⟨trivial, trivial⟩ rfl ?_
    exact aw_iret hC hr (by decide +kernel) (pS1 hF) (pS2 hF)
def f_mo_isStation (σ : Sg) (a1 : Int32) : Option Int32 := if (f_mo_within a1.toInt64 0 ((σ.1 20 2) - 1).toInt64) = 0 ∨ (f_mo_within a1.toInt64 0 ((σ.1 20 2) - 1).toInt64) = 1 then some ((f_mo_within a1.toInt64 0 ((σ.1 20 2) - 1).toInt64)) else none
def rm_mo_isStation : Room := { frames := 1, cells := 0, slots := 0, locals := 25 }
set_option maxHeartbeats 4000000 in
set_option maxRecDepth 100000 in
theorem c_mo_isStation (σ : Sg) (a1 : Int32) (z : Int32) (hF : f_mo_isStation σ a1 = some z) : Ctr yX7_isStation cX7_isStation 2 (some .boolean) rm_mo_isStation [.ref 20, .int a1] σ (some (.int z)) σ := by
  refine ct_start 7 (by decide) rfl (fun ad => Nat.le_of_ble_eq_true rfl) [(0, .ref 20), (1, .int a1)] (fun ad => rfl) ?_
  intro p l e s m args below meth c D ad tc A hC hA hr
  unfold f_mo_isStation at hF
  refine aw_run (pc' := 10) hC [(.iload_n 1, 1, 0, 0, .null), (.i2l, 1, 0, 0, .null), (.lconst 0, 1, 0, 0, .long 0), (.aload_n 0, 1, 0, 0, .null), (.getfield 98, 3, 7, 2, .null), (.iconst 1, 1, 0, 0, .int 1), (.isub, 1, 0, 0, .null), (.i2l, 1, 0, 0, .null)] (by decide +kernel) [(0, .ref 20), (1, .int a1)] [.long ((σ.1 20 2) - 1).toInt64, .long 0, .long a1.toInt64] σ rfl rfl ⟨trivial, trivial, trivial, trivial, trivial, trivial, trivial, trivial, trivial⟩ rfl ?_
  refine aw_callS hC hA (rest := []) (c_mo_within σ a1.toInt64 0 ((σ.1 20 2) - 1).toInt64 _ rfl) mt_X7_within ln_7_50 (by decide +kernel) rfl rfl (Nat.le_of_ble_eq_true rfl) ⟨⟨rfl, rfl⟩, Nat.le_of_ble_eq_true rfl, Nat.le_of_ble_eq_true rfl⟩ ⟨Nat.zero_le _, Nat.zero_le _⟩ rfl ?_
  obtain ⟨g1, hF⟩ := gd hF
  exact aw_zret hC hr g1 (by decide +kernel) (Option.some.inj hF) rfl
def f_mo_drop_c33_s (N : Nat) (kc33 : Int32 → Sg → Option (Int32 × Sg)) (a2 : Int32) (σ : Sg) : Option (Int32 × Sg) := if (σ.1 20 2) ≤ a2 then (some (σ.1 20 2, σ)) else (if ib (a2 + 1) 8 then if ib a2 8 then nm (uI σ 22 a2.toNatClampNeg (σ.1 22 (a2 + 1).toNatClampNeg)) fun σ6 => nm (uI σ6 23 a2.toNatClampNeg ((σ6.1 23 (a2 + 1).toNatClampNeg) &&& 1)) fun σ7 => nm (uI σ7 24 a2.toNatClampNeg (σ7.1 24 (a2 + 1).toNatClampNeg)) fun σ8 => nm (uI σ8 25 a2.toNatClampNeg (σ8.1 25 (a2 + 1).toNatClampNeg)) fun σ9 => nm (uI σ9 26 a2.toNatClampNeg (σ9.1 26 (a2 + 1).toNatClampNeg)) fun σ10 => kc33 (a2 + 1) σ10 else none else none)
def f_mo_drop_c33 (N : Nat) : Nat → Int32 → Sg → Option (Int32 × Sg)
  | 0 => fun _ _ => none
  | n + 1 => f_mo_drop_c33_s N (f_mo_drop_c33 N n)
def f_mo_drop (N : Nat) (σ : Sg) (a1 : Int32) : Option (Int32 × Sg) := (f_mo_isStation σ a1).bind fun q1 => if q1 = 0 then (some (-100000002, σ)) else (nm (uI σ 20 2 ((σ.1 20 2) - 1)) fun σ2 => nm (uI σ2 20 10 ((σ2.1 20 10) + 1)) fun σ3 => f_mo_drop_c33 N N a1 σ3)
def rm_mo_drop : Room := { frames := 2, cells := 0, slots := 0, locals := 46 }
set_option maxHeartbeats 4000000 in
set_option maxRecDepth 100000 in
theorem c_mo_drop (N : Nat) (σ : Sg) (a1 : Int32) (z : Int32 × Sg) (hF : f_mo_drop N σ a1 = some z) : Ctr yX7_drop cX7_drop 3 (some .int) rm_mo_drop [.ref 20, .int a1] σ (some (.int z.1)) z.2 := by
  refine ct_start 7 (by decide) rfl (fun ad => Nat.le_of_ble_eq_true rfl) [(0, .ref 20), (1, .int a1)] (fun ad => rfl) ?_
  intro p l e s m args below meth c D ad tc A hC hA hr
  have Jc33 : ∀ (n : Nat) (a2 : Int32) (σ : Sg), f_mo_drop_c33 N n a2 σ = some z → AW p l e rm_mo_drop s m args below meth c D ad tc 3 A s.heap 0 0 (MQ below (Qr (some (.int z.1)) D ad tc z.2 A) args s 0 0 A) 33 [(0, .ref 20), (2, .int a2)] [] σ := by
    intro n
    induction n with
    | zero =>
      intro a2 σ hF
      cases hF
    | succ n ih =>
      intro a2 σ hF
      have hF : f_mo_drop_c33_s N (f_mo_drop_c33 N n) a2 σ = some z := hF
      unfold f_mo_drop_c33_s at hF
      refine aw_run (pc' := 38) hC [(.iload_n 2, 1, 0, 0, .null), (.aload_n 0, 1, 0, 0, .null), (.getfield 98, 3, 7, 2, .null)] (by decide +kernel) [(0, .ref 20), (2, .int a2)] [.int (σ.1 20 2), .int a2] σ rfl rfl ⟨trivial, trivial, trivial, trivial⟩ rfl ?_
      refine aw_icmp_ge (off := 79) hC 117 (by decide +kernel) (by decide) (fun h => ?_) (fun h => ?_)
      · have hF := (if_pos h).symm.trans hF
        refine aw_run (pc' := 121) hC [(.aload_n 0, 1, 0, 0, .null), (.getfield 98, 3, 7, 2, .null)] (by decide +kernel) [(0, .ref 20), (2, .int a2)] [.int (σ.1 20 2)] σ rfl rfl ⟨trivial, trivial, trivial⟩ rfl ?_
        exact aw_iret hC hr (by decide +kernel) (pS1 hF) (pS2 hF)
      · have hF := (if_neg h).symm.trans hF
        obtain ⟨g4, hF⟩ := gd hF
        obtain ⟨g5, hF⟩ := gd hF
        obtain ⟨σ6, hσ6, hF⟩ := nmd hF
        refine aw_run (pc' := 55) hC [(.aload_n 0, 1, 0, 0, .null), (.getfield 13, 3, 7, 3, .null), (.iload_n 2, 1, 0, 0, .null), (.aload_n 0, 1, 0, 0, .null), (.getfield 13, 3, 7, 3, .null), (.iload_n 2, 1, 0, 0, .null), (.iconst 1, 1, 0, 0, .int 1), (.iadd, 1, 0, 0, .null), (.iaload, 1, 0, 0, .null), (.iastore, 1, 0, 0, .null)] (by decide +kernel) [(0, .ref 20), (2, .int a2)] [] (uI σ 22 a2.toNatClampNeg (σ.1 22 (a2 + 1).toNatClampNeg)) rfl rfl ⟨trivial, trivial, trivial, trivial, trivial, trivial, trivial, trivial, g4, g5, trivial⟩ hσ6 ?_
        obtain ⟨σ7, hσ7, hF⟩ := nmd hF
        refine aw_run (pc' := 69) hC [(.aload_n 0, 1, 0, 0, .null), (.getfield 16, 3, 7, 4, .null), (.iload_n 2, 1, 0, 0, .null), (.aload_n 0, 1, 0, 0, .null), (.getfield 16, 3, 7, 4, .null), (.iload_n 2, 1, 0, 0, .null), (.iconst 1, 1, 0, 0, .int 1), (.iadd, 1, 0, 0, .null), (.baload, 1, 0, 0, .null), (.bastore, 1, 0, 0, .null)] (by decide +kernel) [(0, .ref 20), (2, .int a2)] [] (uI σ6 23 a2.toNatClampNeg ((σ6.1 23 (a2 + 1).toNatClampNeg) &&& 1)) rfl rfl ⟨trivial, trivial, trivial, trivial, trivial, trivial, trivial, trivial, g4, g5, trivial⟩ hσ7 ?_
        obtain ⟨σ8, hσ8, hF⟩ := nmd hF
        refine aw_run (pc' := 83) hC [(.aload_n 0, 1, 0, 0, .null), (.getfield 20, 3, 7, 5, .null), (.iload_n 2, 1, 0, 0, .null), (.aload_n 0, 1, 0, 0, .null), (.getfield 20, 3, 7, 5, .null), (.iload_n 2, 1, 0, 0, .null), (.iconst 1, 1, 0, 0, .int 1), (.iadd, 1, 0, 0, .null), (.iaload, 1, 0, 0, .null), (.iastore, 1, 0, 0, .null)] (by decide +kernel) [(0, .ref 20), (2, .int a2)] [] (uI σ7 24 a2.toNatClampNeg (σ7.1 24 (a2 + 1).toNatClampNeg)) rfl rfl ⟨trivial, trivial, trivial, trivial, trivial, trivial, trivial, trivial, g4, g5, trivial⟩ hσ8 ?_
        obtain ⟨σ9, hσ9, hF⟩ := nmd hF
        refine aw_run (pc' := 97) hC [(.aload_n 0, 1, 0, 0, .null), (.getfield 23, 3, 7, 6, .null), (.iload_n 2, 1, 0, 0, .null), (.aload_n 0, 1, 0, 0, .null), (.getfield 23, 3, 7, 6, .null), (.iload_n 2, 1, 0, 0, .null), (.iconst 1, 1, 0, 0, .int 1), (.iadd, 1, 0, 0, .null), (.iaload, 1, 0, 0, .null), (.iastore, 1, 0, 0, .null)] (by decide +kernel) [(0, .ref 20), (2, .int a2)] [] (uI σ8 25 a2.toNatClampNeg (σ8.1 25 (a2 + 1).toNatClampNeg)) rfl rfl ⟨trivial, trivial, trivial, trivial, trivial, trivial, trivial, trivial, g4, g5, trivial⟩ hσ9 ?_
        obtain ⟨σ10, hσ10, hF⟩ := nmd hF
        refine aw_run (pc' := 111) hC [(.aload_n 0, 1, 0, 0, .null), (.getfield 26, 3, 7, 7, .null), (.iload_n 2, 1, 0, 0, .null), (.aload_n 0, 1, 0, 0, .null), (.getfield 26, 3, 7, 7, .null), (.iload_n 2, 1, 0, 0, .null), (.iconst 1, 1, 0, 0, .int 1), (.iadd, 1, 0, 0, .null), (.iaload, 1, 0, 0, .null), (.iastore, 1, 0, 0, .null)] (by decide +kernel) [(0, .ref 20), (2, .int a2)] [] (uI σ9 26 a2.toNatClampNeg (σ9.1 26 (a2 + 1).toNatClampNeg)) rfl rfl ⟨trivial, trivial, trivial, trivial, trivial, trivial, trivial, trivial, g4, g5, trivial⟩ hσ10 ?_
        refine aw_run (pc' := 114) hC [(.iinc 2 1, 3, 0, 0, .int 1)] (by decide +kernel) [(0, .ref 20), (2, .int (a2 + 1))] [] σ10 rfl rfl ⟨trivial, trivial⟩ rfl ?_
        refine aw_goto (off := -81) hC 33 (by decide +kernel) (by decide) ?_
        exact ih (a2 + 1) σ10 hF
  unfold f_mo_drop at hF
  refine aw_run (pc' := 2) hC [(.aload_n 0, 1, 0, 0, .null), (.iload_n 1, 1, 0, 0, .null)] (by decide +kernel) [(0, .ref 20), (1, .int a1)] [.int a1, .ref 20] σ rfl rfl ⟨trivial, trivial, trivial⟩ rfl ?_
  obtain ⟨q1, eq1, hF⟩ := bd hF
  refine aw_callV hC hA (rest := []) (c_mo_isStation σ a1 q1 eq1) mt_X7_isStation ln_7_109 (by decide +kernel) ⟨_, rfl⟩ rfl rfl (Nat.le_of_ble_eq_true rfl) ⟨⟨rfl, rfl⟩, Nat.le_of_ble_eq_true rfl, Nat.le_of_ble_eq_true rfl⟩ ⟨Nat.zero_le _, Nat.zero_le _⟩ rfl ?_
  refine aw_if_ne (off := 6) hC 11 Iff.rfl (by decide +kernel) (by decide) (fun h => ?_) (fun h => ?_)
  · have hF := (if_neg h).symm.trans hF
    obtain ⟨σ2, hσ2, hF⟩ := nmd hF
    refine aw_run (pc' := 21) hC [(.aload_n 0, 1, 0, 0, .null), (.dup, 1, 0, 0, .null), (.getfield 98, 3, 7, 2, .null), (.iconst 1, 1, 0, 0, .int 1), (.isub, 1, 0, 0, .null), (.putfield 98, 3, 7, 2, .null)] (by decide +kernel) [(0, .ref 20), (1, .int a1)] [] (uI σ 20 2 ((σ.1 20 2) - 1)) rfl rfl ⟨trivial, trivial, trivial, trivial, trivial, trivial, trivial⟩ hσ2 ?_
    obtain ⟨σ3, hσ3, hF⟩ := nmd hF
    refine aw_run (pc' := 31) hC [(.aload_n 0, 1, 0, 0, .null), (.dup, 1, 0, 0, .null), (.getfield 113, 3, 7, 10, .null), (.iconst 1, 1, 0, 0, .int 1), (.iadd, 1, 0, 0, .null), (.putfield 113, 3, 7, 10, .null)] (by decide +kernel) [(0, .ref 20), (1, .int a1)] [] (uI σ2 20 10 ((σ2.1 20 10) + 1)) rfl rfl ⟨trivial, trivial, trivial, trivial, trivial, trivial, trivial⟩ hσ3 ?_
    refine aw_run (pc' := 33) hC [(.iload_n 1, 1, 0, 0, .null), (.istore_n 2, 1, 0, 0, .null)] (by decide +kernel) [(0, .ref 20), (1, .int a1), (2, .int a1)] [] σ3 rfl rfl ⟨trivial, trivial, trivial⟩ rfl ?_
    refine aw_pick [0, 2] [(0, .ref 20), (2, .int a1)] rfl ?_
    exact Jc33 N a1 σ3 hF
  · have hF := (if_pos h).symm.trans hF
    refine aw_run (pc' := 10) hC [(.ldc 112, 2, 0, 0, .int (-100000002))] (by decide +kernel) [(0, .ref 20), (1, .int a1)] [.int (-100000002)] σ rfl rfl ⟨trivial, trivial⟩ rfl ?_
    exact aw_iret hC hr (by decide +kernel) (pS1 hF) (pS2 hF)
def f_mo_error (σ : Sg) (a1 : Int32) (a2 : Int32) : Option (Int32 × Sg) := (f_mo_isStation σ a1).bind fun q1 => if q1 = 0 then (some (-100000002, σ)) else (if (f_mo_within a2.toInt64 0 20) = 0 then (some (-100000003, σ)) else (if ib a1 8 then if (σ.1 23 a1.toNatClampNeg) = 0 then (if ((σ.1 24 a1.toNatClampNeg) + (2 * a2)) < (σ.1 25 a1.toNatClampNeg) then (nm (uI σ 26 a1.toNatClampNeg a2) fun σ3 => some (σ.1 26 a1.toNatClampNeg, σ3)) else (some (-100000004, σ))) else (some (-100000004, σ)) else none))
def rm_mo_error : Room := { frames := 2, cells := 0, slots := 0, locals := 46 }
set_option maxHeartbeats 4000000 in
set_option maxRecDepth 100000 in
theorem c_mo_error (σ : Sg) (a1 : Int32) (a2 : Int32) (z : Int32 × Sg) (hF : f_mo_error σ a1 a2 = some z) : Ctr yX7_error cX7_error 4 (some .int) rm_mo_error [.ref 20, .int a1, .int a2] σ (some (.int z.1)) z.2 := by
  refine ct_start 7 (by decide) rfl (fun ad => Nat.le_of_ble_eq_true rfl) [(0, .ref 20), (1, .int a1), (2, .int a2)] (fun ad => rfl) ?_
  intro p l e s m args below meth c D ad tc A hC hA hr
  unfold f_mo_error at hF
  refine aw_run (pc' := 2) hC [(.aload_n 0, 1, 0, 0, .null), (.iload_n 1, 1, 0, 0, .null)] (by decide +kernel) [(0, .ref 20), (1, .int a1), (2, .int a2)] [.int a1, .ref 20] σ rfl rfl ⟨trivial, trivial, trivial⟩ rfl ?_
  obtain ⟨q1, eq1, hF⟩ := bd hF
  refine aw_callV hC hA (rest := []) (c_mo_isStation σ a1 q1 eq1) mt_X7_isStation ln_7_109 (by decide +kernel) ⟨_, rfl⟩ rfl rfl (Nat.le_of_ble_eq_true rfl) ⟨⟨rfl, rfl⟩, Nat.le_of_ble_eq_true rfl, Nat.le_of_ble_eq_true rfl⟩ ⟨Nat.zero_le _, Nat.zero_le _⟩ rfl ?_
  refine aw_if_ne (off := 6) hC 11 Iff.rfl (by decide +kernel) (by decide) (fun h => ?_) (fun h => ?_)
  · have hF := (if_neg h).symm.trans hF
    refine aw_run (pc' := 17) hC [(.iload_n 2, 1, 0, 0, .null), (.i2l, 1, 0, 0, .null), (.lconst 0, 1, 0, 0, .long 0), (.ldc2_w 116, 3, 0, 0, .long 20)] (by decide +kernel) [(0, .ref 20), (1, .int a1), (2, .int a2)] [.long 20, .long 0, .long a2.toInt64] σ rfl rfl ⟨trivial, trivial, trivial, trivial, trivial⟩ rfl ?_
    refine aw_callS hC hA (rest := []) (c_mo_within σ a2.toInt64 0 20 _ rfl) mt_X7_within ln_7_50 (by decide +kernel) rfl rfl (Nat.le_of_ble_eq_true rfl) ⟨⟨rfl, rfl⟩, Nat.le_of_ble_eq_true rfl, Nat.le_of_ble_eq_true rfl⟩ ⟨Nat.zero_le _, Nat.zero_le _⟩ rfl ?_
    refine aw_if_ne (off := 6) hC 26 Iff.rfl (by decide +kernel) (by decide) (fun h => ?_) (fun h => ?_)
    · have hF := (if_neg h).symm.trans hF
      obtain ⟨g2, hF⟩ := gd hF
      refine aw_run (pc' := 32) hC [(.aload_n 0, 1, 0, 0, .null), (.getfield 16, 3, 7, 4, .null), (.iload_n 1, 1, 0, 0, .null), (.baload, 1, 0, 0, .null)] (by decide +kernel) [(0, .ref 20), (1, .int a1), (2, .int a2)] [.int (σ.1 23 a1.toNatClampNeg)] σ rfl rfl ⟨trivial, trivial, trivial, g2, trivial⟩ rfl ?_
      refine aw_if_ne (off := 22) hC 54 Iff.rfl (by decide +kernel) (by decide) (fun h => ?_) (fun h => ?_)
      · have hF := (if_neg h).symm.trans hF
        refine aw_run (pc' := 56) hC [(.ldc 105, 2, 0, 0, .int (-100000004))] (by decide +kernel) [(0, .ref 20), (1, .int a1), (2, .int a2)] [.int (-100000004)] σ rfl rfl ⟨trivial, trivial⟩ rfl ?_
        exact aw_iret hC hr (by decide +kernel) (pS1 hF) (pS2 hF)
      · have hF := (if_pos h).symm.trans hF
        refine aw_run (pc' := 51) hC [(.aload_n 0, 1, 0, 0, .null), (.getfield 23, 3, 7, 6, .null), (.iload_n 1, 1, 0, 0, .null), (.iaload, 1, 0, 0, .null), (.aload_n 0, 1, 0, 0, .null), (.getfield 20, 3, 7, 5, .null), (.iload_n 1, 1, 0, 0, .null), (.iaload, 1, 0, 0, .null), (.iconst 2, 1, 0, 0, .int 2), (.iload_n 2, 1, 0, 0, .null), (.imul, 1, 0, 0, .null), (.iadd, 1, 0, 0, .null)] (by decide +kernel) [(0, .ref 20), (1, .int a1), (2, .int a2)] [.int ((σ.1 24 a1.toNatClampNeg) + (2 * a2)), .int (σ.1 25 a1.toNatClampNeg)] σ rfl rfl ⟨trivial, trivial, trivial, g2, trivial, trivial, trivial, g2, trivial, trivial, trivial, trivial, trivial⟩ rfl ?_
        refine aw_icmp_gt (off := 6) hC 57 (by decide +kernel) (by decide) (fun h => ?_) (fun h => ?_)
        · have hF := (if_pos h).symm.trans hF
          obtain ⟨σ3, hσ3, hF⟩ := nmd hF
          refine aw_run (pc' := 71) hC [(.aload_n 0, 1, 0, 0, .null), (.getfield 26, 3, 7, 7, .null), (.iload_n 1, 1, 0, 0, .null), (.iaload, 1, 0, 0, .null), (.istore_n 3, 1, 0, 0, .null), (.aload_n 0, 1, 0, 0, .null), (.getfield 26, 3, 7, 7, .null), (.iload_n 1, 1, 0, 0, .null), (.iload_n 2, 1, 0, 0, .null), (.iastore, 1, 0, 0, .null)] (by decide +kernel) [(0, .ref 20), (1, .int a1), (2, .int a2), (3, .int (σ.1 26 a1.toNatClampNeg))] [] (uI σ 26 a1.toNatClampNeg a2) rfl rfl ⟨trivial, trivial, trivial, g2, trivial, trivial, trivial, trivial, trivial, g2, trivial⟩ hσ3 ?_
          refine aw_run (pc' := 72) hC [(.iload_n 3, 1, 0, 0, .null)] (by decide +kernel) [(0, .ref 20), (1, .int a1), (2, .int a2), (3, .int (σ.1 26 a1.toNatClampNeg))] [.int (σ.1 26 a1.toNatClampNeg)] σ3 rfl rfl ⟨trivial, trivial⟩ rfl ?_
          exact aw_iret hC hr (by decide +kernel) (pS1 hF) (pS2 hF)
        · have hF := (if_neg h).symm.trans hF
          refine aw_run (pc' := 56) hC [(.ldc 105, 2, 0, 0, .int (-100000004))] (by decide +kernel) [(0, .ref 20), (1, .int a1), (2, .int a2)] [.int (-100000004)] σ rfl rfl ⟨trivial, trivial⟩ rfl ?_
          exact aw_iret hC hr (by decide +kernel) (pS1 hF) (pS2 hF)
    · have hF := (if_pos h).symm.trans hF
      refine aw_run (pc' := 25) hC [(.ldc 54, 2, 0, 0, .int (-100000003))] (by decide +kernel) [(0, .ref 20), (1, .int a1), (2, .int a2)] [.int (-100000003)] σ rfl rfl ⟨trivial, trivial⟩ rfl ?_
      exact aw_iret hC hr (by decide +kernel) (pS1 hF) (pS2 hF)
  · have hF := (if_pos h).symm.trans hF
    refine aw_run (pc' := 10) hC [(.ldc 112, 2, 0, 0, .int (-100000002))] (by decide +kernel) [(0, .ref 20), (1, .int a1), (2, .int a2)] [.int (-100000002)] σ rfl rfl ⟨trivial, trivial⟩ rfl ?_
    exact aw_iret hC hr (by decide +kernel) (pS1 hF) (pS2 hF)
def f_mo_speed (σ : Sg) (a1 : Int32) : Int32 × Sg := if (f_mo_within a1.toInt64 1 20) = 0 then ((-100000003, σ)) else (nm (uI σ 20 8 a1) fun σ1 => (σ.1 20 8, σ1))
def rm_mo_speed : Room := { frames := 1, cells := 0, slots := 0, locals := 25 }
set_option maxHeartbeats 4000000 in
set_option maxRecDepth 100000 in
theorem c_mo_speed (σ : Sg) (a1 : Int32) (z : Int32 × Sg) (hF : f_mo_speed σ a1 = z) : Ctr yX7_speed cX7_speed 3 (some .int) rm_mo_speed [.ref 20, .int a1] σ (some (.int z.1)) z.2 := by
  refine ct_start 7 (by decide) rfl (fun ad => Nat.le_of_ble_eq_true rfl) [(0, .ref 20), (1, .int a1)] (fun ad => rfl) ?_
  intro p l e s m args below meth c D ad tc A hC hA hr
  unfold f_mo_speed at hF
  refine aw_run (pc' := 6) hC [(.iload_n 1, 1, 0, 0, .null), (.i2l, 1, 0, 0, .null), (.lconst 1, 1, 0, 0, .long 1), (.ldc2_w 116, 3, 0, 0, .long 20)] (by decide +kernel) [(0, .ref 20), (1, .int a1)] [.long 20, .long 1, .long a1.toInt64] σ rfl rfl ⟨trivial, trivial, trivial, trivial, trivial⟩ rfl ?_
  refine aw_callS hC hA (rest := []) (c_mo_within σ a1.toInt64 1 20 _ rfl) mt_X7_within ln_7_50 (by decide +kernel) rfl rfl (Nat.le_of_ble_eq_true rfl) ⟨⟨rfl, rfl⟩, Nat.le_of_ble_eq_true rfl, Nat.le_of_ble_eq_true rfl⟩ ⟨Nat.zero_le _, Nat.zero_le _⟩ rfl ?_
  refine aw_if_ne (off := 6) hC 15 Iff.rfl (by decide +kernel) (by decide) (fun h => ?_) (fun h => ?_)
  · have hF := (if_neg h).symm.trans hF
    obtain ⟨σ1, hσ1, hF⟩ := nmd hF
    refine aw_run (pc' := 25) hC [(.aload_n 0, 1, 0, 0, .null), (.getfield 29, 3, 7, 8, .null), (.istore_n 2, 1, 0, 0, .null), (.aload_n 0, 1, 0, 0, .null), (.iload_n 1, 1, 0, 0, .null), (.putfield 29, 3, 7, 8, .null)] (by decide +kernel) [(0, .ref 20), (1, .int a1), (2, .int (σ.1 20 8))] [] (uI σ 20 8 a1) rfl rfl ⟨trivial, trivial, trivial, trivial, trivial, trivial, trivial⟩ hσ1 ?_
    refine aw_run (pc' := 26) hC [(.iload_n 2, 1, 0, 0, .null)] (by decide +kernel) [(0, .ref 20), (1, .int a1), (2, .int (σ.1 20 8))] [.int (σ.1 20 8)] σ1 rfl rfl ⟨trivial, trivial⟩ rfl ?_
    exact aw_iret hC hr (by decide +kernel) (pT1 hF) (pT2 hF)
  · have hF := (if_pos h).symm.trans hF
    refine aw_run (pc' := 14) hC [(.ldc 54, 2, 0, 0, .int (-100000003))] (by decide +kernel) [(0, .ref 20), (1, .int a1)] [.int (-100000003)] σ rfl rfl ⟨trivial, trivial⟩ rfl ?_
    exact aw_iret hC hr (by decide +kernel) (pT1 hF) (pT2 hF)
def f_mo_bound_c20 (a1 : Int32) (a2 : Int32) (t0 : Int32) (σ : Sg) : Option Int32 := if (a2 - a2 / 2 * 2) = 0 then (if ib a1 8 then some ((σ.1 20 8) * (t0 - (σ.1 26 a1.toNatClampNeg))) else none) else (if ib a1 8 then some ((σ.1 20 8) * (t0 + (σ.1 26 a1.toNatClampNeg))) else none)
def f_mo_bound (σ : Sg) (a1 : Int32) (a2 : Int32) : Option Int32 := if (2 : Int32) ≤ a2 then (if ib a1 8 then f_mo_bound_c20 a1 a2 (σ.1 25 a1.toNatClampNeg) σ else none) else (if ib a1 8 then f_mo_bound_c20 a1 a2 (σ.1 24 a1.toNatClampNeg) σ else none)
def rm_mo_bound : Room := { frames := 0, cells := 0, slots := 0, locals := 0 }
set_option maxHeartbeats 4000000 in
set_option maxRecDepth 100000 in
theorem c_mo_bound (σ : Sg) (a1 : Int32) (a2 : Int32) (z : Int32) (hF : f_mo_bound σ a1 a2 = some z) : Ctr yX7_bound cX7_bound 4 (some .int) rm_mo_bound [.ref 20, .int a1, .int a2] σ (some (.int z)) σ := by
  refine ct_start 7 (by decide) rfl (fun ad => Nat.le_of_ble_eq_true rfl) [(0, .ref 20), (1, .int a1), (2, .int a2)] (fun ad => rfl) ?_
  intro p l e s m args below meth c D ad tc A hC hA hr
  have Jc20 : ∀ (a1 : Int32) (a2 : Int32) (t0 : Int32), f_mo_bound_c20 a1 a2 t0 σ = some z → AW p l e rm_mo_bound s m args below meth c D ad tc 4 A s.heap 0 0 (MQ below (Qr (some (.int z)) D ad tc σ A) args s 0 0 A) 20 [(0, .ref 20), (1, .int a1), (2, .int a2)] [.int t0] σ := by
    intro a1 a2 t0 hF
    unfold f_mo_bound_c20 at hF
    refine aw_run (pc' := 28) hC [(.istore_n 3, 1, 0, 0, .null), (.aload_n 0, 1, 0, 0, .null), (.getfield 29, 3, 7, 8, .null), (.iload_n 2, 1, 0, 0, .null), (.iconst 2, 1, 0, 0, .int 2), (.irem, 1, 0, 0, .null)] (by decide +kernel) [(0, .ref 20), (1, .int a1), (2, .int a2), (3, .int t0)] [.int (a2 - a2 / 2 * 2), .int (σ.1 20 8)] σ rfl rfl ⟨trivial, trivial, trivial, trivial, trivial, (show ¬ ((2 : Int32) = 0) by decide), trivial⟩ rfl ?_
    refine aw_if_ne (off := 14) hC 42 Iff.rfl (by decide +kernel) (by decide) (fun h => ?_) (fun h => ?_)
    · have hF := (if_neg h).symm.trans hF
      obtain ⟨g2, hF⟩ := gd hF
      refine aw_run (pc' := 51) hC [(.iload_n 3, 1, 0, 0, .null), (.aload_n 0, 1, 0, 0, .null), (.getfield 26, 3, 7, 7, .null), (.iload_n 1, 1, 0, 0, .null), (.iaload, 1, 0, 0, .null), (.iadd, 1, 0, 0, .null), (.imul, 1, 0, 0, .null)] (by decide +kernel) [(0, .ref 20), (1, .int a1), (2, .int a2), (3, .int t0)] [.int ((σ.1 20 8) * (t0 + (σ.1 26 a1.toNatClampNeg)))] σ rfl rfl ⟨trivial, trivial, trivial, trivial, g2, trivial, trivial, trivial⟩ rfl ?_
      exact aw_iret hC hr (by decide +kernel) (Option.some.inj hF) rfl
    · have hF := (if_pos h).symm.trans hF
      obtain ⟨g3, hF⟩ := gd hF
      refine aw_run (pc' := 39) hC [(.iload_n 3, 1, 0, 0, .null), (.aload_n 0, 1, 0, 0, .null), (.getfield 26, 3, 7, 7, .null), (.iload_n 1, 1, 0, 0, .null), (.iaload, 1, 0, 0, .null), (.isub, 1, 0, 0, .null)] (by decide +kernel) [(0, .ref 20), (1, .int a1), (2, .int a2), (3, .int t0)] [.int (t0 - (σ.1 26 a1.toNatClampNeg)), .int (σ.1 20 8)] σ rfl rfl ⟨trivial, trivial, trivial, trivial, g3, trivial, trivial⟩ rfl ?_
      refine aw_goto (off := 11) hC 50 (by decide +kernel) (by decide) ?_
      refine aw_run (pc' := 51) hC [(.imul, 1, 0, 0, .null)] (by decide +kernel) [(0, .ref 20), (1, .int a1), (2, .int a2), (3, .int t0)] [.int ((σ.1 20 8) * (t0 - (σ.1 26 a1.toNatClampNeg)))] σ rfl rfl ⟨trivial, trivial⟩ rfl ?_
      exact aw_iret hC hr (by decide +kernel) (Option.some.inj hF) rfl
  unfold f_mo_bound at hF
  refine aw_run (pc' := 2) hC [(.iload_n 2, 1, 0, 0, .null), (.iconst 2, 1, 0, 0, .int 2)] (by decide +kernel) [(0, .ref 20), (1, .int a1), (2, .int a2)] [.int 2, .int a2] σ rfl rfl ⟨trivial, trivial, trivial⟩ rfl ?_
  refine aw_icmp_ge (off := 12) hC 14 (by decide +kernel) (by decide) (fun h => ?_) (fun h => ?_)
  · have hF := (if_pos h).symm.trans hF
    obtain ⟨g1, hF⟩ := gd hF
    refine aw_run (pc' := 20) hC [(.aload_n 0, 1, 0, 0, .null), (.getfield 23, 3, 7, 6, .null), (.iload_n 1, 1, 0, 0, .null), (.iaload, 1, 0, 0, .null)] (by decide +kernel) [(0, .ref 20), (1, .int a1), (2, .int a2)] [.int (σ.1 25 a1.toNatClampNeg)] σ rfl rfl ⟨trivial, trivial, trivial, g1, trivial⟩ rfl ?_
    exact Jc20 a1 a2 (σ.1 25 a1.toNatClampNeg) hF
  · have hF := (if_neg h).symm.trans hF
    obtain ⟨g4, hF⟩ := gd hF
    refine aw_run (pc' := 11) hC [(.aload_n 0, 1, 0, 0, .null), (.getfield 20, 3, 7, 5, .null), (.iload_n 1, 1, 0, 0, .null), (.iaload, 1, 0, 0, .null)] (by decide +kernel) [(0, .ref 20), (1, .int a1), (2, .int a2)] [.int (σ.1 24 a1.toNatClampNeg)] σ rfl rfl ⟨trivial, trivial, trivial, g4, trivial⟩ rfl ?_
    refine aw_goto (off := 9) hC 20 (by decide +kernel) (by decide) ?_
    exact Jc20 a1 a2 (σ.1 24 a1.toNatClampNeg) hF
def f_mo_stationNow (σ : Sg) (a1 : Int32) (a2 : Int32) : Option Int32 := if a2 = 0 then (if ib a1 8 then some (σ.1 22 a1.toNatClampNeg) else none) else (if a2 = 1 then (if ib a1 8 then if (σ.1 23 a1.toNatClampNeg) = 0 then (some 0) else (some 1) else none) else (if ib a1 8 then if (σ.1 23 a1.toNatClampNeg) = 0 then (if a2 = 2 then (some (σ.1 24 a1.toNatClampNeg)) else (if a2 = 3 then (some (σ.1 25 a1.toNatClampNeg)) else (if a2 = 4 then (some (σ.1 26 a1.toNatClampNeg)) else ((f_mo_bound σ a1 (a2 - 5)).bind fun q2 => some q2)))) else (some (-100000001)) else none))
def rm_mo_stationNow : Room := { frames := 1, cells := 0, slots := 0, locals := 23 }
set_option maxHeartbeats 4000000 in
set_option maxRecDepth 100000 in
theorem c_mo_stationNow (σ : Sg) (a1 : Int32) (a2 : Int32) (z : Int32) (hF : f_mo_stationNow σ a1 a2 = some z) : Ctr yX7_stationNow cX7_stationNow 3 (some .int) rm_mo_stationNow [.ref 20, .int a1, .int a2] σ (some (.int z)) σ := by
  refine ct_start 7 (by decide) rfl (fun ad => Nat.le_of_ble_eq_true rfl) [(0, .ref 20), (1, .int a1), (2, .int a2)] (fun ad => rfl) ?_
  intro p l e s m args below meth c D ad tc A hC hA hr
  unfold f_mo_stationNow at hF
  refine aw_run (pc' := 1) hC [(.iload_n 2, 1, 0, 0, .null)] (by decide +kernel) [(0, .ref 20), (1, .int a1), (2, .int a2)] [.int a2] σ rfl rfl ⟨trivial, trivial⟩ rfl ?_
  refine aw_if_ne (off := 10) hC 11 Iff.rfl (by decide +kernel) (by decide) (fun h => ?_) (fun h => ?_)
  · have hF := (if_neg h).symm.trans hF
    refine aw_run (pc' := 13) hC [(.iload_n 2, 1, 0, 0, .null), (.iconst 1, 1, 0, 0, .int 1)] (by decide +kernel) [(0, .ref 20), (1, .int a1), (2, .int a2)] [.int 1, .int a2] σ rfl rfl ⟨trivial, trivial, trivial⟩ rfl ?_
    refine aw_icmp_ne (off := 18) hC 31 (by decide +kernel) (by decide) (fun h => ?_) (fun h => ?_)
    · have hF := (if_neg h).symm.trans hF
      obtain ⟨g1, hF⟩ := gd hF
      refine aw_run (pc' := 37) hC [(.aload_n 0, 1, 0, 0, .null), (.getfield 16, 3, 7, 4, .null), (.iload_n 1, 1, 0, 0, .null), (.baload, 1, 0, 0, .null)] (by decide +kernel) [(0, .ref 20), (1, .int a1), (2, .int a2)] [.int (σ.1 23 a1.toNatClampNeg)] σ rfl rfl ⟨trivial, trivial, trivial, g1, trivial⟩ rfl ?_
      refine aw_if_eq (off := 6) hC 43 Iff.rfl (by decide +kernel) (by decide) (fun h => ?_) (fun h => ?_)
      · have hF := (if_pos h).symm.trans hF
        refine aw_run (pc' := 45) hC [(.iload_n 2, 1, 0, 0, .null), (.iconst 2, 1, 0, 0, .int 2)] (by decide +kernel) [(0, .ref 20), (1, .int a1), (2, .int a2)] [.int 2, .int a2] σ rfl rfl ⟨trivial, trivial, trivial⟩ rfl ?_
        refine aw_icmp_ne (off := 12) hC 57 (by decide +kernel) (by decide) (fun h => ?_) (fun h => ?_)
        · have hF := (if_neg h).symm.trans hF
          refine aw_run (pc' := 59) hC [(.iload_n 2, 1, 0, 0, .null), (.iconst 3, 1, 0, 0, .int 3)] (by decide +kernel) [(0, .ref 20), (1, .int a1), (2, .int a2)] [.int 3, .int a2] σ rfl rfl ⟨trivial, trivial, trivial⟩ rfl ?_
          refine aw_icmp_ne (off := 12) hC 71 (by decide +kernel) (by decide) (fun h => ?_) (fun h => ?_)
          · have hF := (if_neg h).symm.trans hF
            refine aw_run (pc' := 73) hC [(.iload_n 2, 1, 0, 0, .null), (.iconst 4, 1, 0, 0, .int 4)] (by decide +kernel) [(0, .ref 20), (1, .int a1), (2, .int a2)] [.int 4, .int a2] σ rfl rfl ⟨trivial, trivial, trivial⟩ rfl ?_
            refine aw_icmp_ne (off := 12) hC 85 (by decide +kernel) (by decide) (fun h => ?_) (fun h => ?_)
            · have hF := (if_neg h).symm.trans hF
              refine aw_run (pc' := 90) hC [(.aload_n 0, 1, 0, 0, .null), (.iload_n 1, 1, 0, 0, .null), (.iload_n 2, 1, 0, 0, .null), (.iconst 5, 1, 0, 0, .int 5), (.isub, 1, 0, 0, .null)] (by decide +kernel) [(0, .ref 20), (1, .int a1), (2, .int a2)] [.int (a2 - 5), .int a1, .ref 20] σ rfl rfl ⟨trivial, trivial, trivial, trivial, trivial, trivial⟩ rfl ?_
              obtain ⟨q2, eq2, hF⟩ := bd hF
              refine aw_callV hC hA (rest := []) (c_mo_bound σ a1 (a2 - 5) q2 eq2) mt_X7_bound ln_7_118 (by decide +kernel) ⟨_, rfl⟩ rfl rfl (Nat.le_of_ble_eq_true rfl) ⟨⟨rfl, rfl⟩, Nat.le_of_ble_eq_true rfl, Nat.le_of_ble_eq_true rfl⟩ ⟨Nat.zero_le _, Nat.zero_le _⟩ rfl ?_
              exact aw_iret hC hr (by decide +kernel) (Option.some.inj hF) rfl
            · have hF := (if_pos h).symm.trans hF
              refine aw_run (pc' := 82) hC [(.aload_n 0, 1, 0, 0, .null), (.getfield 26, 3, 7, 7, .null), (.iload_n 1, 1, 0, 0, .null), (.iaload, 1, 0, 0, .null)] (by decide +kernel) [(0, .ref 20), (1, .int a1), (2, .int a2)] [.int (σ.1 26 a1.toNatClampNeg)] σ rfl rfl ⟨trivial, trivial, trivial, g1, trivial⟩ rfl ?_
              refine aw_goto (off := 11) hC 93 (by decide +kernel) (by decide) ?_
              exact aw_iret hC hr (by decide +kernel) (Option.some.inj hF) rfl
          · have hF := (if_pos h).symm.trans hF
            refine aw_run (pc' := 68) hC [(.aload_n 0, 1, 0, 0, .null), (.getfield 23, 3, 7, 6, .null), (.iload_n 1, 1, 0, 0, .null), (.iaload, 1, 0, 0, .null)] (by decide +kernel) [(0, .ref 20), (1, .int a1), (2, .int a2)] [.int (σ.1 25 a1.toNatClampNeg)] σ rfl rfl ⟨trivial, trivial, trivial, g1, trivial⟩ rfl ?_
            refine aw_goto (off := 25) hC 93 (by decide +kernel) (by decide) ?_
            exact aw_iret hC hr (by decide +kernel) (Option.some.inj hF) rfl
        · have hF := (if_pos h).symm.trans hF
          refine aw_run (pc' := 54) hC [(.aload_n 0, 1, 0, 0, .null), (.getfield 20, 3, 7, 5, .null), (.iload_n 1, 1, 0, 0, .null), (.iaload, 1, 0, 0, .null)] (by decide +kernel) [(0, .ref 20), (1, .int a1), (2, .int a2)] [.int (σ.1 24 a1.toNatClampNeg)] σ rfl rfl ⟨trivial, trivial, trivial, g1, trivial⟩ rfl ?_
          refine aw_goto (off := 39) hC 93 (by decide +kernel) (by decide) ?_
          exact aw_iret hC hr (by decide +kernel) (Option.some.inj hF) rfl
      · have hF := (if_neg h).symm.trans hF
        refine aw_run (pc' := 42) hC [(.ldc 97, 2, 0, 0, .int (-100000001))] (by decide +kernel) [(0, .ref 20), (1, .int a1), (2, .int a2)] [.int (-100000001)] σ rfl rfl ⟨trivial, trivial⟩ rfl ?_
        exact aw_iret hC hr (by decide +kernel) (Option.some.inj hF) rfl
    · have hF := (if_pos h).symm.trans hF
      obtain ⟨g3, hF⟩ := gd hF
      refine aw_run (pc' := 22) hC [(.aload_n 0, 1, 0, 0, .null), (.getfield 16, 3, 7, 4, .null), (.iload_n 1, 1, 0, 0, .null), (.baload, 1, 0, 0, .null)] (by decide +kernel) [(0, .ref 20), (1, .int a1), (2, .int a2)] [.int (σ.1 23 a1.toNatClampNeg)] σ rfl rfl ⟨trivial, trivial, trivial, g3, trivial⟩ rfl ?_
      refine aw_if_eq (off := 7) hC 29 Iff.rfl (by decide +kernel) (by decide) (fun h => ?_) (fun h => ?_)
      · have hF := (if_pos h).symm.trans hF
        refine aw_run (pc' := 30) hC [(.iconst 0, 1, 0, 0, .int 0)] (by decide +kernel) [(0, .ref 20), (1, .int a1), (2, .int a2)] [.int 0] σ rfl rfl ⟨trivial, trivial⟩ rfl ?_
        exact aw_iret hC hr (by decide +kernel) (Option.some.inj hF) rfl
      · have hF := (if_neg h).symm.trans hF
        refine aw_run (pc' := 26) hC [(.iconst 1, 1, 0, 0, .int 1)] (by decide +kernel) [(0, .ref 20), (1, .int a1), (2, .int a2)] [.int 1] σ rfl rfl ⟨trivial, trivial⟩ rfl ?_
        refine aw_goto (off := 4) hC 30 (by decide +kernel) (by decide) ?_
        exact aw_iret hC hr (by decide +kernel) (Option.some.inj hF) rfl
  · have hF := (if_pos h).symm.trans hF
    obtain ⟨g4, hF⟩ := gd hF
    refine aw_run (pc' := 10) hC [(.aload_n 0, 1, 0, 0, .null), (.getfield 13, 3, 7, 3, .null), (.iload_n 1, 1, 0, 0, .null), (.iaload, 1, 0, 0, .null)] (by decide +kernel) [(0, .ref 20), (1, .int a1), (2, .int a2)] [.int (σ.1 22 a1.toNatClampNeg)] σ rfl rfl ⟨trivial, trivial, trivial, g4, trivial⟩ rfl ?_
    exact aw_iret hC hr (by decide +kernel) (Option.some.inj hF) rfl
def f_mo_station (σ : Sg) (a1 : Int32) (a2 : Int32) : Option Int32 := (f_mo_isStation σ a1).bind fun q1 => if q1 = 0 then (some (-100000002)) else (if (f_mo_within a2.toInt64 0 8) = 0 then (some (-100000003)) else ((f_mo_stationNow σ a1 a2).bind fun q2 => some q2))
def rm_mo_station : Room := { frames := 2, cells := 0, slots := 0, locals := 46 }
set_option maxHeartbeats 4000000 in
set_option maxRecDepth 100000 in
theorem c_mo_station (σ : Sg) (a1 : Int32) (a2 : Int32) (z : Int32) (hF : f_mo_station σ a1 a2 = some z) : Ctr yX7_station cX7_station 3 (some .int) rm_mo_station [.ref 20, .int a1, .int a2] σ (some (.int z)) σ := by
  refine ct_start 7 (by decide) rfl (fun ad => Nat.le_of_ble_eq_true rfl) [(0, .ref 20), (1, .int a1), (2, .int a2)] (fun ad => rfl) ?_
  intro p l e s m args below meth c D ad tc A hC hA hr
  unfold f_mo_station at hF
  refine aw_run (pc' := 2) hC [(.aload_n 0, 1, 0, 0, .null), (.iload_n 1, 1, 0, 0, .null)] (by decide +kernel) [(0, .ref 20), (1, .int a1), (2, .int a2)] [.int a1, .ref 20] σ rfl rfl ⟨trivial, trivial, trivial⟩ rfl ?_
  obtain ⟨q1, eq1, hF⟩ := bd hF
  refine aw_callV hC hA (rest := []) (c_mo_isStation σ a1 q1 eq1) mt_X7_isStation ln_7_109 (by decide +kernel) ⟨_, rfl⟩ rfl rfl (Nat.le_of_ble_eq_true rfl) ⟨⟨rfl, rfl⟩, Nat.le_of_ble_eq_true rfl, Nat.le_of_ble_eq_true rfl⟩ ⟨Nat.zero_le _, Nat.zero_le _⟩ rfl ?_
  refine aw_if_ne (off := 6) hC 11 Iff.rfl (by decide +kernel) (by decide) (fun h => ?_) (fun h => ?_)
  · have hF := (if_neg h).symm.trans hF
    refine aw_run (pc' := 17) hC [(.iload_n 2, 1, 0, 0, .null), (.i2l, 1, 0, 0, .null), (.lconst 0, 1, 0, 0, .long 0), (.ldc2_w 122, 3, 0, 0, .long 8)] (by decide +kernel) [(0, .ref 20), (1, .int a1), (2, .int a2)] [.long 8, .long 0, .long a2.toInt64] σ rfl rfl ⟨trivial, trivial, trivial, trivial, trivial⟩ rfl ?_
    refine aw_callS hC hA (rest := []) (c_mo_within σ a2.toInt64 0 8 _ rfl) mt_X7_within ln_7_50 (by decide +kernel) rfl rfl (Nat.le_of_ble_eq_true rfl) ⟨⟨rfl, rfl⟩, Nat.le_of_ble_eq_true rfl, Nat.le_of_ble_eq_true rfl⟩ ⟨Nat.zero_le _, Nat.zero_le _⟩ rfl ?_
    refine aw_if_eq (off := 12) hC 32 Iff.rfl (by decide +kernel) (by decide) (fun h => ?_) (fun h => ?_)
    · have hF := (if_pos h).symm.trans hF
      refine aw_run (pc' := 34) hC [(.ldc 54, 2, 0, 0, .int (-100000003))] (by decide +kernel) [(0, .ref 20), (1, .int a1), (2, .int a2)] [.int (-100000003)] σ rfl rfl ⟨trivial, trivial⟩ rfl ?_
      exact aw_iret hC hr (by decide +kernel) (Option.some.inj hF) rfl
    · have hF := (if_neg h).symm.trans hF
      refine aw_run (pc' := 26) hC [(.aload_n 0, 1, 0, 0, .null), (.iload_n 1, 1, 0, 0, .null), (.iload_n 2, 1, 0, 0, .null)] (by decide +kernel) [(0, .ref 20), (1, .int a1), (2, .int a2)] [.int a2, .int a1, .ref 20] σ rfl rfl ⟨trivial, trivial, trivial, trivial⟩ rfl ?_
      obtain ⟨q2, eq2, hF⟩ := bd hF
      refine aw_callV hC hA (rest := []) (c_mo_stationNow σ a1 a2 q2 eq2) mt_X7_stationNow ln_7_124 (by decide +kernel) ⟨_, rfl⟩ rfl rfl (Nat.le_of_ble_eq_true rfl) ⟨⟨rfl, rfl⟩, Nat.le_of_ble_eq_true rfl, Nat.le_of_ble_eq_true rfl⟩ ⟨Nat.zero_le _, Nat.zero_le _⟩ rfl ?_
      refine aw_goto (off := 5) hC 34 (by decide +kernel) (by decide) ?_
      exact aw_iret hC hr (by decide +kernel) (Option.some.inj hF) rfl
  · have hF := (if_pos h).symm.trans hF
    refine aw_run (pc' := 10) hC [(.ldc 112, 2, 0, 0, .int (-100000002))] (by decide +kernel) [(0, .ref 20), (1, .int a1), (2, .int a2)] [.int (-100000002)] σ rfl rfl ⟨trivial, trivial⟩ rfl ?_
    exact aw_iret hC hr (by decide +kernel) (Option.some.inj hF) rfl
def f_mo_at (N : Nat) (σ : Sg) (a1 : Int32) : Option Int32 := if (f_mo_within a1.toInt64 (-200) 200) = 0 then (some (-100000003)) else ((f_mo_findStation N σ a1).bind fun q1 => some q1)
def rm_mo_at : Room := { frames := 1, cells := 0, slots := 0, locals := 25 }
set_option maxHeartbeats 4000000 in
set_option maxRecDepth 100000 in
theorem c_mo_at (N : Nat) (σ : Sg) (a1 : Int32) (z : Int32) (hF : f_mo_at N σ a1 = some z) : Ctr yX7_at cX7_at 2 (some .int) rm_mo_at [.ref 20, .int a1] σ (some (.int z)) σ := by
  refine ct_start 7 (by decide) rfl (fun ad => Nat.le_of_ble_eq_true rfl) [(0, .ref 20), (1, .int a1)] (fun ad => rfl) ?_
  intro p l e s m args below meth c D ad tc A hC hA hr
  unfold f_mo_at at hF
  refine aw_run (pc' := 8) hC [(.iload_n 1, 1, 0, 0, .null), (.i2l, 1, 0, 0, .null), (.ldc2_w 127, 3, 0, 0, .long (-200)), (.ldc2_w 129, 3, 0, 0, .long 200)] (by decide +kernel) [(0, .ref 20), (1, .int a1)] [.long 200, .long (-200), .long a1.toInt64] σ rfl rfl ⟨trivial, trivial, trivial, trivial, trivial⟩ rfl ?_
  refine aw_callS hC hA (rest := []) (c_mo_within σ a1.toInt64 (-200) 200 _ rfl) mt_X7_within ln_7_50 (by decide +kernel) rfl rfl (Nat.le_of_ble_eq_true rfl) ⟨⟨rfl, rfl⟩, Nat.le_of_ble_eq_true rfl, Nat.le_of_ble_eq_true rfl⟩ ⟨Nat.zero_le _, Nat.zero_le _⟩ rfl ?_
  refine aw_if_eq (off := 11) hC 22 Iff.rfl (by decide +kernel) (by decide) (fun h => ?_) (fun h => ?_)
  · have hF := (if_pos h).symm.trans hF
    refine aw_run (pc' := 24) hC [(.ldc 54, 2, 0, 0, .int (-100000003))] (by decide +kernel) [(0, .ref 20), (1, .int a1)] [.int (-100000003)] σ rfl rfl ⟨trivial, trivial⟩ rfl ?_
    exact aw_iret hC hr (by decide +kernel) (Option.some.inj hF) rfl
  · have hF := (if_neg h).symm.trans hF
    refine aw_run (pc' := 16) hC [(.aload_n 0, 1, 0, 0, .null), (.iload_n 1, 1, 0, 0, .null)] (by decide +kernel) [(0, .ref 20), (1, .int a1)] [.int a1, .ref 20] σ rfl rfl ⟨trivial, trivial, trivial⟩ rfl ?_
    obtain ⟨q1, eq1, hF⟩ := bd hF
    refine aw_callV hC hA (rest := []) (c_mo_findStation N σ a1 q1 eq1) mt_X7_findStation ln_7_93 (by decide +kernel) ⟨_, rfl⟩ rfl rfl (Nat.le_of_ble_eq_true rfl) ⟨⟨rfl, rfl⟩, Nat.le_of_ble_eq_true rfl, Nat.le_of_ble_eq_true rfl⟩ ⟨Nat.zero_le _, Nat.zero_le _⟩ rfl ?_
    refine aw_goto (off := 5) hC 24 (by decide +kernel) (by decide) ?_
    exact aw_iret hC hr (by decide +kernel) (Option.some.inj hF) rfl
def f_mo_all (σ : Sg) : Int32 := ((1 : Int32) <<< ((σ.1 20 2) &&& 31)) - 1
def rm_mo_all : Room := { frames := 0, cells := 0, slots := 0, locals := 0 }
set_option maxHeartbeats 4000000 in
set_option maxRecDepth 100000 in
theorem c_mo_all (σ : Sg) (z : Int32) (hF : f_mo_all σ = z) : Ctr yX7_all cX7_all 1 (some .int) rm_mo_all [.ref 20] σ (some (.int z)) σ := by
  refine ct_start 7 (by decide) rfl (fun ad => Nat.le_of_ble_eq_true rfl) [(0, .ref 20)] (fun ad => rfl) ?_
  intro p l e s m args below meth c D ad tc A hC hA hr
  unfold f_mo_all at hF
  refine aw_run (pc' := 8) hC [(.iconst 1, 1, 0, 0, .int 1), (.aload_n 0, 1, 0, 0, .null), (.getfield 98, 3, 7, 2, .null), (.ishl, 1, 0, 0, .null), (.iconst 1, 1, 0, 0, .int 1), (.isub, 1, 0, 0, .null)] (by decide +kernel) [(0, .ref 20)] [.int (((1 : Int32) <<< ((σ.1 20 2) &&& 31)) - 1)] σ rfl rfl ⟨trivial, trivial, trivial, trivial, trivial, trivial, trivial⟩ rfl ?_
  exact aw_iret hC hr (by decide +kernel) hF rfl
def f_mo_has (a0 : Int32) (a1 : Int32) : Int32 := if ((a0 >>> (a1 &&& 31)) &&& 1) = 1 then 1 else 0
def rm_mo_has : Room := { frames := 0, cells := 0, slots := 0, locals := 0 }
set_option maxHeartbeats 4000000 in
set_option maxRecDepth 100000 in
theorem c_mo_has (σ : Sg) (a0 : Int32) (a1 : Int32) (z : Int32) (hF : f_mo_has a0 a1 = z) : Ctr yX7_has cX7_has 2 (some .boolean) rm_mo_has [.int a0, .int a1] σ (some (.int z)) σ := by
  refine ct_start 7 (by decide) rfl (fun ad => Nat.le_of_ble_eq_true rfl) [(0, .int a0), (1, .int a1)] (fun ad => rfl) ?_
  intro p l e s m args below meth c D ad tc A hC hA hr
  unfold f_mo_has at hF
  refine aw_run (pc' := 6) hC [(.iload_n 0, 1, 0, 0, .null), (.iload_n 1, 1, 0, 0, .null), (.ishr, 1, 0, 0, .null), (.iconst 1, 1, 0, 0, .int 1), (.iand, 1, 0, 0, .null), (.iconst 1, 1, 0, 0, .int 1)] (by decide +kernel) [(0, .int a0), (1, .int a1)] [.int 1, .int ((a0 >>> (a1 &&& 31)) &&& 1)] σ rfl rfl ⟨trivial, trivial, trivial, trivial, trivial, trivial, trivial⟩ rfl ?_
  refine aw_icmp_ne (off := 7) hC 13 (by decide +kernel) (by decide) (fun h => ?_) (fun h => ?_)
  · have hF := (if_neg h).symm.trans hF
    refine aw_run (pc' := 14) hC [(.iconst 0, 1, 0, 0, .int 0)] (by decide +kernel) [(0, .int a0), (1, .int a1)] [.int 0] σ rfl rfl ⟨trivial, trivial⟩ rfl ?_
    exact aw_zret hC hr (Or.inl rfl) (by decide +kernel) hF rfl
  · have hF := (if_pos h).symm.trans hF
    refine aw_run (pc' := 10) hC [(.iconst 1, 1, 0, 0, .int 1)] (by decide +kernel) [(0, .int a0), (1, .int a1)] [.int 1] σ rfl rfl ⟨trivial, trivial⟩ rfl ?_
    refine aw_goto (off := 4) hC 14 (by decide +kernel) (by decide) ?_
    exact aw_zret hC hr (Or.inr rfl) (by decide +kernel) hF rfl
def f_mo_isHit (σ : Sg) (a1 : Int32) (a2 : Int32) : Option Int32 := if (f_mo_has a1 a2) = 0 then (some 0) else (if ib a2 8 then if (σ.1 23 a2.toNatClampNeg) = 0 then (some 1) else (some 0) else none)
def rm_mo_isHit : Room := { frames := 1, cells := 0, slots := 0, locals := 21 }
set_option maxHeartbeats 4000000 in
set_option maxRecDepth 100000 in
theorem c_mo_isHit (σ : Sg) (a1 : Int32) (a2 : Int32) (z : Int32) (hF : f_mo_isHit σ a1 a2 = some z) : Ctr yX7_isHit cX7_isHit 3 (some .boolean) rm_mo_isHit [.ref 20, .int a1, .int a2] σ (some (.int z)) σ := by
  refine ct_start 7 (by decide) rfl (fun ad => Nat.le_of_ble_eq_true rfl) [(0, .ref 20), (1, .int a1), (2, .int a2)] (fun ad => rfl) ?_
  intro p l e s m args below meth c D ad tc A hC hA hr
  unfold f_mo_isHit at hF
  refine aw_run (pc' := 2) hC [(.iload_n 1, 1, 0, 0, .null), (.iload_n 2, 1, 0, 0, .null)] (by decide +kernel) [(0, .ref 20), (1, .int a1), (2, .int a2)] [.int a2, .int a1] σ rfl rfl ⟨trivial, trivial, trivial⟩ rfl ?_
  refine aw_callS hC hA (rest := []) (c_mo_has σ a1 a2 _ rfl) mt_X7_has ln_7_131 (by decide +kernel) rfl rfl (Nat.le_of_ble_eq_true rfl) ⟨⟨rfl, rfl⟩, Nat.le_of_ble_eq_true rfl, Nat.le_of_ble_eq_true rfl⟩ ⟨Nat.zero_le _, Nat.zero_le _⟩ rfl ?_
  refine aw_if_eq (off := 16) hC 21 Iff.rfl (by decide +kernel) (by decide) (fun h => ?_) (fun h => ?_)
  · have hF := (if_pos h).symm.trans hF
    refine aw_run (pc' := 22) hC [(.iconst 0, 1, 0, 0, .int 0)] (by decide +kernel) [(0, .ref 20), (1, .int a1), (2, .int a2)] [.int 0] σ rfl rfl ⟨trivial, trivial⟩ rfl ?_
    exact aw_zret hC hr (Or.inl rfl) (by decide +kernel) (Option.some.inj hF) rfl
  · have hF := (if_neg h).symm.trans hF
    obtain ⟨g1, hF⟩ := gd hF
    refine aw_run (pc' := 14) hC [(.aload_n 0, 1, 0, 0, .null), (.getfield 16, 3, 7, 4, .null), (.iload_n 2, 1, 0, 0, .null), (.baload, 1, 0, 0, .null)] (by decide +kernel) [(0, .ref 20), (1, .int a1), (2, .int a2)] [.int (σ.1 23 a2.toNatClampNeg)] σ rfl rfl ⟨trivial, trivial, trivial, g1, trivial⟩ rfl ?_
    refine aw_if_ne (off := 7) hC 21 Iff.rfl (by decide +kernel) (by decide) (fun h => ?_) (fun h => ?_)
    · have hF := (if_neg h).symm.trans hF
      refine aw_run (pc' := 22) hC [(.iconst 0, 1, 0, 0, .int 0)] (by decide +kernel) [(0, .ref 20), (1, .int a1), (2, .int a2)] [.int 0] σ rfl rfl ⟨trivial, trivial⟩ rfl ?_
      exact aw_zret hC hr (Or.inl rfl) (by decide +kernel) (Option.some.inj hF) rfl
    · have hF := (if_pos h).symm.trans hF
      refine aw_run (pc' := 18) hC [(.iconst 1, 1, 0, 0, .int 1)] (by decide +kernel) [(0, .ref 20), (1, .int a1), (2, .int a2)] [.int 1] σ rfl rfl ⟨trivial, trivial⟩ rfl ?_
      refine aw_goto (off := 4) hC 22 (by decide +kernel) (by decide) ?_
      exact aw_zret hC hr (Or.inr rfl) (by decide +kernel) (Option.some.inj hF) rfl
def f_mo_isBetween_c10 (a0 : Int32) (a1 : Int32) (a2 : Int32) : Int32 := if a0 ≤ a2 then 0 else (if a1 ≤ a0 then 0 else 1)
def f_mo_isBetween (a0 : Int32) (a1 : Int32) (a2 : Int32) : Int32 := if a0 ≤ a1 then (f_mo_isBetween_c10 a0 a1 a2) else (if a0 < a2 then 1 else (f_mo_isBetween_c10 a0 a1 a2))
def rm_mo_isBetween : Room := { frames := 0, cells := 0, slots := 0, locals := 0 }
set_option maxHeartbeats 4000000 in
set_option maxRecDepth 100000 in
theorem c_mo_isBetween (σ : Sg) (a0 : Int32) (a1 : Int32) (a2 : Int32) (z : Int32) (hF : f_mo_isBetween a0 a1 a2 = z) : Ctr yX7_isBetween cX7_isBetween 3 (some .boolean) rm_mo_isBetween [.int a0, .int a1, .int a2] σ (some (.int z)) σ := by
  refine ct_start 7 (by decide) rfl (fun ad => Nat.le_of_ble_eq_true rfl) [(0, .int a0), (1, .int a1), (2, .int a2)] (fun ad => rfl) ?_
  intro p l e s m args below meth c D ad tc A hC hA hr
  have Jc10 : ∀ (a0 : Int32) (a1 : Int32) (a2 : Int32), f_mo_isBetween_c10 a0 a1 a2 = z → AW p l e rm_mo_isBetween s m args below meth c D ad tc 3 A s.heap 0 0 (MQ below (Qr (some (.int z)) D ad tc σ A) args s 0 0 A) 10 [(0, .int a0), (1, .int a1), (2, .int a2)] [] σ := by
    intro a0 a1 a2 hF
    unfold f_mo_isBetween_c10 at hF
    refine aw_run (pc' := 12) hC [(.iload_n 2, 1, 0, 0, .null), (.iload_n 0, 1, 0, 0, .null)] (by decide +kernel) [(0, .int a0), (1, .int a1), (2, .int a2)] [.int a0, .int a2] σ rfl rfl ⟨trivial, trivial, trivial⟩ rfl ?_
    refine aw_icmp_ge (off := 12) hC 24 (by decide +kernel) (by decide) (fun h => ?_) (fun h => ?_)
    · have hF := (if_pos h).symm.trans hF
      refine aw_run (pc' := 25) hC [(.iconst 0, 1, 0, 0, .int 0)] (by decide +kernel) [(0, .int a0), (1, .int a1), (2, .int a2)] [.int 0] σ rfl rfl ⟨trivial, trivial⟩ rfl ?_
      exact aw_zret hC hr (Or.inl rfl) (by decide +kernel) hF rfl
    · have hF := (if_neg h).symm.trans hF
      refine aw_run (pc' := 17) hC [(.iload_n 0, 1, 0, 0, .null), (.iload_n 1, 1, 0, 0, .null)] (by decide +kernel) [(0, .int a0), (1, .int a1), (2, .int a2)] [.int a1, .int a0] σ rfl rfl ⟨trivial, trivial, trivial⟩ rfl ?_
      refine aw_icmp_ge (off := 7) hC 24 (by decide +kernel) (by decide) (fun h => ?_) (fun h => ?_)
      · have hF := (if_pos h).symm.trans hF
        refine aw_run (pc' := 25) hC [(.iconst 0, 1, 0, 0, .int 0)] (by decide +kernel) [(0, .int a0), (1, .int a1), (2, .int a2)] [.int 0] σ rfl rfl ⟨trivial, trivial⟩ rfl ?_
        exact aw_zret hC hr (Or.inl rfl) (by decide +kernel) hF rfl
      · have hF := (if_neg h).symm.trans hF
        refine aw_run (pc' := 21) hC [(.iconst 1, 1, 0, 0, .int 1)] (by decide +kernel) [(0, .int a0), (1, .int a1), (2, .int a2)] [.int 1] σ rfl rfl ⟨trivial, trivial⟩ rfl ?_
        refine aw_goto (off := 4) hC 25 (by decide +kernel) (by decide) ?_
        exact aw_zret hC hr (Or.inr rfl) (by decide +kernel) hF rfl
  unfold f_mo_isBetween at hF
  refine aw_run (pc' := 2) hC [(.iload_n 1, 1, 0, 0, .null), (.iload_n 0, 1, 0, 0, .null)] (by decide +kernel) [(0, .int a0), (1, .int a1), (2, .int a2)] [.int a0, .int a1] σ rfl rfl ⟨trivial, trivial, trivial⟩ rfl ?_
  refine aw_icmp_ge (off := 8) hC 10 (by decide +kernel) (by decide) (fun h => ?_) (fun h => ?_)
  · have hF := (if_pos h).symm.trans hF
    exact Jc10 a0 a1 a2 hF
  · have hF := (if_neg h).symm.trans hF
    refine aw_run (pc' := 7) hC [(.iload_n 0, 1, 0, 0, .null), (.iload_n 2, 1, 0, 0, .null)] (by decide +kernel) [(0, .int a0), (1, .int a1), (2, .int a2)] [.int a2, .int a0] σ rfl rfl ⟨trivial, trivial, trivial⟩ rfl ?_
    refine aw_icmp_lt (off := 13) hC 20 (by decide +kernel) (by decide) (fun h => ?_) (fun h => ?_)
    · have hF := (if_pos h).symm.trans hF
      refine aw_run (pc' := 21) hC [(.iconst 1, 1, 0, 0, .int 1)] (by decide +kernel) [(0, .int a0), (1, .int a1), (2, .int a2)] [.int 1] σ rfl rfl ⟨trivial, trivial⟩ rfl ?_
      refine aw_goto (off := 4) hC 25 (by decide +kernel) (by decide) ?_
      exact aw_zret hC hr (Or.inr rfl) (by decide +kernel) hF rfl
    · have hF := (if_neg h).symm.trans hF
      exact Jc10 a0 a1 a2 hF
def f_mo_letsBoth (σ : Sg) (a1 : Int32) (a2 : Int32) (a3 : Int32) : Option Int32 := if ib a3 8 then if ib a1 8 then if ib a2 8 then (f_mo_bound σ a1 1).bind fun q4 => (f_mo_bound σ a3 1).bind fun q5 => (f_mo_bound σ a1 2).bind fun q6 => (f_mo_bound σ a3 2).bind fun q7 => (f_mo_bound σ a2 0).bind fun q8 => if ((q4.toInt64 * (((σ.1 22 a3.toNatClampNeg) - (σ.1 22 a1.toNatClampNeg)).toInt64 - ((σ.1 22 a2.toNatClampNeg) - (σ.1 22 a1.toNatClampNeg)).toInt64)) + (q5.toInt64 * ((σ.1 22 a2.toNatClampNeg) - (σ.1 22 a1.toNatClampNeg)).toInt64)) < (q8.toInt64 * ((σ.1 22 a3.toNatClampNeg) - (σ.1 22 a1.toNatClampNeg)).toInt64) then (some 0) else ((f_mo_bound σ a2 3).bind fun q9 => if (q9.toInt64 * ((σ.1 22 a3.toNatClampNeg) - (σ.1 22 a1.toNatClampNeg)).toInt64) < ((q6.toInt64 * (((σ.1 22 a3.toNatClampNeg) - (σ.1 22 a1.toNatClampNeg)).toInt64 - ((σ.1 22 a2.toNatClampNeg) - (σ.1 22 a1.toNatClampNeg)).toInt64)) + (q7.toInt64 * ((σ.1 22 a2.toNatClampNeg) - (σ.1 22 a1.toNatClampNeg)).toInt64)) then (some 0) else (some 1)) else none else none else none
def rm_mo_letsBoth : Room := { frames := 1, cells := 0, slots := 0, locals := 23 }
set_option maxHeartbeats 4000000 in
set_option maxRecDepth 100000 in
theorem c_mo_letsBoth (σ : Sg) (a1 : Int32) (a2 : Int32) (a3 : Int32) (z : Int32) (hF : f_mo_letsBoth σ a1 a2 a3 = some z) : Ctr yX7_letsBoth cX7_letsBoth 12 (some .boolean) rm_mo_letsBoth [.ref 20, .int a1, .int a2, .int a3] σ (some (.int z)) σ := by
  refine ct_start 7 (by decide) rfl (fun ad => Nat.le_of_ble_eq_true rfl) [(0, .ref 20), (1, .int a1), (2, .int a2), (3, .int a3)] (fun ad => rfl) ?_
  intro p l e s m args below meth c D ad tc A hC hA hr
  unfold f_mo_letsBoth at hF
  obtain ⟨g1, hF⟩ := gd hF
  obtain ⟨g2, hF⟩ := gd hF
  obtain ⟨g3, hF⟩ := gd hF
  refine aw_run (pc' := 35) hC [(.aload_n 0, 1, 0, 0, .null), (.getfield 13, 3, 7, 3, .null), (.iload_n 3, 1, 0, 0, .null), (.iaload, 1, 0, 0, .null), (.aload_n 0, 1, 0, 0, .null), (.getfield 13, 3, 7, 3, .null), (.iload_n 1, 1, 0, 0, .null), (.iaload, 1, 0, 0, .null), (.isub, 1, 0, 0, .null), (.i2l, 1, 0, 0, .null), (.lstore 4, 2, 0, 0, .null), (.aload_n 0, 1, 0, 0, .null), (.getfield 13, 3, 7, 3, .null), (.iload_n 2, 1, 0, 0, .null), (.iaload, 1, 0, 0, .null), (.aload_n 0, 1, 0, 0, .null), (.getfield 13, 3, 7, 3, .null), (.iload_n 1, 1, 0, 0, .null), (.iaload, 1, 0, 0, .null), (.isub, 1, 0, 0, .null), (.i2l, 1, 0, 0, .null), (.lstore 6, 2, 0, 0, .null), (.aload_n 0, 1, 0, 0, .null), (.iload_n 1, 1, 0, 0, .null), (.iconst 1, 1, 0, 0, .int 1)] (by decide +kernel) [(0, .ref 20), (1, .int a1), (2, .int a2), (3, .int a3), (4, .long ((σ.1 22 a3.toNatClampNeg) - (σ.1 22 a1.toNatClampNeg)).toInt64), (6, .long ((σ.1 22 a2.toNatClampNeg) - (σ.1 22 a1.toNatClampNeg)).toInt64)] [.int 1, .int a1, .ref 20] σ rfl rfl ⟨trivial, trivial, trivial, g1, trivial, trivial, trivial, g2, trivial, trivial, trivial, trivial, trivial, trivial, g3, trivial, trivial, trivial, g2, trivial, trivial, trivial, trivial, trivial, trivial, trivial⟩ rfl ?_
  obtain ⟨q4, eq4, hF⟩ := bd hF
  refine aw_callV hC hA (rest := []) (c_mo_bound σ a1 1 q4 eq4) mt_X7_bound ln_7_118 (by decide +kernel) ⟨_, rfl⟩ rfl rfl (Nat.le_of_ble_eq_true rfl) ⟨⟨rfl, rfl⟩, Nat.le_of_ble_eq_true rfl, Nat.le_of_ble_eq_true rfl⟩ ⟨Nat.zero_le _, Nat.zero_le _⟩ rfl ?_
  refine aw_run (pc' := 48) hC [(.i2l, 1, 0, 0, .null), (.lload 4, 2, 0, 0, .null), (.lload 6, 2, 0, 0, .null), (.lsub, 1, 0, 0, .null), (.lmul, 1, 0, 0, .null), (.aload_n 0, 1, 0, 0, .null), (.iload_n 3, 1, 0, 0, .null), (.iconst 1, 1, 0, 0, .int 1)] (by decide +kernel) [(0, .ref 20), (1, .int a1), (2, .int a2), (3, .int a3), (4, .long ((σ.1 22 a3.toNatClampNeg) - (σ.1 22 a1.toNatClampNeg)).toInt64), (6, .long ((σ.1 22 a2.toNatClampNeg) - (σ.1 22 a1.toNatClampNeg)).toInt64)] [.int 1, .int a3, .ref 20, .long (q4.toInt64 * (((σ.1 22 a3.toNatClampNeg) - (σ.1 22 a1.toNatClampNeg)).toInt64 - ((σ.1 22 a2.toNatClampNeg) - (σ.1 22 a1.toNatClampNeg)).toInt64))] σ rfl rfl ⟨trivial, trivial, trivial, trivial, trivial, trivial, trivial, trivial, trivial⟩ rfl ?_
  obtain ⟨q5, eq5, hF⟩ := bd hF
  refine aw_callV hC hA (rest := [.long (q4.toInt64 * (((σ.1 22 a3.toNatClampNeg) - (σ.1 22 a1.toNatClampNeg)).toInt64 - ((σ.1 22 a2.toNatClampNeg) - (σ.1 22 a1.toNatClampNeg)).toInt64))]) (c_mo_bound σ a3 1 q5 eq5) mt_X7_bound ln_7_118 (by decide +kernel) ⟨_, rfl⟩ rfl rfl (Nat.le_of_ble_eq_true rfl) ⟨⟨rfl, rfl⟩, Nat.le_of_ble_eq_true rfl, Nat.le_of_ble_eq_true rfl⟩ ⟨Nat.zero_le _, Nat.zero_le _⟩ rfl ?_
  refine aw_run (pc' := 61) hC [(.i2l, 1, 0, 0, .null), (.lload 6, 2, 0, 0, .null), (.lmul, 1, 0, 0, .null), (.ladd, 1, 0, 0, .null), (.lstore 8, 2, 0, 0, .null), (.aload_n 0, 1, 0, 0, .null), (.iload_n 1, 1, 0, 0, .null), (.iconst 2, 1, 0, 0, .int 2)] (by decide +kernel) [(0, .ref 20), (1, .int a1), (2, .int a2), (3, .int a3), (4, .long ((σ.1 22 a3.toNatClampNeg) - (σ.1 22 a1.toNatClampNeg)).toInt64), (6, .long ((σ.1 22 a2.toNatClampNeg) - (σ.1 22 a1.toNatClampNeg)).toInt64), (8, .long ((q4.toInt64 * (((σ.1 22 a3.toNatClampNeg) - (σ.1 22 a1.toNatClampNeg)).toInt64 - ((σ.1 22 a2.toNatClampNeg) - (σ.1 22 a1.toNatClampNeg)).toInt64)) + (q5.toInt64 * ((σ.1 22 a2.toNatClampNeg) - (σ.1 22 a1.toNatClampNeg)).toInt64)))] [.int 2, .int a1, .ref 20] σ rfl rfl ⟨trivial, trivial, trivial, trivial, trivial, trivial, trivial, trivial, trivial⟩ rfl ?_
  obtain ⟨q6, eq6, hF⟩ := bd hF
  refine aw_callV hC hA (rest := []) (c_mo_bound σ a1 2 q6 eq6) mt_X7_bound ln_7_118 (by decide +kernel) ⟨_, rfl⟩ rfl rfl (Nat.le_of_ble_eq_true rfl) ⟨⟨rfl, rfl⟩, Nat.le_of_ble_eq_true rfl, Nat.le_of_ble_eq_true rfl⟩ ⟨Nat.zero_le _, Nat.zero_le _⟩ rfl ?_
  refine aw_run (pc' := 74) hC [(.i2l, 1, 0, 0, .null), (.lload 4, 2, 0, 0, .null), (.lload 6, 2, 0, 0, .null), (.lsub, 1, 0, 0, .null), (.lmul, 1, 0, 0, .null), (.aload_n 0, 1, 0, 0, .null), (.iload_n 3, 1, 0, 0, .null), (.iconst 2, 1, 0, 0, .int 2)] (by decide +kernel) [(0, .ref 20), (1, .int a1), (2, .int a2), (3, .int a3), (4, .long ((σ.1 22 a3.toNatClampNeg) - (σ.1 22 a1.toNatClampNeg)).toInt64), (6, .long ((σ.1 22 a2.toNatClampNeg) - (σ.1 22 a1.toNatClampNeg)).toInt64), (8, .long ((q4.toInt64 * (((σ.1 22 a3.toNatClampNeg) - (σ.1 22 a1.toNatClampNeg)).toInt64 - ((σ.1 22 a2.toNatClampNeg) - (σ.1 22 a1.toNatClampNeg)).toInt64)) + (q5.toInt64 * ((σ.1 22 a2.toNatClampNeg) - (σ.1 22 a1.toNatClampNeg)).toInt64)))] [.int 2, .int a3, .ref 20, .long (q6.toInt64 * (((σ.1 22 a3.toNatClampNeg) - (σ.1 22 a1.toNatClampNeg)).toInt64 - ((σ.1 22 a2.toNatClampNeg) - (σ.1 22 a1.toNatClampNeg)).toInt64))] σ rfl rfl ⟨trivial, trivial, trivial, trivial, trivial, trivial, trivial, trivial, trivial⟩ rfl ?_
  obtain ⟨q7, eq7, hF⟩ := bd hF
  refine aw_callV hC hA (rest := [.long (q6.toInt64 * (((σ.1 22 a3.toNatClampNeg) - (σ.1 22 a1.toNatClampNeg)).toInt64 - ((σ.1 22 a2.toNatClampNeg) - (σ.1 22 a1.toNatClampNeg)).toInt64))]) (c_mo_bound σ a3 2 q7 eq7) mt_X7_bound ln_7_118 (by decide +kernel) ⟨_, rfl⟩ rfl rfl (Nat.le_of_ble_eq_true rfl) ⟨⟨rfl, rfl⟩, Nat.le_of_ble_eq_true rfl, Nat.le_of_ble_eq_true rfl⟩ ⟨Nat.zero_le _, Nat.zero_le _⟩ rfl ?_
  refine aw_run (pc' := 89) hC [(.i2l, 1, 0, 0, .null), (.lload 6, 2, 0, 0, .null), (.lmul, 1, 0, 0, .null), (.ladd, 1, 0, 0, .null), (.lstore 10, 2, 0, 0, .null), (.lload 8, 2, 0, 0, .null), (.aload_n 0, 1, 0, 0, .null), (.iload_n 2, 1, 0, 0, .null), (.iconst 0, 1, 0, 0, .int 0)] (by decide +kernel) [(0, .ref 20), (1, .int a1), (2, .int a2), (3, .int a3), (4, .long ((σ.1 22 a3.toNatClampNeg) - (σ.1 22 a1.toNatClampNeg)).toInt64), (6, .long ((σ.1 22 a2.toNatClampNeg) - (σ.1 22 a1.toNatClampNeg)).toInt64), (8, .long ((q4.toInt64 * (((σ.1 22 a3.toNatClampNeg) - (σ.1 22 a1.toNatClampNeg)).toInt64 - ((σ.1 22 a2.toNatClampNeg) - (σ.1 22 a1.toNatClampNeg)).toInt64)) + (q5.toInt64 * ((σ.1 22 a2.toNatClampNeg) - (σ.1 22 a1.toNatClampNeg)).toInt64))), (10, .long ((q6.toInt64 * (((σ.1 22 a3.toNatClampNeg) - (σ.1 22 a1.toNatClampNeg)).toInt64 - ((σ.1 22 a2.toNatClampNeg) - (σ.1 22 a1.toNatClampNeg)).toInt64)) + (q7.toInt64 * ((σ.1 22 a2.toNatClampNeg) - (σ.1 22 a1.toNatClampNeg)).toInt64)))] [.int 0, .int a2, .ref 20, .long ((q4.toInt64 * (((σ.1 22 a3.toNatClampNeg) - (σ.1 22 a1.toNatClampNeg)).toInt64 - ((σ.1 22 a2.toNatClampNeg) - (σ.1 22 a1.toNatClampNeg)).toInt64)) + (q5.toInt64 * ((σ.1 22 a2.toNatClampNeg) - (σ.1 22 a1.toNatClampNeg)).toInt64))] σ rfl rfl ⟨trivial, trivial, trivial, trivial, trivial, trivial, trivial, trivial, trivial, trivial⟩ rfl ?_
  obtain ⟨q8, eq8, hF⟩ := bd hF
  refine aw_callV hC hA (rest := [.long ((q4.toInt64 * (((σ.1 22 a3.toNatClampNeg) - (σ.1 22 a1.toNatClampNeg)).toInt64 - ((σ.1 22 a2.toNatClampNeg) - (σ.1 22 a1.toNatClampNeg)).toInt64)) + (q5.toInt64 * ((σ.1 22 a2.toNatClampNeg) - (σ.1 22 a1.toNatClampNeg)).toInt64))]) (c_mo_bound σ a2 0 q8 eq8) mt_X7_bound ln_7_118 (by decide +kernel) ⟨_, rfl⟩ rfl rfl (Nat.le_of_ble_eq_true rfl) ⟨⟨rfl, rfl⟩, Nat.le_of_ble_eq_true rfl, Nat.le_of_ble_eq_true rfl⟩ ⟨Nat.zero_le _, Nat.zero_le _⟩ rfl ?_
  refine aw_run (pc' := 97) hC [(.i2l, 1, 0, 0, .null), (.lload 4, 2, 0, 0, .null), (.lmul, 1, 0, 0, .null), (.lcmp, 1, 0, 0, .null)] (by decide +kernel) [(0, .ref 20), (1, .int a1), (2, .int a2), (3, .int a3), (4, .long ((σ.1 22 a3.toNatClampNeg) - (σ.1 22 a1.toNatClampNeg)).toInt64), (6, .long ((σ.1 22 a2.toNatClampNeg) - (σ.1 22 a1.toNatClampNeg)).toInt64), (8, .long ((q4.toInt64 * (((σ.1 22 a3.toNatClampNeg) - (σ.1 22 a1.toNatClampNeg)).toInt64 - ((σ.1 22 a2.toNatClampNeg) - (σ.1 22 a1.toNatClampNeg)).toInt64)) + (q5.toInt64 * ((σ.1 22 a2.toNatClampNeg) - (σ.1 22 a1.toNatClampNeg)).toInt64))), (10, .long ((q6.toInt64 * (((σ.1 22 a3.toNatClampNeg) - (σ.1 22 a1.toNatClampNeg)).toInt64 - ((σ.1 22 a2.toNatClampNeg) - (σ.1 22 a1.toNatClampNeg)).toInt64)) + (q7.toInt64 * ((σ.1 22 a2.toNatClampNeg) - (σ.1 22 a1.toNatClampNeg)).toInt64)))] [.int (lg_cmp ((q4.toInt64 * (((σ.1 22 a3.toNatClampNeg) - (σ.1 22 a1.toNatClampNeg)).toInt64 - ((σ.1 22 a2.toNatClampNeg) - (σ.1 22 a1.toNatClampNeg)).toInt64)) + (q5.toInt64 * ((σ.1 22 a2.toNatClampNeg) - (σ.1 22 a1.toNatClampNeg)).toInt64)) (q8.toInt64 * ((σ.1 22 a3.toNatClampNeg) - (σ.1 22 a1.toNatClampNeg)).toInt64))] σ rfl rfl ⟨trivial, trivial, trivial, trivial, trivial⟩ rfl ?_
  refine aw_if_lt (off := 23) hC 120 (lc_lt _ _) (by decide +kernel) (by decide) (fun h => ?_) (fun h => ?_)
  · have hF := (if_pos h).symm.trans hF
    refine aw_run (pc' := 121) hC [(.iconst 0, 1, 0, 0, .int 0)] (by decide +kernel) [(0, .ref 20), (1, .int a1), (2, .int a2), (3, .int a3), (4, .long ((σ.1 22 a3.toNatClampNeg) - (σ.1 22 a1.toNatClampNeg)).toInt64), (6, .long ((σ.1 22 a2.toNatClampNeg) - (σ.1 22 a1.toNatClampNeg)).toInt64), (8, .long ((q4.toInt64 * (((σ.1 22 a3.toNatClampNeg) - (σ.1 22 a1.toNatClampNeg)).toInt64 - ((σ.1 22 a2.toNatClampNeg) - (σ.1 22 a1.toNatClampNeg)).toInt64)) + (q5.toInt64 * ((σ.1 22 a2.toNatClampNeg) - (σ.1 22 a1.toNatClampNeg)).toInt64))), (10, .long ((q6.toInt64 * (((σ.1 22 a3.toNatClampNeg) - (σ.1 22 a1.toNatClampNeg)).toInt64 - ((σ.1 22 a2.toNatClampNeg) - (σ.1 22 a1.toNatClampNeg)).toInt64)) + (q7.toInt64 * ((σ.1 22 a2.toNatClampNeg) - (σ.1 22 a1.toNatClampNeg)).toInt64)))] [.int 0] σ rfl rfl ⟨trivial, trivial⟩ rfl ?_
    exact aw_zret hC hr (Or.inl rfl) (by decide +kernel) (Option.some.inj hF) rfl
  · have hF := (if_neg h).symm.trans hF
    refine aw_run (pc' := 105) hC [(.lload 10, 2, 0, 0, .null), (.aload_n 0, 1, 0, 0, .null), (.iload_n 2, 1, 0, 0, .null), (.iconst 3, 1, 0, 0, .int 3)] (by decide +kernel) [(0, .ref 20), (1, .int a1), (2, .int a2), (3, .int a3), (4, .long ((σ.1 22 a3.toNatClampNeg) - (σ.1 22 a1.toNatClampNeg)).toInt64), (6, .long ((σ.1 22 a2.toNatClampNeg) - (σ.1 22 a1.toNatClampNeg)).toInt64), (8, .long ((q4.toInt64 * (((σ.1 22 a3.toNatClampNeg) - (σ.1 22 a1.toNatClampNeg)).toInt64 - ((σ.1 22 a2.toNatClampNeg) - (σ.1 22 a1.toNatClampNeg)).toInt64)) + (q5.toInt64 * ((σ.1 22 a2.toNatClampNeg) - (σ.1 22 a1.toNatClampNeg)).toInt64))), (10, .long ((q6.toInt64 * (((σ.1 22 a3.toNatClampNeg) - (σ.1 22 a1.toNatClampNeg)).toInt64 - ((σ.1 22 a2.toNatClampNeg) - (σ.1 22 a1.toNatClampNeg)).toInt64)) + (q7.toInt64 * ((σ.1 22 a2.toNatClampNeg) - (σ.1 22 a1.toNatClampNeg)).toInt64)))] [.int 3, .int a2, .ref 20, .long ((q6.toInt64 * (((σ.1 22 a3.toNatClampNeg) - (σ.1 22 a1.toNatClampNeg)).toInt64 - ((σ.1 22 a2.toNatClampNeg) - (σ.1 22 a1.toNatClampNeg)).toInt64)) + (q7.toInt64 * ((σ.1 22 a2.toNatClampNeg) - (σ.1 22 a1.toNatClampNeg)).toInt64))] σ rfl rfl ⟨trivial, trivial, trivial, trivial, trivial⟩ rfl ?_
    obtain ⟨q9, eq9, hF⟩ := bd hF
    refine aw_callV hC hA (rest := [.long ((q6.toInt64 * (((σ.1 22 a3.toNatClampNeg) - (σ.1 22 a1.toNatClampNeg)).toInt64 - ((σ.1 22 a2.toNatClampNeg) - (σ.1 22 a1.toNatClampNeg)).toInt64)) + (q7.toInt64 * ((σ.1 22 a2.toNatClampNeg) - (σ.1 22 a1.toNatClampNeg)).toInt64))]) (c_mo_bound σ a2 3 q9 eq9) mt_X7_bound ln_7_118 (by decide +kernel) ⟨_, rfl⟩ rfl rfl (Nat.le_of_ble_eq_true rfl) ⟨⟨rfl, rfl⟩, Nat.le_of_ble_eq_true rfl, Nat.le_of_ble_eq_true rfl⟩ ⟨Nat.zero_le _, Nat.zero_le _⟩ rfl ?_
    refine aw_run (pc' := 113) hC [(.i2l, 1, 0, 0, .null), (.lload 4, 2, 0, 0, .null), (.lmul, 1, 0, 0, .null), (.lcmp, 1, 0, 0, .null)] (by decide +kernel) [(0, .ref 20), (1, .int a1), (2, .int a2), (3, .int a3), (4, .long ((σ.1 22 a3.toNatClampNeg) - (σ.1 22 a1.toNatClampNeg)).toInt64), (6, .long ((σ.1 22 a2.toNatClampNeg) - (σ.1 22 a1.toNatClampNeg)).toInt64), (8, .long ((q4.toInt64 * (((σ.1 22 a3.toNatClampNeg) - (σ.1 22 a1.toNatClampNeg)).toInt64 - ((σ.1 22 a2.toNatClampNeg) - (σ.1 22 a1.toNatClampNeg)).toInt64)) + (q5.toInt64 * ((σ.1 22 a2.toNatClampNeg) - (σ.1 22 a1.toNatClampNeg)).toInt64))), (10, .long ((q6.toInt64 * (((σ.1 22 a3.toNatClampNeg) - (σ.1 22 a1.toNatClampNeg)).toInt64 - ((σ.1 22 a2.toNatClampNeg) - (σ.1 22 a1.toNatClampNeg)).toInt64)) + (q7.toInt64 * ((σ.1 22 a2.toNatClampNeg) - (σ.1 22 a1.toNatClampNeg)).toInt64)))] [.int (lg_cmp ((q6.toInt64 * (((σ.1 22 a3.toNatClampNeg) - (σ.1 22 a1.toNatClampNeg)).toInt64 - ((σ.1 22 a2.toNatClampNeg) - (σ.1 22 a1.toNatClampNeg)).toInt64)) + (q7.toInt64 * ((σ.1 22 a2.toNatClampNeg) - (σ.1 22 a1.toNatClampNeg)).toInt64)) (q9.toInt64 * ((σ.1 22 a3.toNatClampNeg) - (σ.1 22 a1.toNatClampNeg)).toInt64))] σ rfl rfl ⟨trivial, trivial, trivial, trivial, trivial⟩ rfl ?_
    refine aw_if_gt (off := 7) hC 120 (lc_gt _ _) (by decide +kernel) (by decide) (fun h => ?_) (fun h => ?_)
    · have hF := (if_pos h).symm.trans hF
      refine aw_run (pc' := 121) hC [(.iconst 0, 1, 0, 0, .int 0)] (by decide +kernel) [(0, .ref 20), (1, .int a1), (2, .int a2), (3, .int a3), (4, .long ((σ.1 22 a3.toNatClampNeg) - (σ.1 22 a1.toNatClampNeg)).toInt64), (6, .long ((σ.1 22 a2.toNatClampNeg) - (σ.1 22 a1.toNatClampNeg)).toInt64), (8, .long ((q4.toInt64 * (((σ.1 22 a3.toNatClampNeg) - (σ.1 22 a1.toNatClampNeg)).toInt64 - ((σ.1 22 a2.toNatClampNeg) - (σ.1 22 a1.toNatClampNeg)).toInt64)) + (q5.toInt64 * ((σ.1 22 a2.toNatClampNeg) - (σ.1 22 a1.toNatClampNeg)).toInt64))), (10, .long ((q6.toInt64 * (((σ.1 22 a3.toNatClampNeg) - (σ.1 22 a1.toNatClampNeg)).toInt64 - ((σ.1 22 a2.toNatClampNeg) - (σ.1 22 a1.toNatClampNeg)).toInt64)) + (q7.toInt64 * ((σ.1 22 a2.toNatClampNeg) - (σ.1 22 a1.toNatClampNeg)).toInt64)))] [.int 0] σ rfl rfl ⟨trivial, trivial⟩ rfl ?_
      exact aw_zret hC hr (Or.inl rfl) (by decide +kernel) (Option.some.inj hF) rfl
    · have hF := (if_neg h).symm.trans hF
      refine aw_run (pc' := 117) hC [(.iconst 1, 1, 0, 0, .int 1)] (by decide +kernel) [(0, .ref 20), (1, .int a1), (2, .int a2), (3, .int a3), (4, .long ((σ.1 22 a3.toNatClampNeg) - (σ.1 22 a1.toNatClampNeg)).toInt64), (6, .long ((σ.1 22 a2.toNatClampNeg) - (σ.1 22 a1.toNatClampNeg)).toInt64), (8, .long ((q4.toInt64 * (((σ.1 22 a3.toNatClampNeg) - (σ.1 22 a1.toNatClampNeg)).toInt64 - ((σ.1 22 a2.toNatClampNeg) - (σ.1 22 a1.toNatClampNeg)).toInt64)) + (q5.toInt64 * ((σ.1 22 a2.toNatClampNeg) - (σ.1 22 a1.toNatClampNeg)).toInt64))), (10, .long ((q6.toInt64 * (((σ.1 22 a3.toNatClampNeg) - (σ.1 22 a1.toNatClampNeg)).toInt64 - ((σ.1 22 a2.toNatClampNeg) - (σ.1 22 a1.toNatClampNeg)).toInt64)) + (q7.toInt64 * ((σ.1 22 a2.toNatClampNeg) - (σ.1 22 a1.toNatClampNeg)).toInt64)))] [.int 1] σ rfl rfl ⟨trivial, trivial⟩ rfl ?_
      refine aw_goto (off := 4) hC 121 (by decide +kernel) (by decide) ?_
      exact aw_zret hC hr (Or.inr rfl) (by decide +kernel) (Option.some.inj hF) rfl
