def f_ve_judge_c17_s (N : Nat) (kc7 : Int32 → Sg → Option Sg) (kc17 : Int32 → Int32 → Sg → Option Sg) (a2 : Int32) (a3 : Int32) (σ : Sg) : Option Sg := if (σ.1 4 5) ≤ a3 then (kc7 (a2 + 1) σ) else (if ib a3 8 then if ib a2 8 then if (σ.1 5 a2.toNatClampNeg) ≤ (σ.1 5 a3.toNatClampNeg) then (kc17 a2 (a3 + 1) σ) else (if (σ.1 6 a3.toNatClampNeg) = 0 then ((f_ve_gather N σ a3 a2).bind fun q6 => kc17 a2 (a3 + 1) q6) else (kc17 a2 (a3 + 1) σ)) else none else none)
def f_ve_judge_c17 (N : Nat) (kc7 : Int32 → Sg → Option Sg) : Nat → Int32 → Int32 → Sg → Option Sg
  | 0 => fun _ _ _ => none
  | n + 1 => f_ve_judge_c17_s N kc7 (f_ve_judge_c17 N kc7 n)
def f_ve_judge_c7_s (N : Nat) (kc7 : Int32 → Sg → Option Sg) (a2 : Int32) (σ : Sg) : Option Sg := if (σ.1 4 5) ≤ a2 then ((f_ve_fewest N σ (σ.1 4 5)).bind fun q2 => nm (uI σ 10 2 q2) fun σ3 => some σ3) else (f_ve_judge_c17 N kc7 N a2 0 σ)
def f_ve_judge_c7 (N : Nat) : Nat → Int32 → Sg → Option Sg
  | 0 => fun _ _ => none
  | n + 1 => f_ve_judge_c7_s N (f_ve_judge_c7 N n)
def f_ve_judge (N : Nat) (σ : Sg) : Option Sg := nm (uI σ 10 1 0) fun σ1 => f_ve_judge_c7 N N 0 σ1
def rm_ve_judge : Room := { frames := 4, cells := 0, slots := 0, locals := 96 }
set_option maxHeartbeats 4000000 in
set_option maxRecDepth 100000 in
theorem c_ve_judge (N : Nat) (σ : Sg) (z : Sg) (hF : f_ve_judge N σ = some z) : Ctr yX5_judge cX5_judge 4 none rm_ve_judge [.ref 10, .ref 4] σ none z := by
  refine ct_start 5 (by decide) rfl (fun ad => Nat.le_of_ble_eq_true rfl) [(0, .ref 10), (1, .ref 4)] (fun ad => rfl) ?_
  intro p l e s m args below meth c D ad tc A hC hA hr
  have Jc17 : ∀ (kc7 : Int32 → Sg → Option Sg) (Hc7 : ∀ (a2 : Int32) (σ : Sg), kc7 a2 σ = some z → AW p l e rm_ve_judge s m args below meth c D ad tc 4 A s.heap 0 0 (MQ below (Qr none D ad tc z A) args s 0 0 A) 7 [(0, .ref 10), (1, .ref 4), (2, .int a2)] [] σ) (n : Nat) (a2 : Int32) (a3 : Int32) (σ : Sg), f_ve_judge_c17 N kc7 n a2 a3 σ = some z → AW p l e rm_ve_judge s m args below meth c D ad tc 4 A s.heap 0 0 (MQ below (Qr none D ad tc z A) args s 0 0 A) 17 [(0, .ref 10), (1, .ref 4), (2, .int a2), (3, .int a3)] [] σ := by
    intro kc7 Hc7 n
    induction n with
    | zero =>
      intro a2 a3 σ hF
      cases hF
    | succ n ih =>
      intro a2 a3 σ hF
      have hF : f_ve_judge_c17_s N kc7 (f_ve_judge_c17 N kc7 n) a2 a3 σ = some z := hF
      unfold f_ve_judge_c17_s at hF
      refine aw_run (pc' := 22) hC [(.iload_n 3, 1, 0, 0, .null), (.aload_n 1, 1, 0, 0, .null), (.getfield 19, 3, 3, 5, .null)] (by decide +kernel) [(0, .ref 10), (1, .ref 4), (2, .int a2), (3, .int a3)] [.int (σ.1 4 5), .int a3] σ rfl rfl ⟨trivial, trivial, trivial, trivial⟩ rfl ?_
      refine aw_icmp_ge (off := 40) hC 62 (by decide +kernel) (by decide) (fun h => ?_) (fun h => ?_)
      · have hF := (if_pos h).symm.trans hF
        refine aw_run (pc' := 65) hC [(.iinc 2 1, 3, 0, 0, .int 1)] (by decide +kernel) [(0, .ref 10), (1, .ref 4), (2, .int (a2 + 1)), (3, .int a3)] [] σ rfl rfl ⟨trivial, trivial⟩ rfl ?_
        refine aw_goto (off := -58) hC 7 (by decide +kernel) (by decide) ?_
        refine aw_pick [0, 1, 2] [(0, .ref 10), (1, .ref 4), (2, .int (a2 + 1))] rfl ?_
        exact Hc7 (a2 + 1) σ hF
      · have hF := (if_neg h).symm.trans hF
        obtain ⟨g4, hF⟩ := gd hF
        obtain ⟨g5, hF⟩ := gd hF
        refine aw_run (pc' := 37) hC [(.aload_n 1, 1, 0, 0, .null), (.getfield 24, 3, 3, 0, .null), (.iload_n 3, 1, 0, 0, .null), (.iaload, 1, 0, 0, .null), (.aload_n 1, 1, 0, 0, .null), (.getfield 24, 3, 3, 0, .null), (.iload_n 2, 1, 0, 0, .null), (.iaload, 1, 0, 0, .null)] (by decide +kernel) [(0, .ref 10), (1, .ref 4), (2, .int a2), (3, .int a3)] [.int (σ.1 5 a2.toNatClampNeg), .int (σ.1 5 a3.toNatClampNeg)] σ rfl rfl ⟨trivial, trivial, trivial, g4, trivial, trivial, trivial, g5, trivial⟩ rfl ?_
        refine aw_icmp_ge (off := 19) hC 56 (by decide +kernel) (by decide) (fun h => ?_) (fun h => ?_)
        · have hF := (if_pos h).symm.trans hF
          refine aw_run (pc' := 59) hC [(.iinc 3 1, 3, 0, 0, .int 1)] (by decide +kernel) [(0, .ref 10), (1, .ref 4), (2, .int a2), (3, .int (a3 + 1))] [] σ rfl rfl ⟨trivial, trivial⟩ rfl ?_
          refine aw_goto (off := -42) hC 17 (by decide +kernel) (by decide) ?_
          exact ih a2 (a3 + 1) σ hF
        · have hF := (if_neg h).symm.trans hF
          refine aw_run (pc' := 46) hC [(.aload_n 1, 1, 0, 0, .null), (.getfield 27, 3, 3, 1, .null), (.iload_n 3, 1, 0, 0, .null), (.baload, 1, 0, 0, .null)] (by decide +kernel) [(0, .ref 10), (1, .ref 4), (2, .int a2), (3, .int a3)] [.int (σ.1 6 a3.toNatClampNeg)] σ rfl rfl ⟨trivial, trivial, trivial, g4, trivial⟩ rfl ?_
          refine aw_if_ne (off := 10) hC 56 Iff.rfl (by decide +kernel) (by decide) (fun h => ?_) (fun h => ?_)
          · have hF := (if_neg h).symm.trans hF
            refine aw_run (pc' := 59) hC [(.iinc 3 1, 3, 0, 0, .int 1)] (by decide +kernel) [(0, .ref 10), (1, .ref 4), (2, .int a2), (3, .int (a3 + 1))] [] σ rfl rfl ⟨trivial, trivial⟩ rfl ?_
            refine aw_goto (off := -42) hC 17 (by decide +kernel) (by decide) ?_
            exact ih a2 (a3 + 1) σ hF
          · have hF := (if_pos h).symm.trans hF
            refine aw_run (pc' := 53) hC [(.aload_n 0, 1, 0, 0, .null), (.aload_n 1, 1, 0, 0, .null), (.iload_n 3, 1, 0, 0, .null), (.iload_n 2, 1, 0, 0, .null)] (by decide +kernel) [(0, .ref 10), (1, .ref 4), (2, .int a2), (3, .int a3)] [.int a2, .int a3, .ref 4, .ref 10] σ rfl rfl ⟨trivial, trivial, trivial, trivial, trivial⟩ rfl ?_
            obtain ⟨q6, eq6, hF⟩ := bd hF
            refine aw_callV hC hA (rest := []) (c_ve_gather N σ a3 a2 q6 eq6) mt_X5_gather ln_5_31 (by decide +kernel) ⟨_, rfl⟩ rfl rfl (Nat.le_of_ble_eq_true rfl) ⟨⟨rfl, rfl⟩, Nat.le_of_ble_eq_true rfl, Nat.le_of_ble_eq_true rfl⟩ ⟨Nat.zero_le _, Nat.zero_le _⟩ rfl ?_
            refine aw_run (pc' := 59) hC [(.iinc 3 1, 3, 0, 0, .int 1)] (by decide +kernel) [(0, .ref 10), (1, .ref 4), (2, .int a2), (3, .int (a3 + 1))] [] q6 rfl rfl ⟨trivial, trivial⟩ rfl ?_
            refine aw_goto (off := -42) hC 17 (by decide +kernel) (by decide) ?_
            exact ih a2 (a3 + 1) q6 hF
  have Jc7 : ∀ (n : Nat) (a2 : Int32) (σ : Sg), f_ve_judge_c7 N n a2 σ = some z → AW p l e rm_ve_judge s m args below meth c D ad tc 4 A s.heap 0 0 (MQ below (Qr none D ad tc z A) args s 0 0 A) 7 [(0, .ref 10), (1, .ref 4), (2, .int a2)] [] σ := by
    intro n
    induction n with
    | zero =>
      intro a2 σ hF
      cases hF
    | succ n ih =>
      intro a2 σ hF
      have hF : f_ve_judge_c7_s N (f_ve_judge_c7 N n) a2 σ = some z := hF
      unfold f_ve_judge_c7_s at hF
      refine aw_run (pc' := 12) hC [(.iload_n 2, 1, 0, 0, .null), (.aload_n 1, 1, 0, 0, .null), (.getfield 19, 3, 3, 5, .null)] (by decide +kernel) [(0, .ref 10), (1, .ref 4), (2, .int a2)] [.int (σ.1 4 5), .int a2] σ rfl rfl ⟨trivial, trivial, trivial, trivial⟩ rfl ?_
      refine aw_icmp_ge (off := 56) hC 68 (by decide +kernel) (by decide) (fun h => ?_) (fun h => ?_)
      · have hF := (if_pos h).symm.trans hF
        refine aw_run (pc' := 74) hC [(.aload_n 0, 1, 0, 0, .null), (.aload_n 0, 1, 0, 0, .null), (.aload_n 1, 1, 0, 0, .null), (.getfield 19, 3, 3, 5, .null)] (by decide +kernel) [(0, .ref 10), (1, .ref 4), (2, .int a2)] [.int (σ.1 4 5), .ref 10, .ref 10] σ rfl rfl ⟨trivial, trivial, trivial, trivial, trivial⟩ rfl ?_
        obtain ⟨q2, eq2, hF⟩ := bd hF
        refine aw_callV hC hA (rest := [.ref 10]) (c_ve_fewest N σ (σ.1 4 5) q2 eq2) mt_X5_fewest ln_5_35 (by decide +kernel) ⟨_, rfl⟩ rfl rfl (Nat.le_of_ble_eq_true rfl) ⟨⟨rfl, rfl⟩, Nat.le_of_ble_eq_true rfl, Nat.le_of_ble_eq_true rfl⟩ ⟨Nat.zero_le _, Nat.zero_le _⟩ rfl ?_
        obtain ⟨σ3, hσ3, hF⟩ := nmd hF
        refine aw_run (pc' := 80) hC [(.putfield 39, 3, 5, 2, .null)] (by decide +kernel) [(0, .ref 10), (1, .ref 4), (2, .int a2)] [] (uI σ 10 2 q2) rfl rfl ⟨trivial, trivial⟩ hσ3 ?_
        exact aw_vret hC hr (by decide +kernel)  (Option.some.inj hF)
      · have hF := (if_neg h).symm.trans hF
        refine aw_run (pc' := 17) hC [(.iconst 0, 1, 0, 0, .int 0), (.istore_n 3, 1, 0, 0, .null)] (by decide +kernel) [(0, .ref 10), (1, .ref 4), (2, .int a2), (3, .int 0)] [] σ rfl rfl ⟨trivial, trivial, trivial⟩ rfl ?_
        exact Jc17 (f_ve_judge_c7 N n) ih N a2 0 σ hF
  unfold f_ve_judge at hF
  obtain ⟨σ1, hσ1, hF⟩ := nmd hF
  refine aw_run (pc' := 5) hC [(.aload_n 0, 1, 0, 0, .null), (.iconst 0, 1, 0, 0, .int 0), (.putfield 15, 3, 5, 1, .null)] (by decide +kernel) [(0, .ref 10), (1, .ref 4)] [] (uI σ 10 1 0) rfl rfl ⟨trivial, trivial, trivial, trivial⟩ hσ1 ?_
  refine aw_run (pc' := 7) hC [(.iconst 0, 1, 0, 0, .int 0), (.istore_n 2, 1, 0, 0, .null)] (by decide +kernel) [(0, .ref 10), (1, .ref 4), (2, .int 0)] [] σ1 rfl rfl ⟨trivial, trivial, trivial⟩ rfl ?_
  exact Jc7 N 0 σ1 hF
def f_hu_addPoint (σ : Sg) (a1 : Int32) (a2 : Int32) : Option Sg := if (16 : Int32) ≤ (σ.1 12 2) then (some σ) else (if ib (σ.1 12 2) 16 then nm (uI σ 13 (σ.1 12 2).toNatClampNeg a1) fun σ2 => if ib (σ2.1 12 2) 16 then nm (uI σ2 14 (σ2.1 12 2).toNatClampNeg a2) fun σ4 => nm (uI σ4 12 2 ((σ4.1 12 2) + 1)) fun σ5 => some σ5 else none else none)
def rm_hu_addPoint : Room := { frames := 0, cells := 0, slots := 0, locals := 0 }
set_option maxHeartbeats 4000000 in
set_option maxRecDepth 100000 in
theorem c_hu_addPoint (σ : Sg) (a1 : Int32) (a2 : Int32) (z : Sg) (hF : f_hu_addPoint σ a1 a2 = some z) : Ctr yX1_addPoint cX1_addPoint 3 none rm_hu_addPoint [.ref 12, .int a1, .int a2] σ none z := by
  refine ct_start 1 (by decide) rfl (fun ad => Nat.le_of_ble_eq_true rfl) [(0, .ref 12), (1, .int a1), (2, .int a2)] (fun ad => rfl) ?_
  intro p l e s m args below meth c D ad tc A hC hA hr
  unfold f_hu_addPoint at hF
  refine aw_run (pc' := 6) hC [(.aload_n 0, 1, 0, 0, .null), (.getfield 32, 3, 1, 2, .null), (.bipush 16, 2, 0, 0, .int 16)] (by decide +kernel) [(0, .ref 12), (1, .int a1), (2, .int a2)] [.int 16, .int (σ.1 12 2)] σ rfl rfl ⟨trivial, trivial, trivial, trivial⟩ rfl ?_
  refine aw_icmp_ge (off := 33) hC 39 (by decide +kernel) (by decide) (fun h => ?_) (fun h => ?_)
  · have hF := (if_pos h).symm.trans hF
    exact aw_vret hC hr (by decide +kernel)  (Option.some.inj hF)
  · have hF := (if_neg h).symm.trans hF
    obtain ⟨g1, hF⟩ := gd hF
    obtain ⟨σ2, hσ2, hF⟩ := nmd hF
    refine aw_run (pc' := 19) hC [(.aload_n 0, 1, 0, 0, .null), (.getfield 11, 3, 1, 0, .null), (.aload_n 0, 1, 0, 0, .null), (.getfield 32, 3, 1, 2, .null), (.iload_n 1, 1, 0, 0, .null), (.iastore, 1, 0, 0, .null)] (by decide +kernel) [(0, .ref 12), (1, .int a1), (2, .int a2)] [] (uI σ 13 (σ.1 12 2).toNatClampNeg a1) rfl rfl ⟨trivial, trivial, trivial, trivial, trivial, g1, trivial⟩ hσ2 ?_
    obtain ⟨g3, hF⟩ := gd hF
    obtain ⟨σ4, hσ4, hF⟩ := nmd hF
    refine aw_run (pc' := 29) hC [(.aload_n 0, 1, 0, 0, .null), (.getfield 15, 3, 1, 1, .null), (.aload_n 0, 1, 0, 0, .null), (.getfield 32, 3, 1, 2, .null), (.iload_n 2, 1, 0, 0, .null), (.iastore, 1, 0, 0, .null)] (by decide +kernel) [(0, .ref 12), (1, .int a1), (2, .int a2)] [] (uI σ2 14 (σ2.1 12 2).toNatClampNeg a2) rfl rfl ⟨trivial, trivial, trivial, trivial, trivial, g3, trivial⟩ hσ4 ?_
    obtain ⟨σ5, hσ5, hF⟩ := nmd hF
    refine aw_run (pc' := 39) hC [(.aload_n 0, 1, 0, 0, .null), (.dup, 1, 0, 0, .null), (.getfield 32, 3, 1, 2, .null), (.iconst 1, 1, 0, 0, .int 1), (.iadd, 1, 0, 0, .null), (.putfield 32, 3, 1, 2, .null)] (by decide +kernel) [(0, .ref 12), (1, .int a1), (2, .int a2)] [] (uI σ4 12 2 ((σ4.1 12 2) + 1)) rfl rfl ⟨trivial, trivial, trivial, trivial, trivial, trivial, trivial⟩ hσ5 ?_
    exact aw_vret hC hr (by decide +kernel)  (Option.some.inj hF)
def f_hu_collect_c7_s (N : Nat) (kc7 : Int32 → Sg → Option Sg) (a2 : Int32) (σ : Sg) : Option Sg := if (σ.1 4 5) ≤ a2 then (some σ) else (if ib a2 8 then if (σ.1 6 a2.toNatClampNeg) = 0 then ((f_ro_inner σ a2 0).bind fun q3 => (f_hu_addPoint σ q3 (σ.1 5 a2.toNatClampNeg)).bind fun q4 => (f_ro_inner q4 a2 1).bind fun q5 => (f_hu_addPoint q4 (-q5) (q4.1 5 a2.toNatClampNeg)).bind fun q6 => kc7 (a2 + 1) q6) else (kc7 (a2 + 1) σ) else none)
def f_hu_collect_c7 (N : Nat) : Nat → Int32 → Sg → Option Sg
  | 0 => fun _ _ => none
  | n + 1 => f_hu_collect_c7_s N (f_hu_collect_c7 N n)
def f_hu_collect (N : Nat) (σ : Sg) : Option Sg := nm (uI σ 12 2 0) fun σ1 => f_hu_collect_c7 N N 0 σ1
def rm_hu_collect : Room := { frames := 1, cells := 0, slots := 0, locals := 22 }
set_option maxHeartbeats 4000000 in
set_option maxRecDepth 100000 in
theorem c_hu_collect (N : Nat) (σ : Sg) (z : Sg) (hF : f_hu_collect N σ = some z) : Ctr yX1_collect cX1_collect 3 none rm_hu_collect [.ref 12, .ref 4] σ none z := by
  refine ct_start 1 (by decide) rfl (fun ad => Nat.le_of_ble_eq_true rfl) [(0, .ref 12), (1, .ref 4)] (fun ad => rfl) ?_
  intro p l e s m args below meth c D ad tc A hC hA hr
  have Jc7 : ∀ (n : Nat) (a2 : Int32) (σ : Sg), f_hu_collect_c7 N n a2 σ = some z → AW p l e rm_hu_collect s m args below meth c D ad tc 3 A s.heap 0 0 (MQ below (Qr none D ad tc z A) args s 0 0 A) 7 [(0, .ref 12), (1, .ref 4), (2, .int a2)] [] σ := by
    intro n
    induction n with
    | zero =>
      intro a2 σ hF
      cases hF
    | succ n ih =>
      intro a2 σ hF
      have hF : f_hu_collect_c7_s N (f_hu_collect_c7 N n) a2 σ = some z := hF
      unfold f_hu_collect_c7_s at hF
      refine aw_run (pc' := 12) hC [(.iload_n 2, 1, 0, 0, .null), (.aload_n 1, 1, 0, 0, .null), (.getfield 63, 3, 3, 5, .null)] (by decide +kernel) [(0, .ref 12), (1, .ref 4), (2, .int a2)] [.int (σ.1 4 5), .int a2] σ rfl rfl ⟨trivial, trivial, trivial, trivial⟩ rfl ?_
      refine aw_icmp_ge (off := 51) hC 63 (by decide +kernel) (by decide) (fun h => ?_) (fun h => ?_)
      · have hF := (if_pos h).symm.trans hF
        exact aw_vret hC hr (by decide +kernel)  (Option.some.inj hF)
      · have hF := (if_neg h).symm.trans hF
        obtain ⟨g2, hF⟩ := gd hF
        refine aw_run (pc' := 21) hC [(.aload_n 1, 1, 0, 0, .null), (.getfield 66, 3, 3, 1, .null), (.iload_n 2, 1, 0, 0, .null), (.baload, 1, 0, 0, .null)] (by decide +kernel) [(0, .ref 12), (1, .ref 4), (2, .int a2)] [.int (σ.1 6 a2.toNatClampNeg)] σ rfl rfl ⟨trivial, trivial, trivial, g2, trivial⟩ rfl ?_
        refine aw_if_ne (off := 36) hC 57 Iff.rfl (by decide +kernel) (by decide) (fun h => ?_) (fun h => ?_)
        · have hF := (if_neg h).symm.trans hF
          refine aw_run (pc' := 60) hC [(.iinc 2 1, 3, 0, 0, .int 1)] (by decide +kernel) [(0, .ref 12), (1, .ref 4), (2, .int (a2 + 1))] [] σ rfl rfl ⟨trivial, trivial⟩ rfl ?_
          refine aw_goto (off := -53) hC 7 (by decide +kernel) (by decide) ?_
          exact ih (a2 + 1) σ hF
        · have hF := (if_pos h).symm.trans hF
          refine aw_run (pc' := 28) hC [(.aload_n 0, 1, 0, 0, .null), (.aload_n 1, 1, 0, 0, .null), (.iload_n 2, 1, 0, 0, .null), (.iconst 0, 1, 0, 0, .int 0)] (by decide +kernel) [(0, .ref 12), (1, .ref 4), (2, .int a2)] [.int 0, .int a2, .ref 4, .ref 12] σ rfl rfl ⟨trivial, trivial, trivial, trivial, trivial⟩ rfl ?_
          obtain ⟨q3, eq3, hF⟩ := bd hF
          refine aw_callV hC hA (rest := [.ref 12]) (c_ro_inner σ a2 0 q3 eq3) mt_X3_inner ln_1_70 (by decide +kernel) ⟨_, rfl⟩ rfl rfl (Nat.le_of_ble_eq_true rfl) ⟨⟨rfl, rfl⟩, Nat.le_of_ble_eq_true rfl, Nat.le_of_ble_eq_true rfl⟩ ⟨Nat.zero_le _, Nat.zero_le _⟩ rfl ?_
          refine aw_run (pc' := 37) hC [(.aload_n 1, 1, 0, 0, .null), (.getfield 73, 3, 3, 0, .null), (.iload_n 2, 1, 0, 0, .null), (.iaload, 1, 0, 0, .null)] (by decide +kernel) [(0, .ref 12), (1, .ref 4), (2, .int a2)] [.int (σ.1 5 a2.toNatClampNeg), .int q3, .ref 12] σ rfl rfl ⟨trivial, trivial, trivial, g2, trivial⟩ rfl ?_
          obtain ⟨q4, eq4, hF⟩ := bd hF
          refine aw_callV hC hA (rest := []) (c_hu_addPoint σ q3 (σ.1 5 a2.toNatClampNeg) q4 eq4) mt_X1_addPoint ln_1_76 (by decide +kernel) ⟨_, rfl⟩ rfl rfl (Nat.le_of_ble_eq_true rfl) ⟨⟨rfl, rfl⟩, Nat.le_of_ble_eq_true rfl, Nat.le_of_ble_eq_true rfl⟩ ⟨Nat.zero_le _, Nat.zero_le _⟩ rfl ?_
          refine aw_run (pc' := 44) hC [(.aload_n 0, 1, 0, 0, .null), (.aload_n 1, 1, 0, 0, .null), (.iload_n 2, 1, 0, 0, .null), (.iconst 1, 1, 0, 0, .int 1)] (by decide +kernel) [(0, .ref 12), (1, .ref 4), (2, .int a2)] [.int 1, .int a2, .ref 4, .ref 12] q4 rfl rfl ⟨trivial, trivial, trivial, trivial, trivial⟩ rfl ?_
          obtain ⟨q5, eq5, hF⟩ := bd hF
          refine aw_callV hC hA (rest := [.ref 12]) (c_ro_inner q4 a2 1 q5 eq5) mt_X3_inner ln_1_70 (by decide +kernel) ⟨_, rfl⟩ rfl rfl (Nat.le_of_ble_eq_true rfl) ⟨⟨rfl, rfl⟩, Nat.le_of_ble_eq_true rfl, Nat.le_of_ble_eq_true rfl⟩ ⟨Nat.zero_le _, Nat.zero_le _⟩ rfl ?_
          refine aw_run (pc' := 54) hC [(.ineg, 1, 0, 0, .null), (.aload_n 1, 1, 0, 0, .null), (.getfield 73, 3, 3, 0, .null), (.iload_n 2, 1, 0, 0, .null), (.iaload, 1, 0, 0, .null)] (by decide +kernel) [(0, .ref 12), (1, .ref 4), (2, .int a2)] [.int (q4.1 5 a2.toNatClampNeg), .int (-q5), .ref 12] q4 rfl rfl ⟨trivial, trivial, trivial, trivial, g2, trivial⟩ rfl ?_
          obtain ⟨q6, eq6, hF⟩ := bd hF
          refine aw_callV hC hA (rest := []) (c_hu_addPoint q4 (-q5) (q4.1 5 a2.toNatClampNeg) q6 eq6) mt_X1_addPoint ln_1_76 (by decide +kernel) ⟨_, rfl⟩ rfl rfl (Nat.le_of_ble_eq_true rfl) ⟨⟨rfl, rfl⟩, Nat.le_of_ble_eq_true rfl, Nat.le_of_ble_eq_true rfl⟩ ⟨Nat.zero_le _, Nat.zero_le _⟩ rfl ?_
          refine aw_run (pc' := 60) hC [(.iinc 2 1, 3, 0, 0, .int 1)] (by decide +kernel) [(0, .ref 12), (1, .ref 4), (2, .int (a2 + 1))] [] q6 rfl rfl ⟨trivial, trivial⟩ rfl ?_
          refine aw_goto (off := -53) hC 7 (by decide +kernel) (by decide) ?_
          exact ih (a2 + 1) q6 hF
  unfold f_hu_collect at hF
  obtain ⟨σ1, hσ1, hF⟩ := nmd hF
  refine aw_run (pc' := 5) hC [(.aload_n 0, 1, 0, 0, .null), (.iconst 0, 1, 0, 0, .int 0), (.putfield 32, 3, 1, 2, .null)] (by decide +kernel) [(0, .ref 12), (1, .ref 4)] [] (uI σ 12 2 0) rfl rfl ⟨trivial, trivial, trivial, trivial⟩ hσ1 ?_
  refine aw_run (pc' := 7) hC [(.iconst 0, 1, 0, 0, .int 0), (.istore_n 2, 1, 0, 0, .null)] (by decide +kernel) [(0, .ref 12), (1, .ref 4), (2, .int 0)] [] σ1 rfl rfl ⟨trivial, trivial, trivial⟩ rfl ?_
  exact Jc7 N 0 σ1 hF
def f_hu_leftmost_c4_s (N : Nat) (kc4 : Int32 → Int32 → Sg → Option Int32) (a1 : Int32) (a2 : Int32) (σ : Sg) : Option Int32 := if (σ.1 12 2) ≤ a2 then (some a1) else (if ib a2 16 then if ib a1 16 then if (σ.1 13 a2.toNatClampNeg) < (σ.1 13 a1.toNatClampNeg) then (kc4 a2 (a2 + 1) σ) else (if (σ.1 13 a2.toNatClampNeg) = (σ.1 13 a1.toNatClampNeg) then (if (σ.1 14 a1.toNatClampNeg) ≤ (σ.1 14 a2.toNatClampNeg) then (kc4 a1 (a2 + 1) σ) else (kc4 a2 (a2 + 1) σ)) else (kc4 a1 (a2 + 1) σ)) else none else none)
def f_hu_leftmost_c4 (N : Nat) : Nat → Int32 → Int32 → Sg → Option Int32
  | 0 => fun _ _ _ => none
  | n + 1 => f_hu_leftmost_c4_s N (f_hu_leftmost_c4 N n)
def f_hu_leftmost (N : Nat) (σ : Sg) : Option Int32 := f_hu_leftmost_c4 N N 0 1 σ
def rm_hu_leftmost : Room := { frames := 0, cells := 0, slots := 0, locals := 0 }
set_option maxHeartbeats 4000000 in
set_option maxRecDepth 100000 in
theorem c_hu_leftmost (N : Nat) (σ : Sg) (z : Int32) (hF : f_hu_leftmost N σ = some z) : Ctr yX1_leftmost cX1_leftmost 3 (some .int) rm_hu_leftmost [.ref 12] σ (some (.int z)) σ := by
  refine ct_start 1 (by decide) rfl (fun ad => Nat.le_of_ble_eq_true rfl) [(0, .ref 12)] (fun ad => rfl) ?_
  intro p l e s m args below meth c D ad tc A hC hA hr
  have Jc4 : ∀ (n : Nat) (a1 : Int32) (a2 : Int32), f_hu_leftmost_c4 N n a1 a2 σ = some z → AW p l e rm_hu_leftmost s m args below meth c D ad tc 3 A s.heap 0 0 (MQ below (Qr (some (.int z)) D ad tc σ A) args s 0 0 A) 4 [(0, .ref 12), (1, .int a1), (2, .int a2)] [] σ := by
    intro n
    induction n with
    | zero =>
      intro a1 a2 hF
      cases hF
    | succ n ih =>
      intro a1 a2 hF
      have hF : f_hu_leftmost_c4_s N (f_hu_leftmost_c4 N n) a1 a2 σ = some z := hF
      unfold f_hu_leftmost_c4_s at hF
      refine aw_run (pc' := 9) hC [(.iload_n 2, 1, 0, 0, .null), (.aload_n 0, 1, 0, 0, .null), (.getfield 32, 3, 1, 2, .null)] (by decide +kernel) [(0, .ref 12), (1, .int a1), (2, .int a2)] [.int (σ.1 12 2), .int a2] σ rfl rfl ⟨trivial, trivial, trivial, trivial⟩ rfl ?_
      refine aw_icmp_ge (off := 56) hC 65 (by decide +kernel) (by decide) (fun h => ?_) (fun h => ?_)
      · have hF := (if_pos h).symm.trans hF
        refine aw_run (pc' := 66) hC [(.iload_n 1, 1, 0, 0, .null)] (by decide +kernel) [(0, .ref 12), (1, .int a1), (2, .int a2)] [.int a1] σ rfl rfl ⟨trivial, trivial⟩ rfl ?_
        exact aw_iret hC hr (by decide +kernel) (Option.some.inj hF) rfl
      · have hF := (if_neg h).symm.trans hF
        obtain ⟨g1, hF⟩ := gd hF
        obtain ⟨g2, hF⟩ := gd hF
        refine aw_run (pc' := 24) hC [(.aload_n 0, 1, 0, 0, .null), (.getfield 11, 3, 1, 0, .null), (.iload_n 2, 1, 0, 0, .null), (.iaload, 1, 0, 0, .null), (.aload_n 0, 1, 0, 0, .null), (.getfield 11, 3, 1, 0, .null), (.iload_n 1, 1, 0, 0, .null), (.iaload, 1, 0, 0, .null)] (by decide +kernel) [(0, .ref 12), (1, .int a1), (2, .int a2)] [.int (σ.1 13 a1.toNatClampNeg), .int (σ.1 13 a2.toNatClampNeg)] σ rfl rfl ⟨trivial, trivial, trivial, g1, trivial, trivial, trivial, g2, trivial⟩ rfl ?_
        refine aw_icmp_lt (off := 33) hC 57 (by decide +kernel) (by decide) (fun h => ?_) (fun h => ?_)
        · have hF := (if_pos h).symm.trans hF
          refine aw_run (pc' := 62) hC [(.iload_n 2, 1, 0, 0, .null), (.istore_n 1, 1, 0, 0, .null), (.iinc 2 1, 3, 0, 0, .int 1)] (by decide +kernel) [(0, .ref 12), (1, .int a2), (2, .int (a2 + 1))] [] σ rfl rfl ⟨trivial, trivial, trivial, trivial⟩ rfl ?_
          refine aw_goto (off := -58) hC 4 (by decide +kernel) (by decide) ?_
          exact ih a2 (a2 + 1) hF
        · have hF := (if_neg h).symm.trans hF
          refine aw_run (pc' := 39) hC [(.aload_n 0, 1, 0, 0, .null), (.getfield 11, 3, 1, 0, .null), (.iload_n 2, 1, 0, 0, .null), (.iaload, 1, 0, 0, .null), (.aload_n 0, 1, 0, 0, .null), (.getfield 11, 3, 1, 0, .null), (.iload_n 1, 1, 0, 0, .null), (.iaload, 1, 0, 0, .null)] (by decide +kernel) [(0, .ref 12), (1, .int a1), (2, .int a2)] [.int (σ.1 13 a1.toNatClampNeg), .int (σ.1 13 a2.toNatClampNeg)] σ rfl rfl ⟨trivial, trivial, trivial, g1, trivial, trivial, trivial, g2, trivial⟩ rfl ?_
          refine aw_icmp_ne (off := 20) hC 59 (by decide +kernel) (by decide) (fun h => ?_) (fun h => ?_)
          · have hF := (if_neg h).symm.trans hF
            refine aw_run (pc' := 62) hC [(.iinc 2 1, 3, 0, 0, .int 1)] (by decide +kernel) [(0, .ref 12), (1, .int a1), (2, .int (a2 + 1))] [] σ rfl rfl ⟨trivial, trivial⟩ rfl ?_
            refine aw_goto (off := -58) hC 4 (by decide +kernel) (by decide) ?_
            exact ih a1 (a2 + 1) hF
          · have hF := (if_pos h).symm.trans hF
            refine aw_run (pc' := 54) hC [(.aload_n 0, 1, 0, 0, .null), (.getfield 15, 3, 1, 1, .null), (.iload_n 2, 1, 0, 0, .null), (.iaload, 1, 0, 0, .null), (.aload_n 0, 1, 0, 0, .null), (.getfield 15, 3, 1, 1, .null), (.iload_n 1, 1, 0, 0, .null), (.iaload, 1, 0, 0, .null)] (by decide +kernel) [(0, .ref 12), (1, .int a1), (2, .int a2)] [.int (σ.1 14 a1.toNatClampNeg), .int (σ.1 14 a2.toNatClampNeg)] σ rfl rfl ⟨trivial, trivial, trivial, g1, trivial, trivial, trivial, g2, trivial⟩ rfl ?_
            refine aw_icmp_ge (off := 5) hC 59 (by decide +kernel) (by decide) (fun h => ?_) (fun h => ?_)
            · have hF := (if_pos h).symm.trans hF
              refine aw_run (pc' := 62) hC [(.iinc 2 1, 3, 0, 0, .int 1)] (by decide +kernel) [(0, .ref 12), (1, .int a1), (2, .int (a2 + 1))] [] σ rfl rfl ⟨trivial, trivial⟩ rfl ?_
              refine aw_goto (off := -58) hC 4 (by decide +kernel) (by decide) ?_
              exact ih a1 (a2 + 1) hF
            · have hF := (if_neg h).symm.trans hF
              refine aw_run (pc' := 62) hC [(.iload_n 2, 1, 0, 0, .null), (.istore_n 1, 1, 0, 0, .null), (.iinc 2 1, 3, 0, 0, .int 1)] (by decide +kernel) [(0, .ref 12), (1, .int a2), (2, .int (a2 + 1))] [] σ rfl rfl ⟨trivial, trivial, trivial, trivial⟩ rfl ?_
              refine aw_goto (off := -58) hC 4 (by decide +kernel) (by decide) ?_
              exact ih a2 (a2 + 1) hF
  unfold f_hu_leftmost at hF
  refine aw_run (pc' := 4) hC [(.iconst 0, 1, 0, 0, .int 0), (.istore_n 1, 1, 0, 0, .null), (.iconst 1, 1, 0, 0, .int 1), (.istore_n 2, 1, 0, 0, .null)] (by decide +kernel) [(0, .ref 12), (1, .int 0), (2, .int 1)] [] σ rfl rfl ⟨trivial, trivial, trivial, trivial, trivial⟩ rfl ?_
  exact Jc4 N 0 1 hF
def f_hu_square (a0 : Int32) (a1 : Int32) : Int32 := (a0 * a0) + (a1 * a1)
def rm_hu_square : Room := { frames := 0, cells := 0, slots := 0, locals := 0 }
set_option maxHeartbeats 4000000 in
set_option maxRecDepth 100000 in
theorem c_hu_square (σ : Sg) (a0 : Int32) (a1 : Int32) (z : Int32) (hF : f_hu_square a0 a1 = z) : Ctr yX1_square cX1_square 2 (some .int) rm_hu_square [.int a0, .int a1] σ (some (.int z)) σ := by
  refine ct_start 1 (by decide) rfl (fun ad => Nat.le_of_ble_eq_true rfl) [(0, .int a0), (1, .int a1)] (fun ad => rfl) ?_
  intro p l e s m args below meth c D ad tc A hC hA hr
  unfold f_hu_square at hF
  refine aw_run (pc' := 7) hC [(.iload_n 0, 1, 0, 0, .null), (.iload_n 0, 1, 0, 0, .null), (.imul, 1, 0, 0, .null), (.iload_n 1, 1, 0, 0, .null), (.iload_n 1, 1, 0, 0, .null), (.imul, 1, 0, 0, .null), (.iadd, 1, 0, 0, .null)] (by decide +kernel) [(0, .int a0), (1, .int a1)] [.int ((a0 * a0) + (a1 * a1))] σ rfl rfl ⟨trivial, trivial, trivial, trivial, trivial, trivial, trivial, trivial⟩ rfl ?_
  exact aw_iret hC hr (by decide +kernel) hF rfl
def f_hu_isBeyond (σ : Sg) (a1 : Int32) (a2 : Int32) (a3 : Int32) : Option Int32 := if ib a2 16 then if ib a1 16 then if ib a3 16 then if ((((σ.1 13 a2.toNatClampNeg) - (σ.1 13 a1.toNatClampNeg)) * ((σ.1 14 a3.toNatClampNeg) - (σ.1 14 a1.toNatClampNeg))) - (((σ.1 13 a3.toNatClampNeg) - (σ.1 13 a1.toNatClampNeg)) * ((σ.1 14 a2.toNatClampNeg) - (σ.1 14 a1.toNatClampNeg)))) < 0 then (some 1) else (if ((((σ.1 13 a2.toNatClampNeg) - (σ.1 13 a1.toNatClampNeg)) * ((σ.1 14 a3.toNatClampNeg) - (σ.1 14 a1.toNatClampNeg))) - (((σ.1 13 a3.toNatClampNeg) - (σ.1 13 a1.toNatClampNeg)) * ((σ.1 14 a2.toNatClampNeg) - (σ.1 14 a1.toNatClampNeg)))) = 0 then (if (f_hu_square ((σ.1 13 a3.toNatClampNeg) - (σ.1 13 a1.toNatClampNeg)) ((σ.1 14 a3.toNatClampNeg) - (σ.1 14 a1.toNatClampNeg))) ≤ (f_hu_square ((σ.1 13 a2.toNatClampNeg) - (σ.1 13 a1.toNatClampNeg)) ((σ.1 14 a2.toNatClampNeg) - (σ.1 14 a1.toNatClampNeg))) then (some 0) else (some 1)) else (some 0)) else none else none else none
def rm_hu_isBeyond : Room := { frames := 1, cells := 0, slots := 0, locals := 21 }
set_option maxHeartbeats 4000000 in
set_option maxRecDepth 100000 in
theorem c_hu_isBeyond (σ : Sg) (a1 : Int32) (a2 : Int32) (a3 : Int32) (z : Int32) (hF : f_hu_isBeyond σ a1 a2 a3 = some z) : Ctr yX1_isBeyond cX1_isBeyond 9 (some .boolean) rm_hu_isBeyond [.ref 12, .int a1, .int a2, .int a3] σ (some (.int z)) σ := by
  refine ct_start 1 (by decide) rfl (fun ad => Nat.le_of_ble_eq_true rfl) [(0, .ref 12), (1, .int a1), (2, .int a2), (3, .int a3)] (fun ad => rfl) ?_
  intro p l e s m args below meth c D ad tc A hC hA hr
  unfold f_hu_isBeyond at hF
  obtain ⟨g1, hF⟩ := gd hF
  obtain ⟨g2, hF⟩ := gd hF
  obtain ⟨g3, hF⟩ := gd hF
  refine aw_run (pc' := 75) hC [(.aload_n 0, 1, 0, 0, .null), (.getfield 11, 3, 1, 0, .null), (.iload_n 2, 1, 0, 0, .null), (.iaload, 1, 0, 0, .null), (.aload_n 0, 1, 0, 0, .null), (.getfield 11, 3, 1, 0, .null), (.iload_n 1, 1, 0, 0, .null), (.iaload, 1, 0, 0, .null), (.isub, 1, 0, 0, .null), (.istore 4, 2, 0, 0, .null), (.aload_n 0, 1, 0, 0, .null), (.getfield 15, 3, 1, 1, .null), (.iload_n 2, 1, 0, 0, .null), (.iaload, 1, 0, 0, .null), (.aload_n 0, 1, 0, 0, .null), (.getfield 15, 3, 1, 1, .null), (.iload_n 1, 1, 0, 0, .null), (.iaload, 1, 0, 0, .null), (.isub, 1, 0, 0, .null), (.istore 5, 2, 0, 0, .null), (.aload_n 0, 1, 0, 0, .null), (.getfield 11, 3, 1, 0, .null), (.iload_n 3, 1, 0, 0, .null), (.iaload, 1, 0, 0, .null), (.aload_n 0, 1, 0, 0, .null), (.getfield 11, 3, 1, 0, .null), (.iload_n 1, 1, 0, 0, .null), (.iaload, 1, 0, 0, .null), (.isub, 1, 0, 0, .null), (.istore 6, 2, 0, 0, .null), (.aload_n 0, 1, 0, 0, .null), (.getfield 15, 3, 1, 1, .null), (.iload_n 3, 1, 0, 0, .null), (.iaload, 1, 0, 0, .null), (.aload_n 0, 1, 0, 0, .null), (.getfield 15, 3, 1, 1, .null), (.iload_n 1, 1, 0, 0, .null), (.iaload, 1, 0, 0, .null), (.isub, 1, 0, 0, .null), (.istore 7, 2, 0, 0, .null), (.iload 4, 2, 0, 0, .null), (.iload 7, 2, 0, 0, .null), (.imul, 1, 0, 0, .null), (.iload 6, 2, 0, 0, .null), (.iload 5, 2, 0, 0, .null), (.imul, 1, 0, 0, .null), (.isub, 1, 0, 0, .null), (.istore 8, 2, 0, 0, .null), (.iload 8, 2, 0, 0, .null)] (by decide +kernel) [(0, .ref 12), (1, .int a1), (2, .int a2), (3, .int a3), (4, .int ((σ.1 13 a2.toNatClampNeg) - (σ.1 13 a1.toNatClampNeg))), (5, .int ((σ.1 14 a2.toNatClampNeg) - (σ.1 14 a1.toNatClampNeg))), (6, .int ((σ.1 13 a3.toNatClampNeg) - (σ.1 13 a1.toNatClampNeg))), (7, .int ((σ.1 14 a3.toNatClampNeg) - (σ.1 14 a1.toNatClampNeg))), (8, .int ((((σ.1 13 a2.toNatClampNeg) - (σ.1 13 a1.toNatClampNeg)) * ((σ.1 14 a3.toNatClampNeg) - (σ.1 14 a1.toNatClampNeg))) - (((σ.1 13 a3.toNatClampNeg) - (σ.1 13 a1.toNatClampNeg)) * ((σ.1 14 a2.toNatClampNeg) - (σ.1 14 a1.toNatClampNeg)))))] [.int ((((σ.1 13 a2.toNatClampNeg) - (σ.1 13 a1.toNatClampNeg)) * ((σ.1 14 a3.toNatClampNeg) - (σ.1 14 a1.toNatClampNeg))) - (((σ.1 13 a3.toNatClampNeg) - (σ.1 13 a1.toNatClampNeg)) * ((σ.1 14 a2.toNatClampNeg) - (σ.1 14 a1.toNatClampNeg))))] σ rfl rfl ⟨trivial, trivial, trivial, g1, trivial, trivial, trivial, g2, trivial, trivial, trivial, trivial, trivial, g1, trivial, trivial, trivial, g2, trivial, trivial, trivial, trivial, trivial, g3, trivial, trivial, trivial, g2, trivial, trivial, trivial, trivial, trivial, g3, trivial, trivial, trivial, g2, trivial, trivial, trivial, trivial, trivial, trivial, trivial, trivial, trivial, trivial, trivial, trivial⟩ rfl ?_
  refine aw_if_lt (off := 25) hC 100 Iff.rfl (by decide +kernel) (by decide) (fun h => ?_) (fun h => ?_)
  · have hF := (if_pos h).symm.trans hF
    refine aw_run (pc' := 101) hC [(.iconst 1, 1, 0, 0, .int 1)] (by decide +kernel) [(0, .ref 12), (1, .int a1), (2, .int a2), (3, .int a3), (4, .int ((σ.1 13 a2.toNatClampNeg) - (σ.1 13 a1.toNatClampNeg))), (5, .int ((σ.1 14 a2.toNatClampNeg) - (σ.1 14 a1.toNatClampNeg))), (6, .int ((σ.1 13 a3.toNatClampNeg) - (σ.1 13 a1.toNatClampNeg))), (7, .int ((σ.1 14 a3.toNatClampNeg) - (σ.1 14 a1.toNatClampNeg))), (8, .int ((((σ.1 13 a2.toNatClampNeg) - (σ.1 13 a1.toNatClampNeg)) * ((σ.1 14 a3.toNatClampNeg) - (σ.1 14 a1.toNatClampNeg))) - (((σ.1 13 a3.toNatClampNeg) - (σ.1 13 a1.toNatClampNeg)) * ((σ.1 14 a2.toNatClampNeg) - (σ.1 14 a1.toNatClampNeg)))))] [.int 1] σ rfl rfl ⟨trivial, trivial⟩ rfl ?_
    refine aw_goto (off := 4) hC 105 (by decide +kernel) (by decide) ?_
    exact aw_zret hC hr (Or.inr rfl) (by decide +kernel) (Option.some.inj hF) rfl
  · have hF := (if_neg h).symm.trans hF
    refine aw_run (pc' := 80) hC [(.iload 8, 2, 0, 0, .null)] (by decide +kernel) [(0, .ref 12), (1, .int a1), (2, .int a2), (3, .int a3), (4, .int ((σ.1 13 a2.toNatClampNeg) - (σ.1 13 a1.toNatClampNeg))), (5, .int ((σ.1 14 a2.toNatClampNeg) - (σ.1 14 a1.toNatClampNeg))), (6, .int ((σ.1 13 a3.toNatClampNeg) - (σ.1 13 a1.toNatClampNeg))), (7, .int ((σ.1 14 a3.toNatClampNeg) - (σ.1 14 a1.toNatClampNeg))), (8, .int ((((σ.1 13 a2.toNatClampNeg) - (σ.1 13 a1.toNatClampNeg)) * ((σ.1 14 a3.toNatClampNeg) - (σ.1 14 a1.toNatClampNeg))) - (((σ.1 13 a3.toNatClampNeg) - (σ.1 13 a1.toNatClampNeg)) * ((σ.1 14 a2.toNatClampNeg) - (σ.1 14 a1.toNatClampNeg)))))] [.int ((((σ.1 13 a2.toNatClampNeg) - (σ.1 13 a1.toNatClampNeg)) * ((σ.1 14 a3.toNatClampNeg) - (σ.1 14 a1.toNatClampNeg))) - (((σ.1 13 a3.toNatClampNeg) - (σ.1 13 a1.toNatClampNeg)) * ((σ.1 14 a2.toNatClampNeg) - (σ.1 14 a1.toNatClampNeg))))] σ rfl rfl ⟨trivial, trivial⟩ rfl ?_
    refine aw_if_ne (off := 24) hC 104 Iff.rfl (by decide +kernel) (by decide) (fun h => ?_) (fun h => ?_)
    · have hF := (if_neg h).symm.trans hF
      refine aw_run (pc' := 105) hC [(.iconst 0, 1, 0, 0, .int 0)] (by decide +kernel) [(0, .ref 12), (1, .int a1), (2, .int a2), (3, .int a3), (4, .int ((σ.1 13 a2.toNatClampNeg) - (σ.1 13 a1.toNatClampNeg))), (5, .int ((σ.1 14 a2.toNatClampNeg) - (σ.1 14 a1.toNatClampNeg))), (6, .int ((σ.1 13 a3.toNatClampNeg) - (σ.1 13 a1.toNatClampNeg))), (7, .int ((σ.1 14 a3.toNatClampNeg) - (σ.1 14 a1.toNatClampNeg))), (8, .int ((((σ.1 13 a2.toNatClampNeg) - (σ.1 13 a1.toNatClampNeg)) * ((σ.1 14 a3.toNatClampNeg) - (σ.1 14 a1.toNatClampNeg))) - (((σ.1 13 a3.toNatClampNeg) - (σ.1 13 a1.toNatClampNeg)) * ((σ.1 14 a2.toNatClampNeg) - (σ.1 14 a1.toNatClampNeg)))))] [.int 0] σ rfl rfl ⟨trivial, trivial⟩ rfl ?_
      exact aw_zret hC hr (Or.inl rfl) (by decide +kernel) (Option.some.inj hF) rfl
    · have hF := (if_pos h).symm.trans hF
      refine aw_run (pc' := 87) hC [(.iload 6, 2, 0, 0, .null), (.iload 7, 2, 0, 0, .null)] (by decide +kernel) [(0, .ref 12), (1, .int a1), (2, .int a2), (3, .int a3), (4, .int ((σ.1 13 a2.toNatClampNeg) - (σ.1 13 a1.toNatClampNeg))), (5, .int ((σ.1 14 a2.toNatClampNeg) - (σ.1 14 a1.toNatClampNeg))), (6, .int ((σ.1 13 a3.toNatClampNeg) - (σ.1 13 a1.toNatClampNeg))), (7, .int ((σ.1 14 a3.toNatClampNeg) - (σ.1 14 a1.toNatClampNeg))), (8, .int ((((σ.1 13 a2.toNatClampNeg) - (σ.1 13 a1.toNatClampNeg)) * ((σ.1 14 a3.toNatClampNeg) - (σ.1 14 a1.toNatClampNeg))) - (((σ.1 13 a3.toNatClampNeg) - (σ.1 13 a1.toNatClampNeg)) * ((σ.1 14 a2.toNatClampNeg) - (σ.1 14 a1.toNatClampNeg)))))] [.int ((σ.1 14 a3.toNatClampNeg) - (σ.1 14 a1.toNatClampNeg)), .int ((σ.1 13 a3.toNatClampNeg) - (σ.1 13 a1.toNatClampNeg))] σ rfl rfl ⟨trivial, trivial, trivial⟩ rfl ?_
      refine aw_callS hC hA (rest := []) (c_hu_square σ ((σ.1 13 a3.toNatClampNeg) - (σ.1 13 a1.toNatClampNeg)) ((σ.1 14 a3.toNatClampNeg) - (σ.1 14 a1.toNatClampNeg)) _ rfl) mt_X1_square ln_1_46 (by decide +kernel) rfl rfl (Nat.le_of_ble_eq_true rfl) ⟨⟨rfl, rfl⟩, Nat.le_of_ble_eq_true rfl, Nat.le_of_ble_eq_true rfl⟩ ⟨Nat.zero_le _, Nat.zero_le _⟩ rfl ?_
      refine aw_run (pc' := 94) hC [(.iload 4, 2, 0, 0, .null), (.iload 5, 2, 0, 0, .null)] (by decide +kernel) [(0, .ref 12), (1, .int a1), (2, .int a2), (3, .int a3), (4, .int ((σ.1 13 a2.toNatClampNeg) - (σ.1 13 a1.toNatClampNeg))), (5, .int ((σ.1 14 a2.toNatClampNeg) - (σ.1 14 a1.toNatClampNeg))), (6, .int ((σ.1 13 a3.toNatClampNeg) - (σ.1 13 a1.toNatClampNeg))), (7, .int ((σ.1 14 a3.toNatClampNeg) - (σ.1 14 a1.toNatClampNeg))), (8, .int ((((σ.1 13 a2.toNatClampNeg) - (σ.1 13 a1.toNatClampNeg)) * ((σ.1 14 a3.toNatClampNeg) - (σ.1 14 a1.toNatClampNeg))) - (((σ.1 13 a3.toNatClampNeg) - (σ.1 13 a1.toNatClampNeg)) * ((σ.1 14 a2.toNatClampNeg) - (σ.1 14 a1.toNatClampNeg)))))] [.int ((σ.1 14 a2.toNatClampNeg) - (σ.1 14 a1.toNatClampNeg)), .int ((σ.1 13 a2.toNatClampNeg) - (σ.1 13 a1.toNatClampNeg)), .int (f_hu_square ((σ.1 13 a3.toNatClampNeg) - (σ.1 13 a1.toNatClampNeg)) ((σ.1 14 a3.toNatClampNeg) - (σ.1 14 a1.toNatClampNeg)))] σ rfl rfl ⟨trivial, trivial, trivial⟩ rfl ?_
      refine aw_callS hC hA (rest := [.int (f_hu_square ((σ.1 13 a3.toNatClampNeg) - (σ.1 13 a1.toNatClampNeg)) ((σ.1 14 a3.toNatClampNeg) - (σ.1 14 a1.toNatClampNeg)))]) (c_hu_square σ ((σ.1 13 a2.toNatClampNeg) - (σ.1 13 a1.toNatClampNeg)) ((σ.1 14 a2.toNatClampNeg) - (σ.1 14 a1.toNatClampNeg)) _ rfl) mt_X1_square ln_1_46 (by decide +kernel) rfl rfl (Nat.le_of_ble_eq_true rfl) ⟨⟨rfl, rfl⟩, Nat.le_of_ble_eq_true rfl, Nat.le_of_ble_eq_true rfl⟩ ⟨Nat.zero_le _, Nat.zero_le _⟩ rfl ?_
      refine aw_icmp_le (off := 7) hC 104 (by decide +kernel) (by decide) (fun h => ?_) (fun h => ?_)
      · have hF := (if_pos h).symm.trans hF
        refine aw_run (pc' := 105) hC [(.iconst 0, 1, 0, 0, .int 0)] (by decide +kernel) [(0, .ref 12), (1, .int a1), (2, .int a2), (3, .int a3), (4, .int ((σ.1 13 a2.toNatClampNeg) - (σ.1 13 a1.toNatClampNeg))), (5, .int ((σ.1 14 a2.toNatClampNeg) - (σ.1 14 a1.toNatClampNeg))), (6, .int ((σ.1 13 a3.toNatClampNeg) - (σ.1 13 a1.toNatClampNeg))), (7, .int ((σ.1 14 a3.toNatClampNeg) - (σ.1 14 a1.toNatClampNeg))), (8, .int ((((σ.1 13 a2.toNatClampNeg) - (σ.1 13 a1.toNatClampNeg)) * ((σ.1 14 a3.toNatClampNeg) - (σ.1 14 a1.toNatClampNeg))) - (((σ.1 13 a3.toNatClampNeg) - (σ.1 13 a1.toNatClampNeg)) * ((σ.1 14 a2.toNatClampNeg) - (σ.1 14 a1.toNatClampNeg)))))] [.int 0] σ rfl rfl ⟨trivial, trivial⟩ rfl ?_
        exact aw_zret hC hr (Or.inl rfl) (by decide +kernel) (Option.some.inj hF) rfl
      · have hF := (if_neg h).symm.trans hF
        refine aw_run (pc' := 101) hC [(.iconst 1, 1, 0, 0, .int 1)] (by decide +kernel) [(0, .ref 12), (1, .int a1), (2, .int a2), (3, .int a3), (4, .int ((σ.1 13 a2.toNatClampNeg) - (σ.1 13 a1.toNatClampNeg))), (5, .int ((σ.1 14 a2.toNatClampNeg) - (σ.1 14 a1.toNatClampNeg))), (6, .int ((σ.1 13 a3.toNatClampNeg) - (σ.1 13 a1.toNatClampNeg))), (7, .int ((σ.1 14 a3.toNatClampNeg) - (σ.1 14 a1.toNatClampNeg))), (8, .int ((((σ.1 13 a2.toNatClampNeg) - (σ.1 13 a1.toNatClampNeg)) * ((σ.1 14 a3.toNatClampNeg) - (σ.1 14 a1.toNatClampNeg))) - (((σ.1 13 a3.toNatClampNeg) - (σ.1 13 a1.toNatClampNeg)) * ((σ.1 14 a2.toNatClampNeg) - (σ.1 14 a1.toNatClampNeg)))))] [.int 1] σ rfl rfl ⟨trivial, trivial⟩ rfl ?_
        refine aw_goto (off := 4) hC 105 (by decide +kernel) (by decide) ?_
        exact aw_zret hC hr (Or.inr rfl) (by decide +kernel) (Option.some.inj hF) rfl
def f_hu_next_c4_s (N : Nat) (kc4 : Int32 → Int32 → Int32 → Sg → Option Int32) (a1 : Int32) (a2 : Int32) (a3 : Int32) (σ : Sg) : Option Int32 := if (σ.1 12 2) ≤ a3 then (some a2) else (if a3 = a1 then (kc4 a1 a2 (a3 + 1) σ) else (if a2 = a1 then (kc4 a1 a3 (a3 + 1) σ) else ((f_hu_isBeyond σ a1 a2 a3).bind fun q1 => if q1 = 0 then (kc4 a1 a2 (a3 + 1) σ) else (kc4 a1 a3 (a3 + 1) σ))))
def f_hu_next_c4 (N : Nat) : Nat → Int32 → Int32 → Int32 → Sg → Option Int32
  | 0 => fun _ _ _ _ => none
  | n + 1 => f_hu_next_c4_s N (f_hu_next_c4 N n)
def f_hu_next (N : Nat) (σ : Sg) (a1 : Int32) : Option Int32 := f_hu_next_c4 N N a1 a1 0 σ
def rm_hu_next : Room := { frames := 2, cells := 0, slots := 0, locals := 49 }
set_option maxHeartbeats 4000000 in
set_option maxRecDepth 100000 in
theorem c_hu_next (N : Nat) (σ : Sg) (a1 : Int32) (z : Int32) (hF : f_hu_next N σ a1 = some z) : Ctr yX1_next cX1_next 4 (some .int) rm_hu_next [.ref 12, .int a1] σ (some (.int z)) σ := by
  refine ct_start 1 (by decide) rfl (fun ad => Nat.le_of_ble_eq_true rfl) [(0, .ref 12), (1, .int a1)] (fun ad => rfl) ?_
  intro p l e s m args below meth c D ad tc A hC hA hr
  have Jc4 : ∀ (n : Nat) (a1 : Int32) (a2 : Int32) (a3 : Int32), f_hu_next_c4 N n a1 a2 a3 σ = some z → AW p l e rm_hu_next s m args below meth c D ad tc 4 A s.heap 0 0 (MQ below (Qr (some (.int z)) D ad tc σ A) args s 0 0 A) 4 [(0, .ref 12), (1, .int a1), (2, .int a2), (3, .int a3)] [] σ := by
    intro n
    induction n with
    | zero =>
      intro a1 a2 a3 hF
      cases hF
    | succ n ih =>
      intro a1 a2 a3 hF
      have hF : f_hu_next_c4_s N (f_hu_next_c4 N n) a1 a2 a3 σ = some z := hF
      unfold f_hu_next_c4_s at hF
      refine aw_run (pc' := 9) hC [(.iload_n 3, 1, 0, 0, .null), (.aload_n 0, 1, 0, 0, .null), (.getfield 32, 3, 1, 2, .null)] (by decide +kernel) [(0, .ref 12), (1, .int a1), (2, .int a2), (3, .int a3)] [.int (σ.1 12 2), .int a3] σ rfl rfl ⟨trivial, trivial, trivial, trivial⟩ rfl ?_
      refine aw_icmp_ge (off := 31) hC 40 (by decide +kernel) (by decide) (fun h => ?_) (fun h => ?_)
      · have hF := (if_pos h).symm.trans hF
        refine aw_run (pc' := 41) hC [(.iload_n 2, 1, 0, 0, .null)] (by decide +kernel) [(0, .ref 12), (1, .int a1), (2, .int a2), (3, .int a3)] [.int a2] σ rfl rfl ⟨trivial, trivial⟩ rfl ?_
        exact aw_iret hC hr (by decide +kernel) (Option.some.inj hF) rfl
      · have hF := (if_neg h).symm.trans hF
        refine aw_run (pc' := 14) hC [(.iload_n 3, 1, 0, 0, .null), (.iload_n 1, 1, 0, 0, .null)] (by decide +kernel) [(0, .ref 12), (1, .int a1), (2, .int a2), (3, .int a3)] [.int a1, .int a3] σ rfl rfl ⟨trivial, trivial, trivial⟩ rfl ?_
        refine aw_icmp_eq (off := 20) hC 34 (by decide +kernel) (by decide) (fun h => ?_) (fun h => ?_)
        · have hF := (if_pos h).symm.trans hF
          refine aw_run (pc' := 37) hC [(.iinc 3 1, 3, 0, 0, .int 1)] (by decide +kernel) [(0, .ref 12), (1, .int a1), (2, .int a2), (3, .int (a3 + 1))] [] σ rfl rfl ⟨trivial, trivial⟩ rfl ?_
          refine aw_goto (off := -33) hC 4 (by decide +kernel) (by decide) ?_
          exact ih a1 a2 (a3 + 1) hF
        · have hF := (if_neg h).symm.trans hF
          refine aw_run (pc' := 19) hC [(.iload_n 2, 1, 0, 0, .null), (.iload_n 1, 1, 0, 0, .null)] (by decide +kernel) [(0, .ref 12), (1, .int a1), (2, .int a2), (3, .int a3)] [.int a1, .int a2] σ rfl rfl ⟨trivial, trivial, trivial⟩ rfl ?_
          refine aw_icmp_eq (off := 13) hC 32 (by decide +kernel) (by decide) (fun h => ?_) (fun h => ?_)
          · have hF := (if_pos h).symm.trans hF
            refine aw_run (pc' := 37) hC [(.iload_n 3, 1, 0, 0, .null), (.istore_n 2, 1, 0, 0, .null), (.iinc 3 1, 3, 0, 0, .int 1)] (by decide +kernel) [(0, .ref 12), (1, .int a1), (2, .int a3), (3, .int (a3 + 1))] [] σ rfl rfl ⟨trivial, trivial, trivial, trivial⟩ rfl ?_
            refine aw_goto (off := -33) hC 4 (by decide +kernel) (by decide) ?_
            exact ih a1 a3 (a3 + 1) hF
          · have hF := (if_neg h).symm.trans hF
            refine aw_run (pc' := 26) hC [(.aload_n 0, 1, 0, 0, .null), (.iload_n 1, 1, 0, 0, .null), (.iload_n 2, 1, 0, 0, .null), (.iload_n 3, 1, 0, 0, .null)] (by decide +kernel) [(0, .ref 12), (1, .int a1), (2, .int a2), (3, .int a3)] [.int a3, .int a2, .int a1, .ref 12] σ rfl rfl ⟨trivial, trivial, trivial, trivial, trivial⟩ rfl ?_
            obtain ⟨q1, eq1, hF⟩ := bd hF
            refine aw_callV hC hA (rest := []) (c_hu_isBeyond σ a1 a2 a3 q1 eq1) mt_X1_isBeyond ln_1_80 (by decide +kernel) ⟨_, rfl⟩ rfl rfl (Nat.le_of_ble_eq_true rfl) ⟨⟨rfl, rfl⟩, Nat.le_of_ble_eq_true rfl, Nat.le_of_ble_eq_true rfl⟩ ⟨Nat.zero_le _, Nat.zero_le _⟩ rfl ?_
            refine aw_if_eq (off := 5) hC 34 Iff.rfl (by decide +kernel) (by decide) (fun h => ?_) (fun h => ?_)
            · have hF := (if_pos h).symm.trans hF
              refine aw_run (pc' := 37) hC [(.iinc 3 1, 3, 0, 0, .int 1)] (by decide +kernel) [(0, .ref 12), (1, .int a1), (2, .int a2), (3, .int (a3 + 1))] [] σ rfl rfl ⟨trivial, trivial⟩ rfl ?_
              refine aw_goto (off := -33) hC 4 (by decide +kernel) (by decide) ?_
              exact ih a1 a2 (a3 + 1) hF
            · have hF := (if_neg h).symm.trans hF
              refine aw_run (pc' := 37) hC [(.iload_n 3, 1, 0, 0, .null), (.istore_n 2, 1, 0, 0, .null), (.iinc 3 1, 3, 0, 0, .int 1)] (by decide +kernel) [(0, .ref 12), (1, .int a1), (2, .int a3), (3, .int (a3 + 1))] [] σ rfl rfl ⟨trivial, trivial, trivial, trivial⟩ rfl ?_
              refine aw_goto (off := -33) hC 4 (by decide +kernel) (by decide) ?_
              exact ih a1 a3 (a3 + 1) hF
  unfold f_hu_next at hF
  refine aw_run (pc' := 4) hC [(.iload_n 1, 1, 0, 0, .null), (.istore_n 2, 1, 0, 0, .null), (.iconst 0, 1, 0, 0, .int 0), (.istore_n 3, 1, 0, 0, .null)] (by decide +kernel) [(0, .ref 12), (1, .int a1), (2, .int a1), (3, .int 0)] [] σ rfl rfl ⟨trivial, trivial, trivial, trivial, trivial⟩ rfl ?_
  exact Jc4 N a1 a1 0 hF
def f_hu_wrap_c25_s (N : Nat) (kc25 : Int32 → Int32 → Sg → Option Sg) (a2 : Int32) (a3 : Int32) (σ : Sg) : Option Sg := if ib a3 16 then if ib (σ.1 12 5) 16 then nm (uI σ 15 (σ.1 12 5).toNatClampNeg (σ.1 13 a3.toNatClampNeg)) fun σ6 => if ib (σ6.1 12 5) 16 then nm (uI σ6 16 (σ6.1 12 5).toNatClampNeg (σ6.1 14 a3.toNatClampNeg)) fun σ8 => nm (uI σ8 12 5 ((σ8.1 12 5) + 1)) fun σ9 => (f_hu_next N σ9 a3).bind fun q10 => if q10 = a2 then (some σ9) else (if (σ9.1 12 5) < 16 then (kc25 a2 q10 σ9) else (some σ9)) else none else none else none
def f_hu_wrap_c25 (N : Nat) : Nat → Int32 → Int32 → Sg → Option Sg
  | 0 => fun _ _ _ => none
  | n + 1 => f_hu_wrap_c25_s N (f_hu_wrap_c25 N n)
def f_hu_wrap (N : Nat) (σ : Sg) : Option Sg := (f_hu_collect N σ).bind fun q1 => nm (uI q1 12 5 0) fun σ2 => if (σ2.1 12 2) = 0 then (some σ2) else ((f_hu_leftmost N σ2).bind fun q3 => f_hu_wrap_c25 N N q3 q3 σ2)
def rm_hu_wrap : Room := { frames := 3, cells := 0, slots := 0, locals := 72 }
set_option maxHeartbeats 4000000 in
set_option maxRecDepth 100000 in
theorem c_hu_wrap (N : Nat) (σ : Sg) (z : Sg) (hF : f_hu_wrap N σ = some z) : Ctr yX1_wrap cX1_wrap 4 none rm_hu_wrap [.ref 12, .ref 4] σ none z := by
  refine ct_start 1 (by decide) rfl (fun ad => Nat.le_of_ble_eq_true rfl) [(0, .ref 12), (1, .ref 4)] (fun ad => rfl) ?_
  intro p l e s m args below meth c D ad tc A hC hA hr
  have Jc25 : ∀ (n : Nat) (a2 : Int32) (a3 : Int32) (σ : Sg), f_hu_wrap_c25 N n a2 a3 σ = some z → AW p l e rm_hu_wrap s m args below meth c D ad tc 4 A s.heap 0 0 (MQ below (Qr none D ad tc z A) args s 0 0 A) 25 [(0, .ref 12), (2, .int a2), (3, .int a3)] [] σ := by
    intro n
    induction n with
    | zero =>
      intro a2 a3 σ hF
      cases hF
    | succ n ih =>
      intro a2 a3 σ hF
      have hF : f_hu_wrap_c25_s N (f_hu_wrap_c25 N n) a2 a3 σ = some z := hF
      unfold f_hu_wrap_c25_s at hF
      obtain ⟨g4, hF⟩ := gd hF
      obtain ⟨g5, hF⟩ := gd hF
      obtain ⟨σ6, hσ6, hF⟩ := nmd hF
      refine aw_run (pc' := 40) hC [(.aload_n 0, 1, 0, 0, .null), (.getfield 18, 3, 1, 3, .null), (.aload_n 0, 1, 0, 0, .null), (.getfield 28, 3, 1, 5, .null), (.aload_n 0, 1, 0, 0, .null), (.getfield 11, 3, 1, 0, .null), (.iload_n 3, 1, 0, 0, .null), (.iaload, 1, 0, 0, .null), (.iastore, 1, 0, 0, .null)] (by decide +kernel) [(0, .ref 12), (2, .int a2), (3, .int a3)] [] (uI σ 15 (σ.1 12 5).toNatClampNeg (σ.1 13 a3.toNatClampNeg)) rfl rfl ⟨trivial, trivial, trivial, trivial, trivial, trivial, trivial, g4, g5, trivial⟩ hσ6 ?_
      obtain ⟨g7, hF⟩ := gd hF
      obtain ⟨σ8, hσ8, hF⟩ := nmd hF
      refine aw_run (pc' := 55) hC [(.aload_n 0, 1, 0, 0, .null), (.getfield 21, 3, 1, 4, .null), (.aload_n 0, 1, 0, 0, .null), (.getfield 28, 3, 1, 5, .null), (.aload_n 0, 1, 0, 0, .null), (.getfield 15, 3, 1, 1, .null), (.iload_n 3, 1, 0, 0, .null), (.iaload, 1, 0, 0, .null), (.iastore, 1, 0, 0, .null)] (by decide +kernel) [(0, .ref 12), (2, .int a2), (3, .int a3)] [] (uI σ6 16 (σ6.1 12 5).toNatClampNeg (σ6.1 14 a3.toNatClampNeg)) rfl rfl ⟨trivial, trivial, trivial, trivial, trivial, trivial, trivial, g4, g7, trivial⟩ hσ8 ?_
      obtain ⟨σ9, hσ9, hF⟩ := nmd hF
      refine aw_run (pc' := 65) hC [(.aload_n 0, 1, 0, 0, .null), (.dup, 1, 0, 0, .null), (.getfield 28, 3, 1, 5, .null), (.iconst 1, 1, 0, 0, .int 1), (.iadd, 1, 0, 0, .null), (.putfield 28, 3, 1, 5, .null)] (by decide +kernel) [(0, .ref 12), (2, .int a2), (3, .int a3)] [] (uI σ8 12 5 ((σ8.1 12 5) + 1)) rfl rfl ⟨trivial, trivial, trivial, trivial, trivial, trivial, trivial⟩ hσ9 ?_
      refine aw_run (pc' := 67) hC [(.aload_n 0, 1, 0, 0, .null), (.iload_n 3, 1, 0, 0, .null)] (by decide +kernel) [(0, .ref 12), (2, .int a2), (3, .int a3)] [.int a3, .ref 12] σ9 rfl rfl ⟨trivial, trivial, trivial⟩ rfl ?_
      obtain ⟨q10, eq10, hF⟩ := bd hF
      refine aw_callV hC hA (rest := []) (c_hu_next N σ9 a3 q10 eq10) mt_X1_next ln_1_39 (by decide +kernel) ⟨_, rfl⟩ rfl rfl (Nat.le_of_ble_eq_true rfl) ⟨⟨rfl, rfl⟩, Nat.le_of_ble_eq_true rfl, Nat.le_of_ble_eq_true rfl⟩ ⟨Nat.zero_le _, Nat.zero_le _⟩ rfl ?_
      refine aw_run (pc' := 73) hC [(.istore_n 3, 1, 0, 0, .null), (.iload_n 3, 1, 0, 0, .null), (.iload_n 2, 1, 0, 0, .null)] (by decide +kernel) [(0, .ref 12), (2, .int a2), (3, .int q10)] [.int a2, .int q10] σ9 rfl rfl ⟨trivial, trivial, trivial, trivial⟩ rfl ?_
      refine aw_icmp_eq (off := 12) hC 85 (by decide +kernel) (by decide) (fun h => ?_) (fun h => ?_)
      · have hF := (if_pos h).symm.trans hF
        exact aw_vret hC hr (by decide +kernel)  (Option.some.inj hF)
      · have hF := (if_neg h).symm.trans hF
        refine aw_run (pc' := 82) hC [(.aload_n 0, 1, 0, 0, .null), (.getfield 28, 3, 1, 5, .null), (.bipush 16, 2, 0, 0, .int 16)] (by decide +kernel) [(0, .ref 12), (2, .int a2), (3, .int q10)] [.int 16, .int (σ9.1 12 5)] σ9 rfl rfl ⟨trivial, trivial, trivial, trivial⟩ rfl ?_
        refine aw_icmp_lt (off := -57) hC 25 (by decide +kernel) (by decide) (fun h => ?_) (fun h => ?_)
        · have hF := (if_pos h).symm.trans hF
          exact ih a2 q10 σ9 hF
        · have hF := (if_neg h).symm.trans hF
          exact aw_vret hC hr (by decide +kernel)  (Option.some.inj hF)
  unfold f_hu_wrap at hF
  refine aw_run (pc' := 2) hC [(.aload_n 0, 1, 0, 0, .null), (.aload_n 1, 1, 0, 0, .null)] (by decide +kernel) [(0, .ref 12), (1, .ref 4)] [.ref 4, .ref 12] σ rfl rfl ⟨trivial, trivial, trivial⟩ rfl ?_
  obtain ⟨q1, eq1, hF⟩ := bd hF
  refine aw_callV hC hA (rest := []) (c_hu_collect N σ q1 eq1) mt_X1_collect ln_1_24 (by decide +kernel) ⟨_, rfl⟩ rfl rfl (Nat.le_of_ble_eq_true rfl) ⟨⟨rfl, rfl⟩, Nat.le_of_ble_eq_true rfl, Nat.le_of_ble_eq_true rfl⟩ ⟨Nat.zero_le _, Nat.zero_le _⟩ rfl ?_
  obtain ⟨σ2, hσ2, hF⟩ := nmd hF
  refine aw_run (pc' := 10) hC [(.aload_n 0, 1, 0, 0, .null), (.iconst 0, 1, 0, 0, .int 0), (.putfield 28, 3, 1, 5, .null)] (by decide +kernel) [(0, .ref 12), (1, .ref 4)] [] (uI q1 12 5 0) rfl rfl ⟨trivial, trivial, trivial, trivial⟩ hσ2 ?_
  refine aw_run (pc' := 14) hC [(.aload_n 0, 1, 0, 0, .null), (.getfield 32, 3, 1, 2, .null)] (by decide +kernel) [(0, .ref 12), (1, .ref 4)] [.int (σ2.1 12 2)] σ2 rfl rfl ⟨trivial, trivial, trivial⟩ rfl ?_
  refine aw_if_ne (off := 4) hC 18 Iff.rfl (by decide +kernel) (by decide) (fun h => ?_) (fun h => ?_)
  · have hF := (if_neg h).symm.trans hF
    refine aw_run (pc' := 19) hC [(.aload_n 0, 1, 0, 0, .null)] (by decide +kernel) [(0, .ref 12), (1, .ref 4)] [.ref 12] σ2 rfl rfl ⟨trivial, trivial⟩ rfl ?_
    obtain ⟨q3, eq3, hF⟩ := bd hF
    refine aw_callV hC hA (rest := []) (c_hu_leftmost N σ2 q3 eq3) mt_X1_leftmost ln_1_35 (by decide +kernel) ⟨_, rfl⟩ rfl rfl (Nat.le_of_ble_eq_true rfl) ⟨⟨rfl, rfl⟩, Nat.le_of_ble_eq_true rfl, Nat.le_of_ble_eq_true rfl⟩ ⟨Nat.zero_le _, Nat.zero_le _⟩ rfl ?_
    refine aw_run (pc' := 25) hC [(.istore_n 2, 1, 0, 0, .null), (.iload_n 2, 1, 0, 0, .null), (.istore_n 3, 1, 0, 0, .null)] (by decide +kernel) [(0, .ref 12), (1, .ref 4), (2, .int q3), (3, .int q3)] [] σ2 rfl rfl ⟨trivial, trivial, trivial, trivial⟩ rfl ?_
    refine aw_pick [0, 2, 3] [(0, .ref 12), (2, .int q3), (3, .int q3)] rfl ?_
    exact Jc25 N q3 q3 σ2 hF
  · have hF := (if_pos h).symm.trans hF
    exact aw_vret hC hr (by decide +kernel)  (Option.some.inj hF)
def f_ss_settle (N : Nat) (σ : Sg) : Option Sg := (f_ve_judge N σ).bind fun q1 => (f_hu_wrap N q1).bind fun q2 => some q2
def rm_ss_settle : Room := { frames := 5, cells := 0, slots := 0, locals := 119 }
set_option maxHeartbeats 4000000 in
set_option maxRecDepth 100000 in
theorem c_ss_settle (N : Nat) (σ : Sg) (z : Sg) (hF : f_ss_settle N σ = some z) : Ctr yX6_settle cX6_settle 1 none rm_ss_settle [.ref 0] σ none z := by
  refine ct_start 6 (by decide) rfl (fun ad => Nat.le_of_ble_eq_true rfl) [(0, .ref 0)] (fun ad => rfl) ?_
  intro p l e s m args below meth c D ad tc A hC hA hr
  unfold f_ss_settle at hF
  refine aw_run (pc' := 8) hC [(.aload_n 0, 1, 0, 0, .null), (.getfield 30, 3, 6, 3, .null), (.aload_n 0, 1, 0, 0, .null), (.getfield 23, 3, 6, 2, .null)] (by decide +kernel) [(0, .ref 0)] [.ref 4, .ref 10] σ rfl rfl ⟨trivial, trivial, trivial, trivial, trivial⟩ rfl ?_
  obtain ⟨q1, eq1, hF⟩ := bd hF
  refine aw_callV hC hA (rest := []) (c_ve_judge N σ q1 eq1) mt_X5_judge ln_6_224 (by decide +kernel) ⟨_, rfl⟩ rfl rfl (Nat.le_of_ble_eq_true rfl) ⟨⟨rfl, rfl⟩, Nat.le_of_ble_eq_true rfl, Nat.le_of_ble_eq_true rfl⟩ ⟨Nat.zero_le _, Nat.zero_le _⟩ rfl ?_
  refine aw_run (pc' := 19) hC [(.aload_n 0, 1, 0, 0, .null), (.getfield 37, 3, 6, 4, .null), (.aload_n 0, 1, 0, 0, .null), (.getfield 23, 3, 6, 2, .null)] (by decide +kernel) [(0, .ref 0)] [.ref 4, .ref 12] q1 rfl rfl ⟨trivial, trivial, trivial, trivial, trivial⟩ rfl ?_
  obtain ⟨q2, eq2, hF⟩ := bd hF
  refine aw_callV hC hA (rest := []) (c_hu_wrap N q1 q2 eq2) mt_X1_wrap ln_6_228 (by decide +kernel) ⟨_, rfl⟩ rfl rfl (Nat.le_of_ble_eq_true rfl) ⟨⟨rfl, rfl⟩, Nat.le_of_ble_eq_true rfl, Nat.le_of_ble_eq_true rfl⟩ ⟨Nat.zero_le _, Nat.zero_le _⟩ rfl ?_
  exact aw_vret hC hr (by decide +kernel)  (Option.some.inj hF)
def f_ss_report (N : Nat) (σ : Sg) : Option (Int32 × Sg) := (f_ss_readPage N σ).bind fun q1 => if q1.1 < (q1.2.1 0 6) then (some (-100000004, q1.2)) else (if (f_re_isWhole q1.2) = 0 then (some (-100000004, q1.2)) else (if (f_re_isSound q1.2) = 0 then (some (-100000004, q1.2)) else ((f_re_number q1.2 0).bind fun q2 => (f_ro_find N q1.2 q2).bind fun q3 => if q3 < 0 then (if (f_ro_isFull q1.2) = 0 then ((f_ro_add q1.2).bind fun q4 => nm (uI q4 0 7 ((q4.1 0 7) + 1)) fun σ5 => nm (uI σ5 0 6 0) fun σ6 => (f_ss_settle N σ6).bind fun q7 => some ((q7.1 4 5) - 1, q7)) else (some (-100000005, q1.2))) else (some (-100000004, q1.2)))))
def rm_ss_report : Room := { frames := 6, cells := 0, slots := 0, locals := 139 }
set_option maxHeartbeats 4000000 in
set_option maxRecDepth 100000 in
theorem c_ss_report (N : Nat) (σ : Sg) (z : Int32 × Sg) (hF : f_ss_report N σ = some z) : Ctr yX6_report cX6_report 1 (some .int) rm_ss_report [.ref 0] σ (some (.int z.1)) z.2 := by
  refine ct_start 6 (by decide) rfl (fun ad => Nat.le_of_ble_eq_true rfl) [(0, .ref 0)] (fun ad => rfl) ?_
  intro p l e s m args below meth c D ad tc A hC hA hr
  unfold f_ss_report at hF
  refine aw_run (pc' := 1) hC [(.aload_n 0, 1, 0, 0, .null)] (by decide +kernel) [(0, .ref 0)] [.ref 0] σ rfl rfl ⟨trivial, trivial⟩ rfl ?_
  obtain ⟨q1, eq1, hF⟩ := bd hF
  refine aw_callV hC hA (rest := []) (c_ss_readPage N σ q1 eq1) mt_X6_readPage ln_6_54 (by decide +kernel) ⟨_, rfl⟩ rfl rfl (Nat.le_of_ble_eq_true rfl) ⟨⟨rfl, rfl⟩, Nat.le_of_ble_eq_true rfl, Nat.le_of_ble_eq_true rfl⟩ ⟨Nat.zero_le _, Nat.zero_le _⟩ rfl ?_
  refine aw_run (pc' := 8) hC [(.aload_n 0, 1, 0, 0, .null), (.getfield 49, 3, 6, 6, .null)] (by decide +kernel) [(0, .ref 0)] [.int (q1.2.1 0 6), .int q1.1] q1.2 rfl rfl ⟨trivial, trivial, trivial⟩ rfl ?_
  refine aw_icmp_lt (off := 41) hC 49 (by decide +kernel) (by decide) (fun h => ?_) (fun h => ?_)
  · have hF := (if_pos h).symm.trans hF
    refine aw_run (pc' := 51) hC [(.ldc 72, 2, 0, 0, .int (-100000004))] (by decide +kernel) [(0, .ref 0)] [.int (-100000004)] q1.2 rfl rfl ⟨trivial, trivial⟩ rfl ?_
    exact aw_iret hC hr (by decide +kernel) (pS1 hF) (pS2 hF)
  · have hF := (if_neg h).symm.trans hF
    refine aw_run (pc' := 15) hC [(.aload_n 0, 1, 0, 0, .null), (.getfield 16, 3, 6, 1, .null)] (by decide +kernel) [(0, .ref 0)] [.ref 2] q1.2 rfl rfl ⟨trivial, trivial, trivial⟩ rfl ?_
    refine aw_callV hC hA (rest := []) (c_re_isWhole q1.2 _ rfl) mt_X2_isWhole ln_6_58 (by decide +kernel) ⟨_, rfl⟩ rfl rfl (Nat.le_of_ble_eq_true rfl) ⟨⟨rfl, rfl⟩, Nat.le_of_ble_eq_true rfl, Nat.le_of_ble_eq_true rfl⟩ ⟨Nat.zero_le _, Nat.zero_le _⟩ rfl ?_
    refine aw_if_eq (off := 31) hC 49 Iff.rfl (by decide +kernel) (by decide) (fun h => ?_) (fun h => ?_)
    · have hF := (if_pos h).symm.trans hF
      refine aw_run (pc' := 51) hC [(.ldc 72, 2, 0, 0, .int (-100000004))] (by decide +kernel) [(0, .ref 0)] [.int (-100000004)] q1.2 rfl rfl ⟨trivial, trivial⟩ rfl ?_
      exact aw_iret hC hr (by decide +kernel) (pS1 hF) (pS2 hF)
    · have hF := (if_neg h).symm.trans hF
      refine aw_run (pc' := 25) hC [(.aload_n 0, 1, 0, 0, .null), (.getfield 16, 3, 6, 1, .null)] (by decide +kernel) [(0, .ref 0)] [.ref 2] q1.2 rfl rfl ⟨trivial, trivial, trivial⟩ rfl ?_
      refine aw_callV hC hA (rest := []) (c_re_isSound q1.2 _ rfl) mt_X2_isSound ln_6_62 (by decide +kernel) ⟨_, rfl⟩ rfl rfl (Nat.le_of_ble_eq_true rfl) ⟨⟨rfl, rfl⟩, Nat.le_of_ble_eq_true rfl, Nat.le_of_ble_eq_true rfl⟩ ⟨Nat.zero_le _, Nat.zero_le _⟩ rfl ?_
      refine aw_if_eq (off := 21) hC 49 Iff.rfl (by decide +kernel) (by decide) (fun h => ?_) (fun h => ?_)
      · have hF := (if_pos h).symm.trans hF
        refine aw_run (pc' := 51) hC [(.ldc 72, 2, 0, 0, .int (-100000004))] (by decide +kernel) [(0, .ref 0)] [.int (-100000004)] q1.2 rfl rfl ⟨trivial, trivial⟩ rfl ?_
        exact aw_iret hC hr (by decide +kernel) (pS1 hF) (pS2 hF)
      · have hF := (if_neg h).symm.trans hF
        refine aw_run (pc' := 40) hC [(.aload_n 0, 1, 0, 0, .null), (.getfield 23, 3, 6, 2, .null), (.aload_n 0, 1, 0, 0, .null), (.getfield 16, 3, 6, 1, .null), (.iconst 0, 1, 0, 0, .int 0)] (by decide +kernel) [(0, .ref 0)] [.int 0, .ref 2, .ref 4] q1.2 rfl rfl ⟨trivial, trivial, trivial, trivial, trivial, trivial⟩ rfl ?_
        obtain ⟨q2, eq2, hF⟩ := bd hF
        refine aw_callV hC hA (rest := [.ref 4]) (c_re_number q1.2 0 q2 eq2) mt_X2_number ln_6_65 (by decide +kernel) ⟨_, rfl⟩ rfl rfl (Nat.le_of_ble_eq_true rfl) ⟨⟨rfl, rfl⟩, Nat.le_of_ble_eq_true rfl, Nat.le_of_ble_eq_true rfl⟩ ⟨Nat.zero_le _, Nat.zero_le _⟩ rfl ?_
        obtain ⟨q3, eq3, hF⟩ := bd hF
        refine aw_callV hC hA (rest := []) (c_ro_find N q1.2 q2 q3 eq3) mt_X3_find ln_6_69 (by decide +kernel) ⟨_, rfl⟩ rfl rfl (Nat.le_of_ble_eq_true rfl) ⟨⟨rfl, rfl⟩, Nat.le_of_ble_eq_true rfl, Nat.le_of_ble_eq_true rfl⟩ ⟨Nat.zero_le _, Nat.zero_le _⟩ rfl ?_
        refine aw_if_lt (off := 6) hC 52 Iff.rfl (by decide +kernel) (by decide) (fun h => ?_) (fun h => ?_)
        · have hF := (if_pos h).symm.trans hF
          refine aw_run (pc' := 56) hC [(.aload_n 0, 1, 0, 0, .null), (.getfield 23, 3, 6, 2, .null)] (by decide +kernel) [(0, .ref 0)] [.ref 4] q1.2 rfl rfl ⟨trivial, trivial, trivial⟩ rfl ?_
          refine aw_callV hC hA (rest := []) (c_ro_isFull q1.2 _ rfl) mt_X3_isFull ln_6_73 (by decide +kernel) ⟨_, rfl⟩ rfl rfl (Nat.le_of_ble_eq_true rfl) ⟨⟨rfl, rfl⟩, Nat.le_of_ble_eq_true rfl, Nat.le_of_ble_eq_true rfl⟩ ⟨Nat.zero_le _, Nat.zero_le _⟩ rfl ?_
          refine aw_if_eq (off := 6) hC 65 Iff.rfl (by decide +kernel) (by decide) (fun h => ?_) (fun h => ?_)
          · have hF := (if_pos h).symm.trans hF
            refine aw_run (pc' := 73) hC [(.aload_n 0, 1, 0, 0, .null), (.getfield 23, 3, 6, 2, .null), (.aload_n 0, 1, 0, 0, .null), (.getfield 16, 3, 6, 1, .null)] (by decide +kernel) [(0, .ref 0)] [.ref 2, .ref 4] q1.2 rfl rfl ⟨trivial, trivial, trivial, trivial, trivial⟩ rfl ?_
            obtain ⟨q4, eq4, hF⟩ := bd hF
            refine aw_callV hC hA (rest := []) (c_ro_add q1.2 q4 eq4) mt_X3_add ln_6_76 (by decide +kernel) ⟨_, rfl⟩ rfl rfl (Nat.le_of_ble_eq_true rfl) ⟨⟨rfl, rfl⟩, Nat.le_of_ble_eq_true rfl, Nat.le_of_ble_eq_true rfl⟩ ⟨Nat.zero_le _, Nat.zero_le _⟩ rfl ?_
            obtain ⟨σ5, hσ5, hF⟩ := nmd hF
            refine aw_run (pc' := 86) hC [(.aload_n 0, 1, 0, 0, .null), (.dup, 1, 0, 0, .null), (.getfield 80, 3, 6, 7, .null), (.iconst 1, 1, 0, 0, .int 1), (.iadd, 1, 0, 0, .null), (.putfield 80, 3, 6, 7, .null)] (by decide +kernel) [(0, .ref 0)] [] (uI q4 0 7 ((q4.1 0 7) + 1)) rfl rfl ⟨trivial, trivial, trivial, trivial, trivial, trivial, trivial⟩ hσ5 ?_
            obtain ⟨σ6, hσ6, hF⟩ := nmd hF
            refine aw_run (pc' := 91) hC [(.aload_n 0, 1, 0, 0, .null), (.iconst 0, 1, 0, 0, .int 0), (.putfield 49, 3, 6, 6, .null)] (by decide +kernel) [(0, .ref 0)] [] (uI σ5 0 6 0) rfl rfl ⟨trivial, trivial, trivial, trivial⟩ hσ6 ?_
            refine aw_run (pc' := 92) hC [(.aload_n 0, 1, 0, 0, .null)] (by decide +kernel) [(0, .ref 0)] [.ref 0] σ6 rfl rfl ⟨trivial, trivial⟩ rfl ?_
            obtain ⟨q7, eq7, hF⟩ := bd hF
            refine aw_callV hC hA (rest := []) (c_ss_settle N σ6 q7 eq7) mt_X6_settle ln_6_83 (by decide +kernel) ⟨_, rfl⟩ rfl rfl (Nat.le_of_ble_eq_true rfl) ⟨⟨rfl, rfl⟩, Nat.le_of_ble_eq_true rfl, Nat.le_of_ble_eq_true rfl⟩ ⟨Nat.zero_le _, Nat.zero_le _⟩ rfl ?_
            refine aw_run (pc' := 104) hC [(.aload_n 0, 1, 0, 0, .null), (.getfield 23, 3, 6, 2, .null), (.getfield 86, 3, 3, 5, .null), (.iconst 1, 1, 0, 0, .int 1), (.isub, 1, 0, 0, .null)] (by decide +kernel) [(0, .ref 0)] [.int ((q7.1 4 5) - 1)] q7 rfl rfl ⟨trivial, trivial, trivial, trivial, trivial, trivial⟩ rfl ?_
            exact aw_iret hC hr (by decide +kernel) (pS1 hF) (pS2 hF)
          · have hF := (if_neg h).symm.trans hF
            refine aw_run (pc' := 64) hC [(.ldc 53, 2, 0, 0, .int (-100000005))] (by decide +kernel) [(0, .ref 0)] [.int (-100000005)] q1.2 rfl rfl ⟨trivial, trivial⟩ rfl ?_
            exact aw_iret hC hr (by decide +kernel) (pS1 hF) (pS2 hF)
        · have hF := (if_neg h).symm.trans hF
          refine aw_run (pc' := 51) hC [(.ldc 72, 2, 0, 0, .int (-100000004))] (by decide +kernel) [(0, .ref 0)] [.int (-100000004)] q1.2 rfl rfl ⟨trivial, trivial⟩ rfl ?_
          exact aw_iret hC hr (by decide +kernel) (pS1 hF) (pS2 hF)
