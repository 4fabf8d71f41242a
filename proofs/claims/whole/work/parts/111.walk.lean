def f_mo_layCorners_c107_s (N : Nat) (kc107 : Int32 → Int32 → Sg → Option Sg) (a1 : Int32) (a2 : Int32) (σ : Sg) : Option Sg := if a2 = a1 then (some σ) else (if ib (σ.1 20 19) 17 then nm (uI σ 30 (σ.1 20 19).toNatClampNeg a2) fun σ7 => nm (uI σ7 20 19 ((σ7.1 20 19) + 1)) fun σ8 => (f_mo_nextCorner N σ8 a2).bind fun q9 => kc107 a1 q9 σ8 else none)
def f_mo_layCorners_c107 (N : Nat) : Nat → Int32 → Int32 → Sg → Option Sg
  | 0 => fun _ _ _ => none
  | n + 1 => f_mo_layCorners_c107_s N (f_mo_layCorners_c107 N n)
def f_mo_layCorners_c21_s (N : Nat) (kc21 : Int32 → Int32 → Sg → Option Sg) (a1 : Int32) (a2 : Int32) (σ : Sg) : Option Sg := if (σ.1 20 16) ≤ a2 then (nm (uI σ 30 0 a1) fun σ3 => nm (uI σ3 20 19 1) fun σ4 => (f_mo_nextCorner N σ4 a1).bind fun q5 => f_mo_layCorners_c107 N N a1 q5 σ4) else (if ib a2 16 then if ib a1 16 then if (σ.2 28 a2.toNatClampNeg) < (σ.2 28 a1.toNatClampNeg) then (kc21 a2 (a2 + 1) σ) else (if (σ.2 28 a2.toNatClampNeg) = (σ.2 28 a1.toNatClampNeg) then (if (σ.2 29 a1.toNatClampNeg) ≤ (σ.2 29 a2.toNatClampNeg) then (kc21 a1 (a2 + 1) σ) else (kc21 a2 (a2 + 1) σ)) else (kc21 a1 (a2 + 1) σ)) else none else none)
def f_mo_layCorners_c21 (N : Nat) : Nat → Int32 → Int32 → Sg → Option Sg
  | 0 => fun _ _ _ => none
  | n + 1 => f_mo_layCorners_c21_s N (f_mo_layCorners_c21 N n)
def f_mo_layCorners (N : Nat) (σ : Sg) : Option Sg := (f_mo_layPoints N σ).bind fun q1 => nm (uI q1 20 19 0) fun σ2 => if (σ2.1 20 16) = 0 then (some σ2) else (f_mo_layCorners_c21 N N 0 1 σ2)
def rm_mo_layCorners : Room := { frames := 2, cells := 0, slots := 0, locals := 49 }
set_option maxHeartbeats 4000000 in
set_option maxRecDepth 100000 in
theorem c_mo_layCorners (N : Nat) (σ : Sg) (z : Sg) (hF : f_mo_layCorners N σ = some z) : Ctr yX7_layCorners cX7_layCorners 3 none rm_mo_layCorners [.ref 20] σ none z := by
  refine ct_start 7 (by decide) rfl (fun ad => Nat.le_of_ble_eq_true rfl) [(0, .ref 20)] (fun ad => rfl) ?_
  intro p l e s m args below meth c D ad tc A hC hA hr
  have Jc107 : ∀ (n : Nat) (a1 : Int32) (a2 : Int32) (σ : Sg), f_mo_layCorners_c107 N n a1 a2 σ = some z → AW p l e rm_mo_layCorners s m args below meth c D ad tc 3 A s.heap 0 0 (MQ below (Qr none D ad tc z A) args s 0 0 A) 107 [(0, .ref 20), (1, .int a1), (2, .int a2)] [] σ := by
    intro n
    induction n with
    | zero =>
      intro a1 a2 σ hF
      cases hF
    | succ n ih =>
      intro a1 a2 σ hF
      have hF : f_mo_layCorners_c107_s N (f_mo_layCorners_c107 N n) a1 a2 σ = some z := hF
      unfold f_mo_layCorners_c107_s at hF
      refine aw_run (pc' := 109) hC [(.iload_n 2, 1, 0, 0, .null), (.iload_n 1, 1, 0, 0, .null)] (by decide +kernel) [(0, .ref 20), (1, .int a1), (2, .int a2)] [.int a1, .int a2] σ rfl rfl ⟨trivial, trivial, trivial⟩ rfl ?_
      refine aw_icmp_eq (off := 32) hC 141 (by decide +kernel) (by decide) (fun h => ?_) (fun h => ?_)
      · have hF := (if_pos h).symm.trans hF
        exact aw_vret hC hr (by decide +kernel)  (Option.some.inj hF)
      · have hF := (if_neg h).symm.trans hF
        obtain ⟨g6, hF⟩ := gd hF
        obtain ⟨σ7, hσ7, hF⟩ := nmd hF
        refine aw_run (pc' := 122) hC [(.aload_n 0, 1, 0, 0, .null), (.getfield 43, 3, 7, 20, .null), (.aload_n 0, 1, 0, 0, .null), (.getfield 174, 3, 7, 19, .null), (.iload_n 2, 1, 0, 0, .null), (.iastore, 1, 0, 0, .null)] (by decide +kernel) [(0, .ref 20), (1, .int a1), (2, .int a2)] [] (uI σ 30 (σ.1 20 19).toNatClampNeg a2) rfl rfl ⟨trivial, trivial, trivial, trivial, trivial, g6, trivial⟩ hσ7 ?_
        obtain ⟨σ8, hσ8, hF⟩ := nmd hF
        refine aw_run (pc' := 132) hC [(.aload_n 0, 1, 0, 0, .null), (.dup, 1, 0, 0, .null), (.getfield 174, 3, 7, 19, .null), (.iconst 1, 1, 0, 0, .int 1), (.iadd, 1, 0, 0, .null), (.putfield 174, 3, 7, 19, .null)] (by decide +kernel) [(0, .ref 20), (1, .int a1), (2, .int a2)] [] (uI σ7 20 19 ((σ7.1 20 19) + 1)) rfl rfl ⟨trivial, trivial, trivial, trivial, trivial, trivial, trivial⟩ hσ8 ?_
        refine aw_run (pc' := 134) hC [(.aload_n 0, 1, 0, 0, .null), (.iload_n 2, 1, 0, 0, .null)] (by decide +kernel) [(0, .ref 20), (1, .int a1), (2, .int a2)] [.int a2, .ref 20] σ8 rfl rfl ⟨trivial, trivial, trivial⟩ rfl ?_
        obtain ⟨q9, eq9, hF⟩ := bd hF
        refine aw_callV hC hA (rest := []) (c_mo_nextCorner N σ8 a2 q9 eq9) mt_X7_nextCorner ln_7_177 (by decide +kernel) ⟨_, rfl⟩ rfl rfl (Nat.le_of_ble_eq_true rfl) ⟨⟨rfl, rfl⟩, Nat.le_of_ble_eq_true rfl, Nat.le_of_ble_eq_true rfl⟩ ⟨Nat.zero_le _, Nat.zero_le _⟩ rfl ?_
        refine aw_run (pc' := 138) hC [(.istore_n 2, 1, 0, 0, .null)] (by decide +kernel) [(0, .ref 20), (1, .int a1), (2, .int q9)] [] σ8 rfl rfl ⟨trivial, trivial⟩ rfl ?_
        refine aw_goto (off := -31) hC 107 (by decide +kernel) (by decide) ?_
        exact ih a1 q9 σ8 hF
  have Jc21 : ∀ (n : Nat) (a1 : Int32) (a2 : Int32) (σ : Sg), f_mo_layCorners_c21 N n a1 a2 σ = some z → AW p l e rm_mo_layCorners s m args below meth c D ad tc 3 A s.heap 0 0 (MQ below (Qr none D ad tc z A) args s 0 0 A) 21 [(0, .ref 20), (1, .int a1), (2, .int a2)] [] σ := by
    intro n
    induction n with
    | zero =>
      intro a1 a2 σ hF
      cases hF
    | succ n ih =>
      intro a1 a2 σ hF
      have hF : f_mo_layCorners_c21_s N (f_mo_layCorners_c21 N n) a1 a2 σ = some z := hF
      unfold f_mo_layCorners_c21_s at hF
      refine aw_run (pc' := 26) hC [(.iload_n 2, 1, 0, 0, .null), (.aload_n 0, 1, 0, 0, .null), (.getfield 160, 3, 7, 16, .null)] (by decide +kernel) [(0, .ref 20), (1, .int a1), (2, .int a2)] [.int (σ.1 20 16), .int a2] σ rfl rfl ⟨trivial, trivial, trivial, trivial⟩ rfl ?_
      refine aw_icmp_ge (off := 63) hC 89 (by decide +kernel) (by decide) (fun h => ?_) (fun h => ?_)
      · have hF := (if_pos h).symm.trans hF
        obtain ⟨σ3, hσ3, hF⟩ := nmd hF
        refine aw_run (pc' := 96) hC [(.aload_n 0, 1, 0, 0, .null), (.getfield 43, 3, 7, 20, .null), (.iconst 0, 1, 0, 0, .int 0), (.iload_n 1, 1, 0, 0, .null), (.iastore, 1, 0, 0, .null)] (by decide +kernel) [(0, .ref 20), (1, .int a1), (2, .int a2)] [] (uI σ 30 0 a1) rfl rfl ⟨trivial, trivial, trivial, trivial, (show ib 0 17 by decide), trivial⟩ hσ3 ?_
        obtain ⟨σ4, hσ4, hF⟩ := nmd hF
        refine aw_run (pc' := 101) hC [(.aload_n 0, 1, 0, 0, .null), (.iconst 1, 1, 0, 0, .int 1), (.putfield 174, 3, 7, 19, .null)] (by decide +kernel) [(0, .ref 20), (1, .int a1), (2, .int a2)] [] (uI σ3 20 19 1) rfl rfl ⟨trivial, trivial, trivial, trivial⟩ hσ4 ?_
        refine aw_run (pc' := 103) hC [(.aload_n 0, 1, 0, 0, .null), (.iload_n 1, 1, 0, 0, .null)] (by decide +kernel) [(0, .ref 20), (1, .int a1), (2, .int a2)] [.int a1, .ref 20] σ4 rfl rfl ⟨trivial, trivial, trivial⟩ rfl ?_
        obtain ⟨q5, eq5, hF⟩ := bd hF
        refine aw_callV hC hA (rest := []) (c_mo_nextCorner N σ4 a1 q5 eq5) mt_X7_nextCorner ln_7_177 (by decide +kernel) ⟨_, rfl⟩ rfl rfl (Nat.le_of_ble_eq_true rfl) ⟨⟨rfl, rfl⟩, Nat.le_of_ble_eq_true rfl, Nat.le_of_ble_eq_true rfl⟩ ⟨Nat.zero_le _, Nat.zero_le _⟩ rfl ?_
        refine aw_run (pc' := 107) hC [(.istore_n 2, 1, 0, 0, .null)] (by decide +kernel) [(0, .ref 20), (1, .int a1), (2, .int q5)] [] σ4 rfl rfl ⟨trivial, trivial⟩ rfl ?_
        exact Jc107 N a1 q5 σ4 hF
      · have hF := (if_neg h).symm.trans hF
        obtain ⟨g10, hF⟩ := gd hF
        obtain ⟨g11, hF⟩ := gd hF
        refine aw_run (pc' := 42) hC [(.aload_n 0, 1, 0, 0, .null), (.getfield 36, 3, 7, 17, .null), (.iload_n 2, 1, 0, 0, .null), (.laload, 1, 0, 0, .null), (.aload_n 0, 1, 0, 0, .null), (.getfield 36, 3, 7, 17, .null), (.iload_n 1, 1, 0, 0, .null), (.laload, 1, 0, 0, .null), (.lcmp, 1, 0, 0, .null)] (by decide +kernel) [(0, .ref 20), (1, .int a1), (2, .int a2)] [.int (lg_cmp (σ.2 28 a2.toNatClampNeg) (σ.2 28 a1.toNatClampNeg))] σ rfl rfl ⟨trivial, trivial, trivial, g10, trivial, trivial, trivial, g11, trivial, trivial⟩ rfl ?_
        refine aw_if_lt (off := 35) hC 77 (lc_lt _ _) (by decide +kernel) (by decide) (fun h => ?_) (fun h => ?_)
        · have hF := (if_pos h).symm.trans hF
          refine aw_run (pc' := 78) hC [(.iload_n 2, 1, 0, 0, .null)] (by decide +kernel) [(0, .ref 20), (1, .int a1), (2, .int a2)] [.int a2] σ rfl rfl ⟨trivial, trivial⟩ rfl ?_
          refine aw_goto (off := 4) hC 82 (by decide +kernel) (by decide) ?_
          refine aw_run (pc' := 86) hC [(.istore_n 1, 1, 0, 0, .null), (.iinc 2 1, 3, 0, 0, .int 1)] (by decide +kernel) [(0, .ref 20), (1, .int a2), (2, .int (a2 + 1))] [] σ rfl rfl ⟨trivial, trivial, trivial⟩ rfl ?_
          refine aw_goto (off := -65) hC 21 (by decide +kernel) (by decide) ?_
          exact ih a2 (a2 + 1) σ hF
        · have hF := (if_neg h).symm.trans hF
          refine aw_run (pc' := 58) hC [(.aload_n 0, 1, 0, 0, .null), (.getfield 36, 3, 7, 17, .null), (.iload_n 2, 1, 0, 0, .null), (.laload, 1, 0, 0, .null), (.aload_n 0, 1, 0, 0, .null), (.getfield 36, 3, 7, 17, .null), (.iload_n 1, 1, 0, 0, .null), (.laload, 1, 0, 0, .null), (.lcmp, 1, 0, 0, .null)] (by decide +kernel) [(0, .ref 20), (1, .int a1), (2, .int a2)] [.int (lg_cmp (σ.2 28 a2.toNatClampNeg) (σ.2 28 a1.toNatClampNeg))] σ rfl rfl ⟨trivial, trivial, trivial, g10, trivial, trivial, trivial, g11, trivial, trivial⟩ rfl ?_
          refine aw_if_ne (off := 23) hC 81 (lc_eq _ _) (by decide +kernel) (by decide) (fun h => ?_) (fun h => ?_)
          · have hF := (if_neg h).symm.trans hF
            refine aw_run (pc' := 86) hC [(.iload_n 1, 1, 0, 0, .null), (.istore_n 1, 1, 0, 0, .null), (.iinc 2 1, 3, 0, 0, .int 1)] (by decide +kernel) [(0, .ref 20), (1, .int a1), (2, .int (a2 + 1))] [] σ rfl rfl ⟨trivial, trivial, trivial, trivial⟩ rfl ?_
            refine aw_goto (off := -65) hC 21 (by decide +kernel) (by decide) ?_
            exact ih a1 (a2 + 1) σ hF
          · have hF := (if_pos h).symm.trans hF
            refine aw_run (pc' := 74) hC [(.aload_n 0, 1, 0, 0, .null), (.getfield 40, 3, 7, 18, .null), (.iload_n 2, 1, 0, 0, .null), (.laload, 1, 0, 0, .null), (.aload_n 0, 1, 0, 0, .null), (.getfield 40, 3, 7, 18, .null), (.iload_n 1, 1, 0, 0, .null), (.laload, 1, 0, 0, .null), (.lcmp, 1, 0, 0, .null)] (by decide +kernel) [(0, .ref 20), (1, .int a1), (2, .int a2)] [.int (lg_cmp (σ.2 29 a2.toNatClampNeg) (σ.2 29 a1.toNatClampNeg))] σ rfl rfl ⟨trivial, trivial, trivial, g10, trivial, trivial, trivial, g11, trivial, trivial⟩ rfl ?_
            refine aw_if_ge (off := 7) hC 81 (lc_ge _ _) (by decide +kernel) (by decide) (fun h => ?_) (fun h => ?_)
            · have hF := (if_pos h).symm.trans hF
              refine aw_run (pc' := 86) hC [(.iload_n 1, 1, 0, 0, .null), (.istore_n 1, 1, 0, 0, .null), (.iinc 2 1, 3, 0, 0, .int 1)] (by decide +kernel) [(0, .ref 20), (1, .int a1), (2, .int (a2 + 1))] [] σ rfl rfl ⟨trivial, trivial, trivial, trivial⟩ rfl ?_
              refine aw_goto (off := -65) hC 21 (by decide +kernel) (by decide) ?_
              exact ih a1 (a2 + 1) σ hF
            · have hF := (if_neg h).symm.trans hF
              refine aw_run (pc' := 78) hC [(.iload_n 2, 1, 0, 0, .null)] (by decide +kernel) [(0, .ref 20), (1, .int a1), (2, .int a2)] [.int a2] σ rfl rfl ⟨trivial, trivial⟩ rfl ?_
              refine aw_goto (off := 4) hC 82 (by decide +kernel) (by decide) ?_
              refine aw_run (pc' := 86) hC [(.istore_n 1, 1, 0, 0, .null), (.iinc 2 1, 3, 0, 0, .int 1)] (by decide +kernel) [(0, .ref 20), (1, .int a2), (2, .int (a2 + 1))] [] σ rfl rfl ⟨trivial, trivial, trivial⟩ rfl ?_
              refine aw_goto (off := -65) hC 21 (by decide +kernel) (by decide) ?_
              exact ih a2 (a2 + 1) σ hF
  unfold f_mo_layCorners at hF
  refine aw_run (pc' := 1) hC [(.aload_n 0, 1, 0, 0, .null)] (by decide +kernel) [(0, .ref 20)] [.ref 20] σ rfl rfl ⟨trivial, trivial⟩ rfl ?_
  obtain ⟨q1, eq1, hF⟩ := bd hF
  refine aw_callV hC hA (rest := []) (c_mo_layPoints N σ q1 eq1) mt_X7_layPoints ln_7_171 (by decide +kernel) ⟨_, rfl⟩ rfl rfl (Nat.le_of_ble_eq_true rfl) ⟨⟨rfl, rfl⟩, Nat.le_of_ble_eq_true rfl, Nat.le_of_ble_eq_true rfl⟩ ⟨Nat.zero_le _, Nat.zero_le _⟩ rfl ?_
  obtain ⟨σ2, hσ2, hF⟩ := nmd hF
  refine aw_run (pc' := 9) hC [(.aload_n 0, 1, 0, 0, .null), (.iconst 0, 1, 0, 0, .int 0), (.putfield 174, 3, 7, 19, .null)] (by decide +kernel) [(0, .ref 20)] [] (uI q1 20 19 0) rfl rfl ⟨trivial, trivial, trivial, trivial⟩ hσ2 ?_
  refine aw_run (pc' := 13) hC [(.aload_n 0, 1, 0, 0, .null), (.getfield 160, 3, 7, 16, .null)] (by decide +kernel) [(0, .ref 20)] [.int (σ2.1 20 16)] σ2 rfl rfl ⟨trivial, trivial, trivial⟩ rfl ?_
  refine aw_if_ne (off := 4) hC 17 Iff.rfl (by decide +kernel) (by decide) (fun h => ?_) (fun h => ?_)
  · have hF := (if_neg h).symm.trans hF
    refine aw_run (pc' := 21) hC [(.iconst 0, 1, 0, 0, .int 0), (.istore_n 1, 1, 0, 0, .null), (.iconst 1, 1, 0, 0, .int 1), (.istore_n 2, 1, 0, 0, .null)] (by decide +kernel) [(0, .ref 20), (1, .int 0), (2, .int 1)] [] σ2 rfl rfl ⟨trivial, trivial, trivial, trivial, trivial⟩ rfl ?_
    exact Jc21 N 0 1 σ2 hF
  · have hF := (if_pos h).symm.trans hF
    exact aw_vret hC hr (by decide +kernel)  (Option.some.inj hF)
def f_mo_widthOn_c36_s (N : Nat) (kc36 : Int32 → Int32 → Int64 → Int32 → Sg → Option Int64) (a2 : Int32) (a3 : Int32) (a4 : Int64) (a6 : Int32) (σ : Sg) : Option Int64 := if (σ.1 20 19) ≤ a6 then ((f_mo_square σ a2 a3).bind fun q3 => if ¬ q3 = 0 then some ((a4 * a4) / q3) else none) else (if ib a6 17 then (f_mo_turn σ a2 a3 (σ.1 30 a6.toNatClampNeg)).bind fun q6 => if q6 ≤ a4 then (kc36 a2 a3 a4 (a6 + 1) σ) else (kc36 a2 a3 q6 (a6 + 1) σ) else none)
def f_mo_widthOn_c36 (N : Nat) : Nat → Int32 → Int32 → Int64 → Int32 → Sg → Option Int64
  | 0 => fun _ _ _ _ _ => none
  | n + 1 => f_mo_widthOn_c36_s N (f_mo_widthOn_c36 N n)
def f_mo_widthOn (N : Nat) (σ : Sg) (a1 : Int32) : Option Int64 := if ib a1 17 then if (a1 + 1) = (σ.1 20 19) then (f_mo_widthOn_c36 N N (σ.1 30 a1.toNatClampNeg) (σ.1 30 0) 0 0 σ) else (if ib (a1 + 1) 17 then f_mo_widthOn_c36 N N (σ.1 30 a1.toNatClampNeg) (σ.1 30 (a1 + 1).toNatClampNeg) 0 0 σ else none) else none
def rm_mo_widthOn : Room := { frames := 1, cells := 0, slots := 0, locals := 23 }
set_option maxHeartbeats 4000000 in
set_option maxRecDepth 100000 in
theorem c_mo_widthOn (N : Nat) (σ : Sg) (a1 : Int32) (z : Int64) (hF : f_mo_widthOn N σ a1 = some z) : Ctr yX7_widthOn cX7_widthOn 9 (some .long) rm_mo_widthOn [.ref 20, .int a1] σ (some (.long z)) σ := by
  refine ct_start 7 (by decide) rfl (fun ad => Nat.le_of_ble_eq_true rfl) [(0, .ref 20), (1, .int a1)] (fun ad => rfl) ?_
  intro p l e s m args below meth c D ad tc A hC hA hr
  have Jc36 : ∀ (n : Nat) (a2 : Int32) (a3 : Int32) (a4 : Int64) (a6 : Int32), f_mo_widthOn_c36 N n a2 a3 a4 a6 σ = some z → AW p l e rm_mo_widthOn s m args below meth c D ad tc 9 A s.heap 0 0 (MQ below (Qr (some (.long z)) D ad tc σ A) args s 0 0 A) 36 [(0, .ref 20), (2, .int a2), (3, .int a3), (4, .long a4), (6, .int a6)] [] σ := by
    intro n
    induction n with
    | zero =>
      intro a2 a3 a4 a6 hF
      cases hF
    | succ n ih =>
      intro a2 a3 a4 a6 hF
      have hF : f_mo_widthOn_c36_s N (f_mo_widthOn_c36 N n) a2 a3 a4 a6 σ = some z := hF
      unfold f_mo_widthOn_c36_s at hF
      refine aw_run (pc' := 42) hC [(.iload 6, 2, 0, 0, .null), (.aload_n 0, 1, 0, 0, .null), (.getfield 174, 3, 7, 19, .null)] (by decide +kernel) [(0, .ref 20), (2, .int a2), (3, .int a3), (4, .long a4), (6, .int a6)] [.int (σ.1 20 19), .int a6] σ rfl rfl ⟨trivial, trivial, trivial, trivial⟩ rfl ?_
      refine aw_icmp_ge (off := 41) hC 83 (by decide +kernel) (by decide) (fun h => ?_) (fun h => ?_)
      · have hF := (if_pos h).symm.trans hF
        refine aw_run (pc' := 91) hC [(.lload 4, 2, 0, 0, .null), (.lload 4, 2, 0, 0, .null), (.lmul, 1, 0, 0, .null), (.aload_n 0, 1, 0, 0, .null), (.iload_n 2, 1, 0, 0, .null), (.iload_n 3, 1, 0, 0, .null)] (by decide +kernel) [(0, .ref 20), (2, .int a2), (3, .int a3), (4, .long a4), (6, .int a6)] [.int a3, .int a2, .ref 20, .long (a4 * a4)] σ rfl rfl ⟨trivial, trivial, trivial, trivial, trivial, trivial, trivial⟩ rfl ?_
        obtain ⟨q3, eq3, hF⟩ := bd hF
        refine aw_callV hC hA (rest := [.long (a4 * a4)]) (c_mo_square σ a2 a3 q3 eq3) mt_X7_square ln_7_167 (by decide +kernel) ⟨_, rfl⟩ rfl rfl (Nat.le_of_ble_eq_true rfl) ⟨⟨rfl, rfl⟩, Nat.le_of_ble_eq_true rfl, Nat.le_of_ble_eq_true rfl⟩ ⟨Nat.zero_le _, Nat.zero_le _⟩ rfl ?_
        obtain ⟨g4, hF⟩ := gd hF
        refine aw_run (pc' := 95) hC [(.ldiv, 1, 0, 0, .null)] (by decide +kernel) [(0, .ref 20), (2, .int a2), (3, .int a3), (4, .long a4), (6, .int a6)] [.long ((a4 * a4) / q3)] σ rfl rfl ⟨g4, trivial⟩ rfl ?_
        exact aw_lret hC hr (by decide +kernel) (Option.some.inj hF) rfl
      · have hF := (if_neg h).symm.trans hF
        obtain ⟨g5, hF⟩ := gd hF
        refine aw_run (pc' := 55) hC [(.aload_n 0, 1, 0, 0, .null), (.iload_n 2, 1, 0, 0, .null), (.iload_n 3, 1, 0, 0, .null), (.aload_n 0, 1, 0, 0, .null), (.getfield 43, 3, 7, 20, .null), (.iload 6, 2, 0, 0, .null), (.iaload, 1, 0, 0, .null)] (by decide +kernel) [(0, .ref 20), (2, .int a2), (3, .int a3), (4, .long a4), (6, .int a6)] [.int (σ.1 30 a6.toNatClampNeg), .int a3, .int a2, .ref 20] σ rfl rfl ⟨trivial, trivial, trivial, trivial, trivial, trivial, g5, trivial⟩ rfl ?_
        obtain ⟨q6, eq6, hF⟩ := bd hF
        refine aw_callV hC hA (rest := []) (c_mo_turn σ a2 a3 (σ.1 30 a6.toNatClampNeg) q6 eq6) mt_X7_turn ln_7_163 (by decide +kernel) ⟨_, rfl⟩ rfl rfl (Nat.le_of_ble_eq_true rfl) ⟨⟨rfl, rfl⟩, Nat.le_of_ble_eq_true rfl, Nat.le_of_ble_eq_true rfl⟩ ⟨Nat.zero_le _, Nat.zero_le _⟩ rfl ?_
        refine aw_run (pc' := 65) hC [(.lstore 7, 2, 0, 0, .null), (.lload 7, 2, 0, 0, .null), (.lload 4, 2, 0, 0, .null), (.lcmp, 1, 0, 0, .null)] (by decide +kernel) [(0, .ref 20), (2, .int a2), (3, .int a3), (4, .long a4), (6, .int a6), (7, .long q6)] [.int (lg_cmp q6 a4)] σ rfl rfl ⟨trivial, trivial, trivial, trivial, trivial⟩ rfl ?_
        refine aw_if_le (off := 8) hC 73 (lc_le _ _) (by decide +kernel) (by decide) (fun h => ?_) (fun h => ?_)
        · have hF := (if_pos h).symm.trans hF
          refine aw_run (pc' := 80) hC [(.lload 4, 2, 0, 0, .null), (.lstore 4, 2, 0, 0, .null), (.iinc 6 1, 3, 0, 0, .int 1)] (by decide +kernel) [(0, .ref 20), (2, .int a2), (3, .int a3), (4, .long a4), (6, .int (a6 + 1)), (7, .long q6)] [] σ rfl rfl ⟨trivial, trivial, trivial, trivial⟩ rfl ?_
          refine aw_goto (off := -44) hC 36 (by decide +kernel) (by decide) ?_
          refine aw_pick [0, 1, 2, 3, 4] [(0, .ref 20), (2, .int a2), (3, .int a3), (4, .long a4), (6, .int (a6 + 1))] rfl ?_
          exact ih a2 a3 a4 (a6 + 1) hF
        · have hF := (if_neg h).symm.trans hF
          refine aw_run (pc' := 70) hC [(.lload 7, 2, 0, 0, .null)] (by decide +kernel) [(0, .ref 20), (2, .int a2), (3, .int a3), (4, .long a4), (6, .int a6), (7, .long q6)] [.long q6] σ rfl rfl ⟨trivial, trivial⟩ rfl ?_
          refine aw_goto (off := 5) hC 75 (by decide +kernel) (by decide) ?_
          refine aw_run (pc' := 80) hC [(.lstore 4, 2, 0, 0, .null), (.iinc 6 1, 3, 0, 0, .int 1)] (by decide +kernel) [(0, .ref 20), (2, .int a2), (3, .int a3), (4, .long q6), (6, .int (a6 + 1)), (7, .long q6)] [] σ rfl rfl ⟨trivial, trivial, trivial⟩ rfl ?_
          refine aw_goto (off := -44) hC 36 (by decide +kernel) (by decide) ?_
          refine aw_pick [0, 1, 2, 3, 4] [(0, .ref 20), (2, .int a2), (3, .int a3), (4, .long q6), (6, .int (a6 + 1))] rfl ?_
          exact ih a2 a3 q6 (a6 + 1) hF
  unfold f_mo_widthOn at hF
  obtain ⟨g1, hF⟩ := gd hF
  refine aw_run (pc' := 18) hC [(.aload_n 0, 1, 0, 0, .null), (.getfield 43, 3, 7, 20, .null), (.iload_n 1, 1, 0, 0, .null), (.iaload, 1, 0, 0, .null), (.istore_n 2, 1, 0, 0, .null), (.aload_n 0, 1, 0, 0, .null), (.getfield 43, 3, 7, 20, .null), (.iload_n 1, 1, 0, 0, .null), (.iconst 1, 1, 0, 0, .int 1), (.iadd, 1, 0, 0, .null), (.aload_n 0, 1, 0, 0, .null), (.getfield 174, 3, 7, 19, .null)] (by decide +kernel) [(0, .ref 20), (1, .int a1), (2, .int (σ.1 30 a1.toNatClampNeg))] [.int (σ.1 20 19), .int (a1 + 1), .ref 30] σ rfl rfl ⟨trivial, trivial, trivial, g1, trivial, trivial, trivial, trivial, trivial, trivial, trivial, trivial, trivial⟩ rfl ?_
  refine aw_icmp_ne (off := 7) hC 25 (by decide +kernel) (by decide) (fun h => ?_) (fun h => ?_)
  · have hF := (if_neg h).symm.trans hF
    obtain ⟨g2, hF⟩ := gd hF
    refine aw_run (pc' := 36) hC [(.iload_n 1, 1, 0, 0, .null), (.iconst 1, 1, 0, 0, .int 1), (.iadd, 1, 0, 0, .null), (.iaload, 1, 0, 0, .null), (.istore_n 3, 1, 0, 0, .null), (.lconst 0, 1, 0, 0, .long 0), (.lstore 4, 2, 0, 0, .null), (.iconst 0, 1, 0, 0, .int 0), (.istore 6, 2, 0, 0, .null)] (by decide +kernel) [(0, .ref 20), (1, .int a1), (2, .int (σ.1 30 a1.toNatClampNeg)), (3, .int (σ.1 30 (a1 + 1).toNatClampNeg)), (4, .long 0), (6, .int 0)] [] σ rfl rfl ⟨trivial, trivial, trivial, g2, trivial, trivial, trivial, trivial, trivial, trivial⟩ rfl ?_
    refine aw_pick [0, 2, 3, 4, 5] [(0, .ref 20), (2, .int (σ.1 30 a1.toNatClampNeg)), (3, .int (σ.1 30 (a1 + 1).toNatClampNeg)), (4, .long 0), (6, .int 0)] rfl ?_
    exact Jc36 N (σ.1 30 a1.toNatClampNeg) (σ.1 30 (a1 + 1).toNatClampNeg) 0 0 hF
  · have hF := (if_pos h).symm.trans hF
    refine aw_run (pc' := 22) hC [(.iconst 0, 1, 0, 0, .int 0)] (by decide +kernel) [(0, .ref 20), (1, .int a1), (2, .int (σ.1 30 a1.toNatClampNeg))] [.int 0, .ref 30] σ rfl rfl ⟨trivial, trivial⟩ rfl ?_
    refine aw_goto (off := 6) hC 28 (by decide +kernel) (by decide) ?_
    refine aw_run (pc' := 36) hC [(.iaload, 1, 0, 0, .null), (.istore_n 3, 1, 0, 0, .null), (.lconst 0, 1, 0, 0, .long 0), (.lstore 4, 2, 0, 0, .null), (.iconst 0, 1, 0, 0, .int 0), (.istore 6, 2, 0, 0, .null)] (by decide +kernel) [(0, .ref 20), (1, .int a1), (2, .int (σ.1 30 a1.toNatClampNeg)), (3, .int (σ.1 30 0)), (4, .long 0), (6, .int 0)] [] σ rfl rfl ⟨(show ib 0 17 by decide), trivial, trivial, trivial, trivial, trivial, trivial⟩ rfl ?_
    refine aw_pick [0, 2, 3, 4, 5] [(0, .ref 20), (2, .int (σ.1 30 a1.toNatClampNeg)), (3, .int (σ.1 30 0)), (4, .long 0), (6, .int 0)] rfl ?_
    exact Jc36 N (σ.1 30 a1.toNatClampNeg) (σ.1 30 0) 0 0 hF
def f_mo_wide_c18_s (N : Nat) (kc18 : Int64 → Int32 → Sg → Option Int64) (a1 : Int64) (a3 : Int32) (σ : Sg) : Option Int64 := if (σ.1 20 19) ≤ a3 then (some a1) else ((f_mo_widthOn N σ a3).bind fun q2 => if a1 ≤ q2 then (kc18 a1 (a3 + 1) σ) else ((f_mo_widthOn N σ a3).bind fun q3 => kc18 q3 (a3 + 1) σ))
def f_mo_wide_c18 (N : Nat) : Nat → Int64 → Int32 → Sg → Option Int64
  | 0 => fun _ _ _ => none
  | n + 1 => f_mo_wide_c18_s N (f_mo_wide_c18 N n)
def f_mo_wide (N : Nat) (σ : Sg) : Option Int64 := if (3 : Int32) ≤ (σ.1 20 19) then ((f_mo_widthOn N σ 0).bind fun q1 => f_mo_wide_c18 N N q1 1 σ) else (some 0)
def rm_mo_wide : Room := { frames := 2, cells := 0, slots := 0, locals := 51 }
set_option maxHeartbeats 4000000 in
set_option maxRecDepth 100000 in
theorem c_mo_wide (N : Nat) (σ : Sg) (z : Int64) (hF : f_mo_wide N σ = some z) : Ctr yX7_wide cX7_wide 4 (some .long) rm_mo_wide [.ref 20] σ (some (.long z)) σ := by
  refine ct_start 7 (by decide) rfl (fun ad => Nat.le_of_ble_eq_true rfl) [(0, .ref 20)] (fun ad => rfl) ?_
  intro p l e s m args below meth c D ad tc A hC hA hr
  have Jc18 : ∀ (n : Nat) (a1 : Int64) (a3 : Int32), f_mo_wide_c18 N n a1 a3 σ = some z → AW p l e rm_mo_wide s m args below meth c D ad tc 4 A s.heap 0 0 (MQ below (Qr (some (.long z)) D ad tc σ A) args s 0 0 A) 18 [(0, .ref 20), (1, .long a1), (3, .int a3)] [] σ := by
    intro n
    induction n with
    | zero =>
      intro a1 a3 hF
      cases hF
    | succ n ih =>
      intro a1 a3 hF
      have hF : f_mo_wide_c18_s N (f_mo_wide_c18 N n) a1 a3 σ = some z := hF
      unfold f_mo_wide_c18_s at hF
      refine aw_run (pc' := 23) hC [(.iload_n 3, 1, 0, 0, .null), (.aload_n 0, 1, 0, 0, .null), (.getfield 174, 3, 7, 19, .null)] (by decide +kernel) [(0, .ref 20), (1, .long a1), (3, .int a3)] [.int (σ.1 20 19), .int a3] σ rfl rfl ⟨trivial, trivial, trivial, trivial⟩ rfl ?_
      refine aw_icmp_ge (off := 29) hC 52 (by decide +kernel) (by decide) (fun h => ?_) (fun h => ?_)
      · have hF := (if_pos h).symm.trans hF
        refine aw_run (pc' := 53) hC [(.lload_n 1, 1, 0, 0, .null)] (by decide +kernel) [(0, .ref 20), (1, .long a1), (3, .int a3)] [.long a1] σ rfl rfl ⟨trivial, trivial⟩ rfl ?_
        exact aw_lret hC hr (by decide +kernel) (Option.some.inj hF) rfl
      · have hF := (if_neg h).symm.trans hF
        refine aw_run (pc' := 28) hC [(.aload_n 0, 1, 0, 0, .null), (.iload_n 3, 1, 0, 0, .null)] (by decide +kernel) [(0, .ref 20), (1, .long a1), (3, .int a3)] [.int a3, .ref 20] σ rfl rfl ⟨trivial, trivial, trivial⟩ rfl ?_
        obtain ⟨q2, eq2, hF⟩ := bd hF
        refine aw_callV hC hA (rest := []) (c_mo_widthOn N σ a3 q2 eq2) mt_X7_widthOn ln_7_180 (by decide +kernel) ⟨_, rfl⟩ rfl rfl (Nat.le_of_ble_eq_true rfl) ⟨⟨rfl, rfl⟩, Nat.le_of_ble_eq_true rfl, Nat.le_of_ble_eq_true rfl⟩ ⟨Nat.zero_le _, Nat.zero_le _⟩ rfl ?_
        refine aw_run (pc' := 33) hC [(.lload_n 1, 1, 0, 0, .null), (.lcmp, 1, 0, 0, .null)] (by decide +kernel) [(0, .ref 20), (1, .long a1), (3, .int a3)] [.int (lg_cmp q2 a1)] σ rfl rfl ⟨trivial, trivial, trivial⟩ rfl ?_
        refine aw_if_ge (off := 11) hC 44 (lc_ge _ _) (by decide +kernel) (by decide) (fun h => ?_) (fun h => ?_)
        · have hF := (if_pos h).symm.trans hF
          refine aw_run (pc' := 49) hC [(.lload_n 1, 1, 0, 0, .null), (.lstore_n 1, 1, 0, 0, .null), (.iinc 3 1, 3, 0, 0, .int 1)] (by decide +kernel) [(0, .ref 20), (1, .long a1), (3, .int (a3 + 1))] [] σ rfl rfl ⟨trivial, trivial, trivial, trivial⟩ rfl ?_
          refine aw_goto (off := -31) hC 18 (by decide +kernel) (by decide) ?_
          exact ih a1 (a3 + 1) hF
        · have hF := (if_neg h).symm.trans hF
          refine aw_run (pc' := 38) hC [(.aload_n 0, 1, 0, 0, .null), (.iload_n 3, 1, 0, 0, .null)] (by decide +kernel) [(0, .ref 20), (1, .long a1), (3, .int a3)] [.int a3, .ref 20] σ rfl rfl ⟨trivial, trivial, trivial⟩ rfl ?_
          obtain ⟨q3, eq3, hF⟩ := bd hF
          refine aw_callV hC hA (rest := []) (c_mo_widthOn N σ a3 q3 eq3) mt_X7_widthOn ln_7_180 (by decide +kernel) ⟨_, rfl⟩ rfl rfl (Nat.le_of_ble_eq_true rfl) ⟨⟨rfl, rfl⟩, Nat.le_of_ble_eq_true rfl, Nat.le_of_ble_eq_true rfl⟩ ⟨Nat.zero_le _, Nat.zero_le _⟩ rfl ?_
          refine aw_goto (off := 4) hC 45 (by decide +kernel) (by decide) ?_
          refine aw_run (pc' := 49) hC [(.lstore_n 1, 1, 0, 0, .null), (.iinc 3 1, 3, 0, 0, .int 1)] (by decide +kernel) [(0, .ref 20), (1, .long q3), (3, .int (a3 + 1))] [] σ rfl rfl ⟨trivial, trivial, trivial⟩ rfl ?_
          refine aw_goto (off := -31) hC 18 (by decide +kernel) (by decide) ?_
          exact ih q3 (a3 + 1) hF
  unfold f_mo_wide at hF
  refine aw_run (pc' := 5) hC [(.aload_n 0, 1, 0, 0, .null), (.getfield 174, 3, 7, 19, .null), (.iconst 3, 1, 0, 0, .int 3)] (by decide +kernel) [(0, .ref 20)] [.int 3, .int (σ.1 20 19)] σ rfl rfl ⟨trivial, trivial, trivial, trivial⟩ rfl ?_
  refine aw_icmp_ge (off := 5) hC 10 (by decide +kernel) (by decide) (fun h => ?_) (fun h => ?_)
  · have hF := (if_pos h).symm.trans hF
    refine aw_run (pc' := 12) hC [(.aload_n 0, 1, 0, 0, .null), (.iconst 0, 1, 0, 0, .int 0)] (by decide +kernel) [(0, .ref 20)] [.int 0, .ref 20] σ rfl rfl ⟨trivial, trivial, trivial⟩ rfl ?_
    obtain ⟨q1, eq1, hF⟩ := bd hF
    refine aw_callV hC hA (rest := []) (c_mo_widthOn N σ 0 q1 eq1) mt_X7_widthOn ln_7_180 (by decide +kernel) ⟨_, rfl⟩ rfl rfl (Nat.le_of_ble_eq_true rfl) ⟨⟨rfl, rfl⟩, Nat.le_of_ble_eq_true rfl, Nat.le_of_ble_eq_true rfl⟩ ⟨Nat.zero_le _, Nat.zero_le _⟩ rfl ?_
    refine aw_run (pc' := 18) hC [(.lstore_n 1, 1, 0, 0, .null), (.iconst 1, 1, 0, 0, .int 1), (.istore_n 3, 1, 0, 0, .null)] (by decide +kernel) [(0, .ref 20), (1, .long q1), (3, .int 1)] [] σ rfl rfl ⟨trivial, trivial, trivial, trivial⟩ rfl ?_
    exact Jc18 N q1 1 hF
  · have hF := (if_neg h).symm.trans hF
    refine aw_run (pc' := 9) hC [(.lconst 0, 1, 0, 0, .long 0)] (by decide +kernel) [(0, .ref 20)] [.long 0] σ rfl rfl ⟨trivial, trivial⟩ rfl ?_
    exact aw_lret hC hr (by decide +kernel) (Option.some.inj hF) rfl
def f_mo_longest_c15_s (N : Nat) (kc4 : Int64 → Int32 → Sg → Option Int64) (kc15 : Int64 → Int32 → Int32 → Sg → Option Int64) (a1 : Int64) (a3 : Int32) (a4 : Int32) (σ : Sg) : Option Int64 := if a3 ≤ a4 then (kc4 a1 (a3 + 1) σ) else (if ib a3 17 then if ib a4 17 then (f_mo_square σ (σ.1 30 a3.toNatClampNeg) (σ.1 30 a4.toNatClampNeg)).bind fun q3 => if q3 ≤ a1 then (kc15 a1 a3 (a4 + 1) σ) else (kc15 q3 a3 (a4 + 1) σ) else none else none)
def f_mo_longest_c15 (N : Nat) (kc4 : Int64 → Int32 → Sg → Option Int64) : Nat → Int64 → Int32 → Int32 → Sg → Option Int64
  | 0 => fun _ _ _ _ => none
  | n + 1 => f_mo_longest_c15_s N kc4 (f_mo_longest_c15 N kc4 n)
def f_mo_longest_c4_s (N : Nat) (kc4 : Int64 → Int32 → Sg → Option Int64) (a1 : Int64) (a3 : Int32) (σ : Sg) : Option Int64 := if (σ.1 20 19) ≤ a3 then (some a1) else (f_mo_longest_c15 N kc4 N a1 a3 0 σ)
def f_mo_longest_c4 (N : Nat) : Nat → Int64 → Int32 → Sg → Option Int64
  | 0 => fun _ _ _ => none
  | n + 1 => f_mo_longest_c4_s N (f_mo_longest_c4 N n)
def f_mo_longest (N : Nat) (σ : Sg) : Option Int64 := f_mo_longest_c4 N N 0 0 σ
def rm_mo_longest : Room := { frames := 1, cells := 0, slots := 0, locals := 22 }
set_option maxHeartbeats 4000000 in
set_option maxRecDepth 100000 in
theorem c_mo_longest (N : Nat) (σ : Sg) (z : Int64) (hF : f_mo_longest N σ = some z) : Ctr yX7_longest cX7_longest 7 (some .long) rm_mo_longest [.ref 20] σ (some (.long z)) σ := by
  refine ct_start 7 (by decide) rfl (fun ad => Nat.le_of_ble_eq_true rfl) [(0, .ref 20)] (fun ad => rfl) ?_
  intro p l e s m args below meth c D ad tc A hC hA hr
  have Jc15 : ∀ (kc4 : Int64 → Int32 → Sg → Option Int64) (Hc4 : ∀ (a1 : Int64) (a3 : Int32), kc4 a1 a3 σ = some z → AW p l e rm_mo_longest s m args below meth c D ad tc 7 A s.heap 0 0 (MQ below (Qr (some (.long z)) D ad tc σ A) args s 0 0 A) 4 [(0, .ref 20), (1, .long a1), (3, .int a3)] [] σ) (n : Nat) (a1 : Int64) (a3 : Int32) (a4 : Int32), f_mo_longest_c15 N kc4 n a1 a3 a4 σ = some z → AW p l e rm_mo_longest s m args below meth c D ad tc 7 A s.heap 0 0 (MQ below (Qr (some (.long z)) D ad tc σ A) args s 0 0 A) 15 [(0, .ref 20), (1, .long a1), (3, .int a3), (4, .int a4)] [] σ := by
    intro kc4 Hc4 n
    induction n with
    | zero =>
      intro a1 a3 a4 hF
      cases hF
    | succ n ih =>
      intro a1 a3 a4 hF
      have hF : f_mo_longest_c15_s N kc4 (f_mo_longest_c15 N kc4 n) a1 a3 a4 σ = some z := hF
      unfold f_mo_longest_c15_s at hF
      refine aw_run (pc' := 18) hC [(.iload 4, 2, 0, 0, .null), (.iload_n 3, 1, 0, 0, .null)] (by decide +kernel) [(0, .ref 20), (1, .long a1), (3, .int a3), (4, .int a4)] [.int a3, .int a4] σ rfl rfl ⟨trivial, trivial, trivial⟩ rfl ?_
      refine aw_icmp_ge (off := 42) hC 60 (by decide +kernel) (by decide) (fun h => ?_) (fun h => ?_)
      · have hF := (if_pos h).symm.trans hF
        refine aw_run (pc' := 63) hC [(.iinc 3 1, 3, 0, 0, .int 1)] (by decide +kernel) [(0, .ref 20), (1, .long a1), (3, .int (a3 + 1)), (4, .int a4)] [] σ rfl rfl ⟨trivial, trivial⟩ rfl ?_
        refine aw_goto (off := -59) hC 4 (by decide +kernel) (by decide) ?_
        refine aw_pick [0, 1, 2] [(0, .ref 20), (1, .long a1), (3, .int (a3 + 1))] rfl ?_
        exact Hc4 a1 (a3 + 1) hF
      · have hF := (if_neg h).symm.trans hF
        obtain ⟨g1, hF⟩ := gd hF
        obtain ⟨g2, hF⟩ := gd hF
        refine aw_run (pc' := 35) hC [(.aload_n 0, 1, 0, 0, .null), (.aload_n 0, 1, 0, 0, .null), (.getfield 43, 3, 7, 20, .null), (.iload_n 3, 1, 0, 0, .null), (.iaload, 1, 0, 0, .null), (.aload_n 0, 1, 0, 0, .null), (.getfield 43, 3, 7, 20, .null), (.iload 4, 2, 0, 0, .null), (.iaload, 1, 0, 0, .null)] (by decide +kernel) [(0, .ref 20), (1, .long a1), (3, .int a3), (4, .int a4)] [.int (σ.1 30 a4.toNatClampNeg), .int (σ.1 30 a3.toNatClampNeg), .ref 20] σ rfl rfl ⟨trivial, trivial, trivial, trivial, g1, trivial, trivial, trivial, g2, trivial⟩ rfl ?_
        obtain ⟨q3, eq3, hF⟩ := bd hF
        refine aw_callV hC hA (rest := []) (c_mo_square σ (σ.1 30 a3.toNatClampNeg) (σ.1 30 a4.toNatClampNeg) q3 eq3) mt_X7_square ln_7_167 (by decide +kernel) ⟨_, rfl⟩ rfl rfl (Nat.le_of_ble_eq_true rfl) ⟨⟨rfl, rfl⟩, Nat.le_of_ble_eq_true rfl, Nat.le_of_ble_eq_true rfl⟩ ⟨Nat.zero_le _, Nat.zero_le _⟩ rfl ?_
        refine aw_run (pc' := 44) hC [(.lstore 5, 2, 0, 0, .null), (.lload 5, 2, 0, 0, .null), (.lload_n 1, 1, 0, 0, .null), (.lcmp, 1, 0, 0, .null)] (by decide +kernel) [(0, .ref 20), (1, .long a1), (3, .int a3), (4, .int a4), (5, .long q3)] [.int (lg_cmp q3 a1)] σ rfl rfl ⟨trivial, trivial, trivial, trivial, trivial⟩ rfl ?_
        refine aw_if_le (off := 8) hC 52 (lc_le _ _) (by decide +kernel) (by decide) (fun h => ?_) (fun h => ?_)
        · have hF := (if_pos h).symm.trans hF
          refine aw_run (pc' := 57) hC [(.lload_n 1, 1, 0, 0, .null), (.lstore_n 1, 1, 0, 0, .null), (.iinc 4 1, 3, 0, 0, .int 1)] (by decide +kernel) [(0, .ref 20), (1, .long a1), (3, .int a3), (4, .int (a4 + 1)), (5, .long q3)] [] σ rfl rfl ⟨trivial, trivial, trivial, trivial⟩ rfl ?_
          refine aw_goto (off := -42) hC 15 (by decide +kernel) (by decide) ?_
          refine aw_pick [0, 1, 2, 3] [(0, .ref 20), (1, .long a1), (3, .int a3), (4, .int (a4 + 1))] rfl ?_
          exact ih a1 a3 (a4 + 1) hF
        · have hF := (if_neg h).symm.trans hF
          refine aw_run (pc' := 49) hC [(.lload 5, 2, 0, 0, .null)] (by decide +kernel) [(0, .ref 20), (1, .long a1), (3, .int a3), (4, .int a4), (5, .long q3)] [.long q3] σ rfl rfl ⟨trivial, trivial⟩ rfl ?_
          refine aw_goto (off := 4) hC 53 (by decide +kernel) (by decide) ?_
          refine aw_run (pc' := 57) hC [(.lstore_n 1, 1, 0, 0, .null), (.iinc 4 1, 3, 0, 0, .int 1)] (by decide +kernel) [(0, .ref 20), (1, .long q3), (3, .int a3), (4, .int (a4 + 1)), (5, .long q3)] [] σ rfl rfl ⟨trivial, trivial, trivial⟩ rfl ?_
          refine aw_goto (off := -42) hC 15 (by decide +kernel) (by decide) ?_
          refine aw_pick [0, 1, 2, 3] [(0, .ref 20), (1, .long q3), (3, .int a3), (4, .int (a4 + 1))] rfl ?_
          exact ih q3 a3 (a4 + 1) hF
  have Jc4 : ∀ (n : Nat) (a1 : Int64) (a3 : Int32), f_mo_longest_c4 N n a1 a3 σ = some z → AW p l e rm_mo_longest s m args below meth c D ad tc 7 A s.heap 0 0 (MQ below (Qr (some (.long z)) D ad tc σ A) args s 0 0 A) 4 [(0, .ref 20), (1, .long a1), (3, .int a3)] [] σ := by
    intro n
    induction n with
    | zero =>
      intro a1 a3 hF
      cases hF
    | succ n ih =>
      intro a1 a3 hF
      have hF : f_mo_longest_c4_s N (f_mo_longest_c4 N n) a1 a3 σ = some z := hF
      unfold f_mo_longest_c4_s at hF
      refine aw_run (pc' := 9) hC [(.iload_n 3, 1, 0, 0, .null), (.aload_n 0, 1, 0, 0, .null), (.getfield 174, 3, 7, 19, .null)] (by decide +kernel) [(0, .ref 20), (1, .long a1), (3, .int a3)] [.int (σ.1 20 19), .int a3] σ rfl rfl ⟨trivial, trivial, trivial, trivial⟩ rfl ?_
      refine aw_icmp_ge (off := 57) hC 66 (by decide +kernel) (by decide) (fun h => ?_) (fun h => ?_)
      · have hF := (if_pos h).symm.trans hF
        refine aw_run (pc' := 67) hC [(.lload_n 1, 1, 0, 0, .null)] (by decide +kernel) [(0, .ref 20), (1, .long a1), (3, .int a3)] [.long a1] σ rfl rfl ⟨trivial, trivial⟩ rfl ?_
        exact aw_lret hC hr (by decide +kernel) (Option.some.inj hF) rfl
      · have hF := (if_neg h).symm.trans hF
        refine aw_run (pc' := 15) hC [(.iconst 0, 1, 0, 0, .int 0), (.istore 4, 2, 0, 0, .null)] (by decide +kernel) [(0, .ref 20), (1, .long a1), (3, .int a3), (4, .int 0)] [] σ rfl rfl ⟨trivial, trivial, trivial⟩ rfl ?_
        exact Jc15 (f_mo_longest_c4 N n) ih N a1 a3 0 hF
  unfold f_mo_longest at hF
  refine aw_run (pc' := 4) hC [(.lconst 0, 1, 0, 0, .long 0), (.lstore_n 1, 1, 0, 0, .null), (.iconst 0, 1, 0, 0, .int 0), (.istore_n 3, 1, 0, 0, .null)] (by decide +kernel) [(0, .ref 20), (1, .long 0), (3, .int 0)] [] σ rfl rfl ⟨trivial, trivial, trivial, trivial, trivial⟩ rfl ?_
  exact Jc4 N 0 0 hF
def f_mo_area_c4_s (N : Nat) (kc4 : Int64 → Int32 → Sg → Option Int64) (a1 : Int64) (a3 : Int32) (σ : Sg) : Option Int64 := if (σ.1 20 19) ≤ a3 then (some a1) else (if ib (a3 - 1) 17 then if ib a3 17 then (f_mo_turn σ (σ.1 30 0) (σ.1 30 (a3 - 1).toNatClampNeg) (σ.1 30 a3.toNatClampNeg)).bind fun q3 => kc4 (a1 + q3) (a3 + 1) σ else none else none)
def f_mo_area_c4 (N : Nat) : Nat → Int64 → Int32 → Sg → Option Int64
  | 0 => fun _ _ _ => none
  | n + 1 => f_mo_area_c4_s N (f_mo_area_c4 N n)
def f_mo_area (N : Nat) (σ : Sg) : Option Int64 := f_mo_area_c4 N N 0 2 σ
def rm_mo_area : Room := { frames := 1, cells := 0, slots := 0, locals := 23 }
set_option maxHeartbeats 4000000 in
set_option maxRecDepth 100000 in
theorem c_mo_area (N : Nat) (σ : Sg) (z : Int64) (hF : f_mo_area N σ = some z) : Ctr yX7_area cX7_area 4 (some .long) rm_mo_area [.ref 20] σ (some (.long z)) σ := by
  refine ct_start 7 (by decide) rfl (fun ad => Nat.le_of_ble_eq_true rfl) [(0, .ref 20)] (fun ad => rfl) ?_
  intro p l e s m args below meth c D ad tc A hC hA hr
  have Jc4 : ∀ (n : Nat) (a1 : Int64) (a3 : Int32), f_mo_area_c4 N n a1 a3 σ = some z → AW p l e rm_mo_area s m args below meth c D ad tc 4 A s.heap 0 0 (MQ below (Qr (some (.long z)) D ad tc σ A) args s 0 0 A) 4 [(0, .ref 20), (1, .long a1), (3, .int a3)] [] σ := by
    intro n
    induction n with
    | zero =>
      intro a1 a3 hF
      cases hF
    | succ n ih =>
      intro a1 a3 hF
      have hF : f_mo_area_c4_s N (f_mo_area_c4 N n) a1 a3 σ = some z := hF
      unfold f_mo_area_c4_s at hF
      refine aw_run (pc' := 9) hC [(.iload_n 3, 1, 0, 0, .null), (.aload_n 0, 1, 0, 0, .null), (.getfield 174, 3, 7, 19, .null)] (by decide +kernel) [(0, .ref 20), (1, .long a1), (3, .int a3)] [.int (σ.1 20 19), .int a3] σ rfl rfl ⟨trivial, trivial, trivial, trivial⟩ rfl ?_
      refine aw_icmp_ge (off := 36) hC 45 (by decide +kernel) (by decide) (fun h => ?_) (fun h => ?_)
      · have hF := (if_pos h).symm.trans hF
        refine aw_run (pc' := 46) hC [(.lload_n 1, 1, 0, 0, .null)] (by decide +kernel) [(0, .ref 20), (1, .long a1), (3, .int a3)] [.long a1] σ rfl rfl ⟨trivial, trivial⟩ rfl ?_
        exact aw_lret hC hr (by decide +kernel) (Option.some.inj hF) rfl
      · have hF := (if_neg h).symm.trans hF
        obtain ⟨g1, hF⟩ := gd hF
        obtain ⟨g2, hF⟩ := gd hF
        refine aw_run (pc' := 34) hC [(.lload_n 1, 1, 0, 0, .null), (.aload_n 0, 1, 0, 0, .null), (.aload_n 0, 1, 0, 0, .null), (.getfield 43, 3, 7, 20, .null), (.iconst 0, 1, 0, 0, .int 0), (.iaload, 1, 0, 0, .null), (.aload_n 0, 1, 0, 0, .null), (.getfield 43, 3, 7, 20, .null), (.iload_n 3, 1, 0, 0, .null), (.iconst 1, 1, 0, 0, .int 1), (.isub, 1, 0, 0, .null), (.iaload, 1, 0, 0, .null), (.aload_n 0, 1, 0, 0, .null), (.getfield 43, 3, 7, 20, .null), (.iload_n 3, 1, 0, 0, .null), (.iaload, 1, 0, 0, .null)] (by decide +kernel) [(0, .ref 20), (1, .long a1), (3, .int a3)] [.int (σ.1 30 a3.toNatClampNeg), .int (σ.1 30 (a3 - 1).toNatClampNeg), .int (σ.1 30 0), .ref 20, .long a1] σ rfl rfl ⟨trivial, trivial, trivial, trivial, trivial, (show ib 0 17 by decide), trivial, trivial, trivial, trivial, trivial, g1, trivial, trivial, trivial, g2, trivial⟩ rfl ?_
        obtain ⟨q3, eq3, hF⟩ := bd hF
        refine aw_callV hC hA (rest := [.long a1]) (c_mo_turn σ (σ.1 30 0) (σ.1 30 (a3 - 1).toNatClampNeg) (σ.1 30 a3.toNatClampNeg) q3 eq3) mt_X7_turn ln_7_163 (by decide +kernel) ⟨_, rfl⟩ rfl rfl (Nat.le_of_ble_eq_true rfl) ⟨⟨rfl, rfl⟩, Nat.le_of_ble_eq_true rfl, Nat.le_of_ble_eq_true rfl⟩ ⟨Nat.zero_le _, Nat.zero_le _⟩ rfl ?_
        refine aw_run (pc' := 42) hC [(.ladd, 1, 0, 0, .null), (.lstore_n 1, 1, 0, 0, .null), (.iinc 3 1, 3, 0, 0, .int 1)] (by decide +kernel) [(0, .ref 20), (1, .long (a1 + q3)), (3, .int (a3 + 1))] [] σ rfl rfl ⟨trivial, trivial, trivial, trivial⟩ rfl ?_
        refine aw_goto (off := -38) hC 4 (by decide +kernel) (by decide) ?_
        exact ih (a1 + q3) (a3 + 1) hF
  unfold f_mo_area at hF
  refine aw_run (pc' := 4) hC [(.lconst 0, 1, 0, 0, .long 0), (.lstore_n 1, 1, 0, 0, .null), (.iconst 2, 1, 0, 0, .int 2), (.istore_n 3, 1, 0, 0, .null)] (by decide +kernel) [(0, .ref 20), (1, .long 0), (3, .int 2)] [] σ rfl rfl ⟨trivial, trivial, trivial, trivial, trivial⟩ rfl ?_
  exact Jc4 N 0 2 hF
def f_mo_kernelNow (N : Nat) (σ : Sg) (a1 : Int32) : Option (Int32 × Sg) := (f_mo_layCorners N σ).bind fun q1 => if a1 = 0 then (some (q1.1 20 19, q1)) else (if a1 = 1 then ((f_mo_area N q1).bind fun q4 => some (q4.toInt32, q1)) else (if a1 = 2 then ((f_mo_longest N q1).bind fun q3 => some (q3.toInt32, q1)) else ((f_mo_wide N q1).bind fun q2 => some (q2.toInt32, q1))))
def rm_mo_kernelNow : Room := { frames := 3, cells := 0, slots := 0, locals := 74 }
set_option maxHeartbeats 4000000 in
set_option maxRecDepth 100000 in
theorem c_mo_kernelNow (N : Nat) (σ : Sg) (a1 : Int32) (z : Int32 × Sg) (hF : f_mo_kernelNow N σ a1 = some z) : Ctr yX7_kernelNow cX7_kernelNow 2 (some .int) rm_mo_kernelNow [.ref 20, .int a1] σ (some (.int z.1)) z.2 := by
  refine ct_start 7 (by decide) rfl (fun ad => Nat.le_of_ble_eq_true rfl) [(0, .ref 20), (1, .int a1)] (fun ad => rfl) ?_
  intro p l e s m args below meth c D ad tc A hC hA hr
  unfold f_mo_kernelNow at hF
  refine aw_run (pc' := 1) hC [(.aload_n 0, 1, 0, 0, .null)] (by decide +kernel) [(0, .ref 20), (1, .int a1)] [.ref 20] σ rfl rfl ⟨trivial, trivial⟩ rfl ?_
  obtain ⟨q1, eq1, hF⟩ := bd hF
  refine aw_callV hC hA (rest := []) (c_mo_layCorners N σ q1 eq1) mt_X7_layCorners ln_7_184 (by decide +kernel) ⟨_, rfl⟩ rfl rfl (Nat.le_of_ble_eq_true rfl) ⟨⟨rfl, rfl⟩, Nat.le_of_ble_eq_true rfl, Nat.le_of_ble_eq_true rfl⟩ ⟨Nat.zero_le _, Nat.zero_le _⟩ rfl ?_
  refine aw_run (pc' := 5) hC [(.iload_n 1, 1, 0, 0, .null)] (by decide +kernel) [(0, .ref 20), (1, .int a1)] [.int a1] q1 rfl rfl ⟨trivial, trivial⟩ rfl ?_
  refine aw_if_ne (off := 10) hC 15 Iff.rfl (by decide +kernel) (by decide) (fun h => ?_) (fun h => ?_)
  · have hF := (if_neg h).symm.trans hF
    refine aw_run (pc' := 17) hC [(.iload_n 1, 1, 0, 0, .null), (.iconst 1, 1, 0, 0, .int 1)] (by decide +kernel) [(0, .ref 20), (1, .int a1)] [.int 1, .int a1] q1 rfl rfl ⟨trivial, trivial, trivial⟩ rfl ?_
    refine aw_icmp_ne (off := 10) hC 27 (by decide +kernel) (by decide) (fun h => ?_) (fun h => ?_)
    · have hF := (if_neg h).symm.trans hF
      refine aw_run (pc' := 29) hC [(.iload_n 1, 1, 0, 0, .null), (.iconst 2, 1, 0, 0, .int 2)] (by decide +kernel) [(0, .ref 20), (1, .int a1)] [.int 2, .int a1] q1 rfl rfl ⟨trivial, trivial, trivial⟩ rfl ?_
      refine aw_icmp_ne (off := 10) hC 39 (by decide +kernel) (by decide) (fun h => ?_) (fun h => ?_)
      · have hF := (if_neg h).symm.trans hF
        refine aw_run (pc' := 40) hC [(.aload_n 0, 1, 0, 0, .null)] (by decide +kernel) [(0, .ref 20), (1, .int a1)] [.ref 20] q1 rfl rfl ⟨trivial, trivial⟩ rfl ?_
        obtain ⟨q2, eq2, hF⟩ := bd hF
        refine aw_callV hC hA (rest := []) (c_mo_wide N q1 q2 eq2) mt_X7_wide ln_7_194 (by decide +kernel) ⟨_, rfl⟩ rfl rfl (Nat.le_of_ble_eq_true rfl) ⟨⟨rfl, rfl⟩, Nat.le_of_ble_eq_true rfl, Nat.le_of_ble_eq_true rfl⟩ ⟨Nat.zero_le _, Nat.zero_le _⟩ rfl ?_
        refine aw_run (pc' := 44) hC [(.l2i, 1, 0, 0, .null)] (by decide +kernel) [(0, .ref 20), (1, .int a1)] [.int q2.toInt32] q1 rfl rfl ⟨trivial, trivial⟩ rfl ?_
        exact aw_iret hC hr (by decide +kernel) (pS1 hF) (pS2 hF)
      · have hF := (if_pos h).symm.trans hF
        refine aw_run (pc' := 33) hC [(.aload_n 0, 1, 0, 0, .null)] (by decide +kernel) [(0, .ref 20), (1, .int a1)] [.ref 20] q1 rfl rfl ⟨trivial, trivial⟩ rfl ?_
        obtain ⟨q3, eq3, hF⟩ := bd hF
        refine aw_callV hC hA (rest := []) (c_mo_longest N q1 q3 eq3) mt_X7_longest ln_7_191 (by decide +kernel) ⟨_, rfl⟩ rfl rfl (Nat.le_of_ble_eq_true rfl) ⟨⟨rfl, rfl⟩, Nat.le_of_ble_eq_true rfl, Nat.le_of_ble_eq_true rfl⟩ ⟨Nat.zero_le _, Nat.zero_le _⟩ rfl ?_
        refine aw_goto (off := 7) hC 43 (by decide +kernel) (by decide) ?_
        refine aw_run (pc' := 44) hC [(.l2i, 1, 0, 0, .null)] (by decide +kernel) [(0, .ref 20), (1, .int a1)] [.int q3.toInt32] q1 rfl rfl ⟨trivial, trivial⟩ rfl ?_
        exact aw_iret hC hr (by decide +kernel) (pS1 hF) (pS2 hF)
    · have hF := (if_pos h).symm.trans hF
      refine aw_run (pc' := 21) hC [(.aload_n 0, 1, 0, 0, .null)] (by decide +kernel) [(0, .ref 20), (1, .int a1)] [.ref 20] q1 rfl rfl ⟨trivial, trivial⟩ rfl ?_
      obtain ⟨q4, eq4, hF⟩ := bd hF
      refine aw_callV hC hA (rest := []) (c_mo_area N q1 q4 eq4) mt_X7_area ln_7_187 (by decide +kernel) ⟨_, rfl⟩ rfl rfl (Nat.le_of_ble_eq_true rfl) ⟨⟨rfl, rfl⟩, Nat.le_of_ble_eq_true rfl, Nat.le_of_ble_eq_true rfl⟩ ⟨Nat.zero_le _, Nat.zero_le _⟩ rfl ?_
      refine aw_goto (off := 19) hC 43 (by decide +kernel) (by decide) ?_
      refine aw_run (pc' := 44) hC [(.l2i, 1, 0, 0, .null)] (by decide +kernel) [(0, .ref 20), (1, .int a1)] [.int q4.toInt32] q1 rfl rfl ⟨trivial, trivial⟩ rfl ?_
      exact aw_iret hC hr (by decide +kernel) (pS1 hF) (pS2 hF)
  · have hF := (if_pos h).symm.trans hF
    refine aw_run (pc' := 12) hC [(.aload_n 0, 1, 0, 0, .null), (.getfield 174, 3, 7, 19, .null)] (by decide +kernel) [(0, .ref 20), (1, .int a1)] [.int (q1.1 20 19)] q1 rfl rfl ⟨trivial, trivial, trivial⟩ rfl ?_
    refine aw_goto (off := 32) hC 44 (by decide +kernel) (by decide) ?_
    exact aw_iret hC hr (by decide +kernel) (pS1 hF) (pS2 hF)
def f_mo_kernel (N : Nat) (σ : Sg) (a1 : Int32) : Option (Int32 × Sg) := if (f_mo_within a1.toInt64 0 3) = 0 then (some (-100000003, σ)) else ((f_mo_fit N σ).bind fun q1 => if q1 = 0 then (some (-100000004, σ)) else ((f_mo_kernelNow N σ a1).bind fun q2 => some (q2.1, q2.2)))
def rm_mo_kernel : Room := { frames := 4, cells := 0, slots := 0, locals := 99 }
set_option maxHeartbeats 4000000 in
set_option maxRecDepth 100000 in
theorem c_mo_kernel (N : Nat) (σ : Sg) (a1 : Int32) (z : Int32 × Sg) (hF : f_mo_kernel N σ a1 = some z) : Ctr yX7_kernel cX7_kernel 2 (some .int) rm_mo_kernel [.ref 20, .int a1] σ (some (.int z.1)) z.2 := by
  refine ct_start 7 (by decide) rfl (fun ad => Nat.le_of_ble_eq_true rfl) [(0, .ref 20), (1, .int a1)] (fun ad => rfl) ?_
  intro p l e s m args below meth c D ad tc A hC hA hr
  unfold f_mo_kernel at hF
  refine aw_run (pc' := 6) hC [(.iload_n 1, 1, 0, 0, .null), (.i2l, 1, 0, 0, .null), (.lconst 0, 1, 0, 0, .long 0), (.ldc2_w 197, 3, 0, 0, .long 3)] (by decide +kernel) [(0, .ref 20), (1, .int a1)] [.long 3, .long 0, .long a1.toInt64] σ rfl rfl ⟨trivial, trivial, trivial, trivial, trivial⟩ rfl ?_
  refine aw_callS hC hA (rest := []) (c_mo_within σ a1.toInt64 0 3 _ rfl) mt_X7_within ln_7_50 (by decide +kernel) rfl rfl (Nat.le_of_ble_eq_true rfl) ⟨⟨rfl, rfl⟩, Nat.le_of_ble_eq_true rfl, Nat.le_of_ble_eq_true rfl⟩ ⟨Nat.zero_le _, Nat.zero_le _⟩ rfl ?_
  refine aw_if_ne (off := 6) hC 15 Iff.rfl (by decide +kernel) (by decide) (fun h => ?_) (fun h => ?_)
  · have hF := (if_neg h).symm.trans hF
    refine aw_run (pc' := 16) hC [(.aload_n 0, 1, 0, 0, .null)] (by decide +kernel) [(0, .ref 20), (1, .int a1)] [.ref 20] σ rfl rfl ⟨trivial, trivial⟩ rfl ?_
    obtain ⟨q1, eq1, hF⟩ := bd hF
    refine aw_callV hC hA (rest := []) (c_mo_fit N σ q1 eq1) mt_X7_fit ln_7_151 (by decide +kernel) ⟨_, rfl⟩ rfl rfl (Nat.le_of_ble_eq_true rfl) ⟨⟨rfl, rfl⟩, Nat.le_of_ble_eq_true rfl, Nat.le_of_ble_eq_true rfl⟩ ⟨Nat.zero_le _, Nat.zero_le _⟩ rfl ?_
    refine aw_if_eq (off := 11) hC 30 Iff.rfl (by decide +kernel) (by decide) (fun h => ?_) (fun h => ?_)
    · have hF := (if_pos h).symm.trans hF
      refine aw_run (pc' := 32) hC [(.ldc 105, 2, 0, 0, .int (-100000004))] (by decide +kernel) [(0, .ref 20), (1, .int a1)] [.int (-100000004)] σ rfl rfl ⟨trivial, trivial⟩ rfl ?_
      exact aw_iret hC hr (by decide +kernel) (pS1 hF) (pS2 hF)
    · have hF := (if_neg h).symm.trans hF
      refine aw_run (pc' := 24) hC [(.aload_n 0, 1, 0, 0, .null), (.iload_n 1, 1, 0, 0, .null)] (by decide +kernel) [(0, .ref 20), (1, .int a1)] [.int a1, .ref 20] σ rfl rfl ⟨trivial, trivial, trivial⟩ rfl ?_
      obtain ⟨q2, eq2, hF⟩ := bd hF
      refine aw_callV hC hA (rest := []) (c_mo_kernelNow N σ a1 q2 eq2) mt_X7_kernelNow ln_7_199 (by decide +kernel) ⟨_, rfl⟩ rfl rfl (Nat.le_of_ble_eq_true rfl) ⟨⟨rfl, rfl⟩, Nat.le_of_ble_eq_true rfl, Nat.le_of_ble_eq_true rfl⟩ ⟨Nat.zero_le _, Nat.zero_le _⟩ rfl ?_
      refine aw_goto (off := 5) hC 32 (by decide +kernel) (by decide) ?_
      exact aw_iret hC hr (by decide +kernel) (pS1 hF) (pS2 hF)
  · have hF := (if_pos h).symm.trans hF
    refine aw_run (pc' := 14) hC [(.ldc 54, 2, 0, 0, .int (-100000003))] (by decide +kernel) [(0, .ref 20), (1, .int a1)] [.int (-100000003)] σ rfl rfl ⟨trivial, trivial⟩ rfl ?_
    exact aw_iret hC hr (by decide +kernel) (pS1 hF) (pS2 hF)
def f_mo_cornerNow (N : Nat) (σ : Sg) (a1 : Int32) (a2 : Int32) : Option (Int32 × Sg) := (f_mo_layCorners N σ).bind fun q1 => if (f_mo_within a1.toInt64 0 ((q1.1 20 19) - 1).toInt64) = 0 then (some (-100000002, q1)) else (if a2 = 0 then (if ib a1 17 then if ib (q1.1 30 a1.toNatClampNeg) 16 then some ((q1.2 28 (q1.1 30 a1.toNatClampNeg).toNatClampNeg).toInt32, q1) else none else none) else (if ib a1 17 then if ib (q1.1 30 a1.toNatClampNeg) 16 then some ((q1.2 29 (q1.1 30 a1.toNatClampNeg).toNatClampNeg).toInt32, q1) else none else none))
def rm_mo_cornerNow : Room := { frames := 3, cells := 0, slots := 0, locals := 71 }
set_option maxHeartbeats 4000000 in
set_option maxRecDepth 100000 in
theorem c_mo_cornerNow (N : Nat) (σ : Sg) (a1 : Int32) (a2 : Int32) (z : Int32 × Sg) (hF : f_mo_cornerNow N σ a1 a2 = some z) : Ctr yX7_cornerNow cX7_cornerNow 3 (some .int) rm_mo_cornerNow [.ref 20, .int a1, .int a2] σ (some (.int z.1)) z.2 := by
  refine ct_start 7 (by decide) rfl (fun ad => Nat.le_of_ble_eq_true rfl) [(0, .ref 20), (1, .int a1), (2, .int a2)] (fun ad => rfl) ?_
  intro p l e s m args below meth c D ad tc A hC hA hr
  unfold f_mo_cornerNow at hF
  refine aw_run (pc' := 1) hC [(.aload_n 0, 1, 0, 0, .null)] (by decide +kernel) [(0, .ref 20), (1, .int a1), (2, .int a2)] [.ref 20] σ rfl rfl ⟨trivial, trivial⟩ rfl ?_
  obtain ⟨q1, eq1, hF⟩ := bd hF
  refine aw_callV hC hA (rest := []) (c_mo_layCorners N σ q1 eq1) mt_X7_layCorners ln_7_184 (by decide +kernel) ⟨_, rfl⟩ rfl rfl (Nat.le_of_ble_eq_true rfl) ⟨⟨rfl, rfl⟩, Nat.le_of_ble_eq_true rfl, Nat.le_of_ble_eq_true rfl⟩ ⟨Nat.zero_le _, Nat.zero_le _⟩ rfl ?_
  refine aw_run (pc' := 14) hC [(.iload_n 1, 1, 0, 0, .null), (.i2l, 1, 0, 0, .null), (.lconst 0, 1, 0, 0, .long 0), (.aload_n 0, 1, 0, 0, .null), (.getfield 174, 3, 7, 19, .null), (.iconst 1, 1, 0, 0, .int 1), (.isub, 1, 0, 0, .null), (.i2l, 1, 0, 0, .null)] (by decide +kernel) [(0, .ref 20), (1, .int a1), (2, .int a2)] [.long ((q1.1 20 19) - 1).toInt64, .long 0, .long a1.toInt64] q1 rfl rfl ⟨trivial, trivial, trivial, trivial, trivial, trivial, trivial, trivial, trivial⟩ rfl ?_
  refine aw_callS hC hA (rest := []) (c_mo_within q1 a1.toInt64 0 ((q1.1 20 19) - 1).toInt64 _ rfl) mt_X7_within ln_7_50 (by decide +kernel) rfl rfl (Nat.le_of_ble_eq_true rfl) ⟨⟨rfl, rfl⟩, Nat.le_of_ble_eq_true rfl, Nat.le_of_ble_eq_true rfl⟩ ⟨Nat.zero_le _, Nat.zero_le _⟩ rfl ?_
  refine aw_if_ne (off := 6) hC 23 Iff.rfl (by decide +kernel) (by decide) (fun h => ?_) (fun h => ?_)
  · have hF := (if_neg h).symm.trans hF
    refine aw_run (pc' := 24) hC [(.iload_n 2, 1, 0, 0, .null)] (by decide +kernel) [(0, .ref 20), (1, .int a1), (2, .int a2)] [.int a2] q1 rfl rfl ⟨trivial, trivial⟩ rfl ?_
    refine aw_if_ne (off := 17) hC 41 Iff.rfl (by decide +kernel) (by decide) (fun h => ?_) (fun h => ?_)
    · have hF := (if_neg h).symm.trans hF
      obtain ⟨g2, hF⟩ := gd hF
      obtain ⟨g3, hF⟩ := gd hF
      refine aw_run (pc' := 53) hC [(.aload_n 0, 1, 0, 0, .null), (.getfield 40, 3, 7, 18, .null), (.aload_n 0, 1, 0, 0, .null), (.getfield 43, 3, 7, 20, .null), (.iload_n 1, 1, 0, 0, .null), (.iaload, 1, 0, 0, .null), (.laload, 1, 0, 0, .null), (.l2i, 1, 0, 0, .null)] (by decide +kernel) [(0, .ref 20), (1, .int a1), (2, .int a2)] [.int (q1.2 29 (q1.1 30 a1.toNatClampNeg).toNatClampNeg).toInt32] q1 rfl rfl ⟨trivial, trivial, trivial, trivial, trivial, g2, g3, trivial, trivial⟩ rfl ?_
      exact aw_iret hC hr (by decide +kernel) (pS1 hF) (pS2 hF)
    · have hF := (if_pos h).symm.trans hF
      obtain ⟨g4, hF⟩ := gd hF
      obtain ⟨g5, hF⟩ := gd hF
      refine aw_run (pc' := 38) hC [(.aload_n 0, 1, 0, 0, .null), (.getfield 36, 3, 7, 17, .null), (.aload_n 0, 1, 0, 0, .null), (.getfield 43, 3, 7, 20, .null), (.iload_n 1, 1, 0, 0, .null), (.iaload, 1, 0, 0, .null), (.laload, 1, 0, 0, .null)] (by decide +kernel) [(0, .ref 20), (1, .int a1), (2, .int a2)] [.long (q1.2 28 (q1.1 30 a1.toNatClampNeg).toNatClampNeg)] q1 rfl rfl ⟨trivial, trivial, trivial, trivial, trivial, g4, g5, trivial⟩ rfl ?_
      refine aw_goto (off := 14) hC 52 (by decide +kernel) (by decide) ?_
      refine aw_run (pc' := 53) hC [(.l2i, 1, 0, 0, .null)] (by decide +kernel) [(0, .ref 20), (1, .int a1), (2, .int a2)] [.int (q1.2 28 (q1.1 30 a1.toNatClampNeg).toNatClampNeg).toInt32] q1 rfl rfl ⟨trivial, trivial⟩ rfl ?_
      exact aw_iret hC hr (by decide +kernel) (pS1 hF) (pS2 hF)
  · have hF := (if_pos h).symm.trans hF
    refine aw_run (pc' := 22) hC [(.ldc 112, 2, 0, 0, .int (-100000002))] (by decide +kernel) [(0, .ref 20), (1, .int a1), (2, .int a2)] [.int (-100000002)] q1 rfl rfl ⟨trivial, trivial⟩ rfl ?_
    exact aw_iret hC hr (by decide +kernel) (pS1 hF) (pS2 hF)
def f_mo_corner (N : Nat) (σ : Sg) (a1 : Int32) (a2 : Int32) : Option (Int32 × Sg) := if (f_mo_within a2.toInt64 0 1) = 0 then (some (-100000003, σ)) else ((f_mo_fit N σ).bind fun q1 => if q1 = 0 then (some (-100000004, σ)) else ((f_mo_cornerNow N σ a1 a2).bind fun q2 => some (q2.1, q2.2)))
def rm_mo_corner : Room := { frames := 4, cells := 0, slots := 0, locals := 99 }
set_option maxHeartbeats 4000000 in
set_option maxRecDepth 100000 in
theorem c_mo_corner (N : Nat) (σ : Sg) (a1 : Int32) (a2 : Int32) (z : Int32 × Sg) (hF : f_mo_corner N σ a1 a2 = some z) : Ctr yX7_corner cX7_corner 3 (some .int) rm_mo_corner [.ref 20, .int a1, .int a2] σ (some (.int z.1)) z.2 := by
  refine ct_start 7 (by decide) rfl (fun ad => Nat.le_of_ble_eq_true rfl) [(0, .ref 20), (1, .int a1), (2, .int a2)] (fun ad => rfl) ?_
  intro p l e s m args below meth c D ad tc A hC hA hr
  unfold f_mo_corner at hF
  refine aw_run (pc' := 4) hC [(.iload_n 2, 1, 0, 0, .null), (.i2l, 1, 0, 0, .null), (.lconst 0, 1, 0, 0, .long 0), (.lconst 1, 1, 0, 0, .long 1)] (by decide +kernel) [(0, .ref 20), (1, .int a1), (2, .int a2)] [.long 1, .long 0, .long a2.toInt64] σ rfl rfl ⟨trivial, trivial, trivial, trivial, trivial⟩ rfl ?_
  refine aw_callS hC hA (rest := []) (c_mo_within σ a2.toInt64 0 1 _ rfl) mt_X7_within ln_7_50 (by decide +kernel) rfl rfl (Nat.le_of_ble_eq_true rfl) ⟨⟨rfl, rfl⟩, Nat.le_of_ble_eq_true rfl, Nat.le_of_ble_eq_true rfl⟩ ⟨Nat.zero_le _, Nat.zero_le _⟩ rfl ?_
  refine aw_if_ne (off := 6) hC 13 Iff.rfl (by decide +kernel) (by decide) (fun h => ?_) (fun h => ?_)
  · have hF := (if_neg h).symm.trans hF
    refine aw_run (pc' := 14) hC [(.aload_n 0, 1, 0, 0, .null)] (by decide +kernel) [(0, .ref 20), (1, .int a1), (2, .int a2)] [.ref 20] σ rfl rfl ⟨trivial, trivial⟩ rfl ?_
    obtain ⟨q1, eq1, hF⟩ := bd hF
    refine aw_callV hC hA (rest := []) (c_mo_fit N σ q1 eq1) mt_X7_fit ln_7_151 (by decide +kernel) ⟨_, rfl⟩ rfl rfl (Nat.le_of_ble_eq_true rfl) ⟨⟨rfl, rfl⟩, Nat.le_of_ble_eq_true rfl, Nat.le_of_ble_eq_true rfl⟩ ⟨Nat.zero_le _, Nat.zero_le _⟩ rfl ?_
    refine aw_if_eq (off := 12) hC 29 Iff.rfl (by decide +kernel) (by decide) (fun h => ?_) (fun h => ?_)
    · have hF := (if_pos h).symm.trans hF
      refine aw_run (pc' := 31) hC [(.ldc 105, 2, 0, 0, .int (-100000004))] (by decide +kernel) [(0, .ref 20), (1, .int a1), (2, .int a2)] [.int (-100000004)] σ rfl rfl ⟨trivial, trivial⟩ rfl ?_
      exact aw_iret hC hr (by decide +kernel) (pS1 hF) (pS2 hF)
    · have hF := (if_neg h).symm.trans hF
      refine aw_run (pc' := 23) hC [(.aload_n 0, 1, 0, 0, .null), (.iload_n 1, 1, 0, 0, .null), (.iload_n 2, 1, 0, 0, .null)] (by decide +kernel) [(0, .ref 20), (1, .int a1), (2, .int a2)] [.int a2, .int a1, .ref 20] σ rfl rfl ⟨trivial, trivial, trivial, trivial⟩ rfl ?_
      obtain ⟨q2, eq2, hF⟩ := bd hF
      refine aw_callV hC hA (rest := []) (c_mo_cornerNow N σ a1 a2 q2 eq2) mt_X7_cornerNow ln_7_202 (by decide +kernel) ⟨_, rfl⟩ rfl rfl (Nat.le_of_ble_eq_true rfl) ⟨⟨rfl, rfl⟩, Nat.le_of_ble_eq_true rfl, Nat.le_of_ble_eq_true rfl⟩ ⟨Nat.zero_le _, Nat.zero_le _⟩ rfl ?_
      refine aw_goto (off := 5) hC 31 (by decide +kernel) (by decide) ?_
      exact aw_iret hC hr (by decide +kernel) (pS1 hF) (pS2 hF)
  · have hF := (if_pos h).symm.trans hF
    refine aw_run (pc' := 12) hC [(.ldc 54, 2, 0, 0, .int (-100000003))] (by decide +kernel) [(0, .ref 20), (1, .int a1), (2, .int a2)] [.int (-100000003)] σ rfl rfl ⟨trivial, trivial⟩ rfl ?_
    exact aw_iret hC hr (by decide +kernel) (pS1 hF) (pS2 hF)
def f_mo_isAsk (a0 : Int32) (a1 : Int32) (a2 : Int32) : Int32 := if (f_mo_within a0.toInt64 (-200) 200) = 0 then 0 else (if (f_mo_within a1.toInt64 0 1) = 0 then 0 else (if (f_mo_within a2.toInt64 0 1) = 0 then 0 else 1))
def rm_mo_isAsk : Room := { frames := 1, cells := 0, slots := 0, locals := 25 }
set_option maxHeartbeats 4000000 in
set_option maxRecDepth 100000 in
theorem c_mo_isAsk (σ : Sg) (a0 : Int32) (a1 : Int32) (a2 : Int32) (z : Int32) (hF : f_mo_isAsk a0 a1 a2 = z) : Ctr yX7_isAsk cX7_isAsk 3 (some .boolean) rm_mo_isAsk [.int a0, .int a1, .int a2] σ (some (.int z)) σ := by
  refine ct_start 7 (by decide) rfl (fun ad => Nat.le_of_ble_eq_true rfl) [(0, .int a0), (1, .int a1), (2, .int a2)] (fun ad => rfl) ?_
  intro p l e s m args below meth c D ad tc A hC hA hr
  unfold f_mo_isAsk at hF
  refine aw_run (pc' := 8) hC [(.iload_n 0, 1, 0, 0, .null), (.i2l, 1, 0, 0, .null), (.ldc2_w 127, 3, 0, 0, .long (-200)), (.ldc2_w 129, 3, 0, 0, .long 200)] (by decide +kernel) [(0, .int a0), (1, .int a1), (2, .int a2)] [.long 200, .long (-200), .long a0.toInt64] σ rfl rfl ⟨trivial, trivial, trivial, trivial, trivial⟩ rfl ?_
  refine aw_callS hC hA (rest := []) (c_mo_within σ a0.toInt64 (-200) 200 _ rfl) mt_X7_within ln_7_50 (by decide +kernel) rfl rfl (Nat.le_of_ble_eq_true rfl) ⟨⟨rfl, rfl⟩, Nat.le_of_ble_eq_true rfl, Nat.le_of_ble_eq_true rfl⟩ ⟨Nat.zero_le _, Nat.zero_le _⟩ rfl ?_
  refine aw_if_eq (off := 27) hC 38 Iff.rfl (by decide +kernel) (by decide) (fun h => ?_) (fun h => ?_)
  · have hF := (if_pos h).symm.trans hF
    refine aw_run (pc' := 39) hC [(.iconst 0, 1, 0, 0, .int 0)] (by decide +kernel) [(0, .int a0), (1, .int a1), (2, .int a2)] [.int 0] σ rfl rfl ⟨trivial, trivial⟩ rfl ?_
    exact aw_zret hC hr (Or.inl rfl) (by decide +kernel) hF rfl
  · have hF := (if_neg h).symm.trans hF
    refine aw_run (pc' := 18) hC [(.iload_n 1, 1, 0, 0, .null), (.i2l, 1, 0, 0, .null), (.lconst 0, 1, 0, 0, .long 0), (.lconst 1, 1, 0, 0, .long 1)] (by decide +kernel) [(0, .int a0), (1, .int a1), (2, .int a2)] [.long 1, .long 0, .long a1.toInt64] σ rfl rfl ⟨trivial, trivial, trivial, trivial, trivial⟩ rfl ?_
    refine aw_callS hC hA (rest := []) (c_mo_within σ a1.toInt64 0 1 _ rfl) mt_X7_within ln_7_50 (by decide +kernel) rfl rfl (Nat.le_of_ble_eq_true rfl) ⟨⟨rfl, rfl⟩, Nat.le_of_ble_eq_true rfl, Nat.le_of_ble_eq_true rfl⟩ ⟨Nat.zero_le _, Nat.zero_le _⟩ rfl ?_
    refine aw_if_eq (off := 17) hC 38 Iff.rfl (by decide +kernel) (by decide) (fun h => ?_) (fun h => ?_)
    · have hF := (if_pos h).symm.trans hF
      refine aw_run (pc' := 39) hC [(.iconst 0, 1, 0, 0, .int 0)] (by decide +kernel) [(0, .int a0), (1, .int a1), (2, .int a2)] [.int 0] σ rfl rfl ⟨trivial, trivial⟩ rfl ?_
      exact aw_zret hC hr (Or.inl rfl) (by decide +kernel) hF rfl
    · have hF := (if_neg h).symm.trans hF
      refine aw_run (pc' := 28) hC [(.iload_n 2, 1, 0, 0, .null), (.i2l, 1, 0, 0, .null), (.lconst 0, 1, 0, 0, .long 0), (.lconst 1, 1, 0, 0, .long 1)] (by decide +kernel) [(0, .int a0), (1, .int a1), (2, .int a2)] [.long 1, .long 0, .long a2.toInt64] σ rfl rfl ⟨trivial, trivial, trivial, trivial, trivial⟩ rfl ?_
      refine aw_callS hC hA (rest := []) (c_mo_within σ a2.toInt64 0 1 _ rfl) mt_X7_within ln_7_50 (by decide +kernel) rfl rfl (Nat.le_of_ble_eq_true rfl) ⟨⟨rfl, rfl⟩, Nat.le_of_ble_eq_true rfl, Nat.le_of_ble_eq_true rfl⟩ ⟨Nat.zero_le _, Nat.zero_le _⟩ rfl ?_
      refine aw_if_eq (off := 7) hC 38 Iff.rfl (by decide +kernel) (by decide) (fun h => ?_) (fun h => ?_)
      · have hF := (if_pos h).symm.trans hF
        refine aw_run (pc' := 39) hC [(.iconst 0, 1, 0, 0, .int 0)] (by decide +kernel) [(0, .int a0), (1, .int a1), (2, .int a2)] [.int 0] σ rfl rfl ⟨trivial, trivial⟩ rfl ?_
        exact aw_zret hC hr (Or.inl rfl) (by decide +kernel) hF rfl
      · have hF := (if_neg h).symm.trans hF
        refine aw_run (pc' := 35) hC [(.iconst 1, 1, 0, 0, .int 1)] (by decide +kernel) [(0, .int a0), (1, .int a1), (2, .int a2)] [.int 1] σ rfl rfl ⟨trivial, trivial⟩ rfl ?_
        refine aw_goto (off := 4) hC 39 (by decide +kernel) (by decide) ?_
        exact aw_zret hC hr (Or.inr rfl) (by decide +kernel) hF rfl
