def f_sp_hold_19_c67_s (N : Nat) (kc7 : Int32 → Int32 → Int32 → Sg → Option Sg) (kc67 : Int32 → Int32 → Int32 → Int32 → Sg → Option Sg) (a1 : Int32) (a2 : Int32) (a4 : Int32) (a5 : Int32) (σ : Sg) : Option Sg := if (σ.1 4 5) ≤ a5 then (kc7 a1 a2 (a4 + 1) σ) else (if ib a5 8 then if (σ.1 6 a5.toNatClampNeg) = 0 then (if (σ.1 5 a5.toNatClampNeg) ≤ a1 then (kc67 a1 a2 a4 (a5 + 1) σ) else (if ib a4 8 then (f_ro_inner σ a4 a2).bind fun q5 => (f_ro_inner σ a5 a2).bind fun q6 => nm (f_bo_lower_19 σ ((q5 * ((σ.1 5 a5.toNatClampNeg) - a1)) + (q6 * (a1 - (σ.1 5 a4.toNatClampNeg)))).toInt64 (((σ.1 5 a5.toNatClampNeg) - a1) + (a1 - (σ.1 5 a4.toNatClampNeg))).toInt64) fun q7 => kc67 a1 a2 a4 (a5 + 1) q7 else none)) else (kc67 a1 a2 a4 (a5 + 1) σ) else none)
def f_sp_hold_19_c67 (N : Nat) (kc7 : Int32 → Int32 → Int32 → Sg → Option Sg) : Nat → Int32 → Int32 → Int32 → Int32 → Sg → Option Sg
  | 0 => fun _ _ _ _ _ => none
  | n + 1 => f_sp_hold_19_c67_s N kc7 (f_sp_hold_19_c67 N kc7 n)
def f_sp_hold_19_c7_s (N : Nat) (kc7 : Int32 → Int32 → Int32 → Sg → Option Sg) (a1 : Int32) (a2 : Int32) (a4 : Int32) (σ : Sg) : Option Sg := if (σ.1 4 5) ≤ a4 then (some σ) else (if ib a4 8 then if (σ.1 6 a4.toNatClampNeg) = 0 then (if (σ.1 5 a4.toNatClampNeg) ≤ a1 then (if (σ.1 5 a4.toNatClampNeg) = a1 then ((f_ro_inner σ a4 a2).bind fun q8 => nm (f_bo_lower_19 σ q8.toInt64 1) fun q9 => f_sp_hold_19_c67 N kc7 N a1 a2 a4 0 q9) else (f_sp_hold_19_c67 N kc7 N a1 a2 a4 0 σ)) else (kc7 a1 a2 (a4 + 1) σ)) else (kc7 a1 a2 (a4 + 1) σ) else none)
def f_sp_hold_19_c7 (N : Nat) : Nat → Int32 → Int32 → Int32 → Sg → Option Sg
  | 0 => fun _ _ _ _ => none
  | n + 1 => f_sp_hold_19_c7_s N (f_sp_hold_19_c7 N n)
def f_sp_hold_19 (N : Nat) (σ : Sg) (a1 : Int32) (a2 : Int32) : Option Sg := nm (f_bo_release_19 σ) fun q1 => f_sp_hold_19_c7 N N a1 a2 0 q1
def rm_sp_hold_19 : Room := { frames := 2, cells := 0, slots := 0, locals := 48 }
set_option maxHeartbeats 4000000 in
set_option maxRecDepth 100000 in
theorem c_sp_hold_19 (N : Nat) (σ : Sg) (a1 : Int32) (a2 : Int32) (z : Sg) (hF : f_sp_hold_19 N σ a1 a2 = some z) : Ctr yX4_hold cX4_hold 8 none rm_sp_hold_19 [.ref 4, .int a1, .int a2, .ref 19] σ none z := by
  refine ct_start 4 (by decide) rfl (fun ad => Nat.le_of_ble_eq_true rfl) [(0, .ref 4), (1, .int a1), (2, .int a2), (3, .ref 19)] (fun ad => rfl) ?_
  intro p l e s m args below meth c D ad tc A hC hA hr
  have Jc67 : ∀ (kc7 : Int32 → Int32 → Int32 → Sg → Option Sg) (Hc7 : ∀ (a1 : Int32) (a2 : Int32) (a4 : Int32) (σ : Sg), kc7 a1 a2 a4 σ = some z → AW p l e rm_sp_hold_19 s m args below meth c D ad tc 8 A s.heap 0 0 (MQ below (Qr none D ad tc z A) args s 0 0 A) 7 [(0, .ref 4), (1, .int a1), (2, .int a2), (3, .ref 19), (4, .int a4)] [] σ) (n : Nat) (a1 : Int32) (a2 : Int32) (a4 : Int32) (a5 : Int32) (σ : Sg), f_sp_hold_19_c67 N kc7 n a1 a2 a4 a5 σ = some z → AW p l e rm_sp_hold_19 s m args below meth c D ad tc 8 A s.heap 0 0 (MQ below (Qr none D ad tc z A) args s 0 0 A) 67 [(0, .ref 4), (1, .int a1), (2, .int a2), (3, .ref 19), (4, .int a4), (5, .int a5)] [] σ := by
    intro kc7 Hc7 n
    induction n with
    | zero =>
      intro a1 a2 a4 a5 σ hF
      cases hF
    | succ n ih =>
      intro a1 a2 a4 a5 σ hF
      have hF : f_sp_hold_19_c67_s N kc7 (f_sp_hold_19_c67 N kc7 n) a1 a2 a4 a5 σ = some z := hF
      unfold f_sp_hold_19_c67_s at hF
      refine aw_run (pc' := 73) hC [(.iload 5, 2, 0, 0, .null), (.aload_n 0, 1, 0, 0, .null), (.getfield 75, 3, 3, 5, .null)] (by decide +kernel) [(0, .ref 4), (1, .int a1), (2, .int a2), (3, .ref 19), (4, .int a4), (5, .int a5)] [.int (σ.1 4 5), .int a5] σ rfl rfl ⟨trivial, trivial, trivial, trivial⟩ rfl ?_
      refine aw_icmp_ge (off := 84) hC 157 (by decide +kernel) (by decide) (fun h => ?_) (fun h => ?_)
      · have hF := (if_pos h).symm.trans hF
        refine aw_run (pc' := 160) hC [(.iinc 4 1, 3, 0, 0, .int 1)] (by decide +kernel) [(0, .ref 4), (1, .int a1), (2, .int a2), (3, .ref 19), (4, .int (a4 + 1)), (5, .int a5)] [] σ rfl rfl ⟨trivial, trivial⟩ rfl ?_
        refine aw_goto (off := -153) hC 7 (by decide +kernel) (by decide) ?_
        refine aw_pick [0, 1, 2, 3, 4] [(0, .ref 4), (1, .int a1), (2, .int a2), (3, .ref 19), (4, .int (a4 + 1))] rfl ?_
        exact Hc7 a1 a2 (a4 + 1) σ hF
      · have hF := (if_neg h).symm.trans hF
        obtain ⟨g3, hF⟩ := gd hF
        refine aw_run (pc' := 83) hC [(.aload_n 0, 1, 0, 0, .null), (.getfield 81, 3, 3, 1, .null), (.iload 5, 2, 0, 0, .null), (.baload, 1, 0, 0, .null)] (by decide +kernel) [(0, .ref 4), (1, .int a1), (2, .int a2), (3, .ref 19), (4, .int a4), (5, .int a5)] [.int (σ.1 6 a5.toNatClampNeg)] σ rfl rfl ⟨trivial, trivial, trivial, g3, trivial⟩ rfl ?_
        refine aw_if_ne (off := 68) hC 151 Iff.rfl (by decide +kernel) (by decide) (fun h => ?_) (fun h => ?_)
        · have hF := (if_neg h).symm.trans hF
          refine aw_run (pc' := 154) hC [(.iinc 5 1, 3, 0, 0, .int 1)] (by decide +kernel) [(0, .ref 4), (1, .int a1), (2, .int a2), (3, .ref 19), (4, .int a4), (5, .int (a5 + 1))] [] σ rfl rfl ⟨trivial, trivial⟩ rfl ?_
          refine aw_goto (off := -87) hC 67 (by decide +kernel) (by decide) ?_
          exact ih a1 a2 a4 (a5 + 1) σ hF
        · have hF := (if_pos h).symm.trans hF
          refine aw_run (pc' := 94) hC [(.aload_n 0, 1, 0, 0, .null), (.getfield 85, 3, 3, 0, .null), (.iload 5, 2, 0, 0, .null), (.iaload, 1, 0, 0, .null), (.iload_n 1, 1, 0, 0, .null)] (by decide +kernel) [(0, .ref 4), (1, .int a1), (2, .int a2), (3, .ref 19), (4, .int a4), (5, .int a5)] [.int a1, .int (σ.1 5 a5.toNatClampNeg)] σ rfl rfl ⟨trivial, trivial, trivial, g3, trivial, trivial⟩ rfl ?_
          refine aw_icmp_le (off := 57) hC 151 (by decide +kernel) (by decide) (fun h => ?_) (fun h => ?_)
          · have hF := (if_pos h).symm.trans hF
            refine aw_run (pc' := 154) hC [(.iinc 5 1, 3, 0, 0, .int 1)] (by decide +kernel) [(0, .ref 4), (1, .int a1), (2, .int a2), (3, .ref 19), (4, .int a4), (5, .int (a5 + 1))] [] σ rfl rfl ⟨trivial, trivial⟩ rfl ?_
            refine aw_goto (off := -87) hC 67 (by decide +kernel) (by decide) ?_
            exact ih a1 a2 a4 (a5 + 1) σ hF
          · have hF := (if_neg h).symm.trans hF
            obtain ⟨g4, hF⟩ := gd hF
            refine aw_run (pc' := 124) hC [(.aload_n 0, 1, 0, 0, .null), (.getfield 85, 3, 3, 0, .null), (.iload 5, 2, 0, 0, .null), (.iaload, 1, 0, 0, .null), (.iload_n 1, 1, 0, 0, .null), (.isub, 1, 0, 0, .null), (.istore 6, 2, 0, 0, .null), (.iload_n 1, 1, 0, 0, .null), (.aload_n 0, 1, 0, 0, .null), (.getfield 85, 3, 3, 0, .null), (.iload 4, 2, 0, 0, .null), (.iaload, 1, 0, 0, .null), (.isub, 1, 0, 0, .null), (.istore 7, 2, 0, 0, .null), (.aload_n 3, 1, 0, 0, .null), (.aload_n 0, 1, 0, 0, .null), (.iload 4, 2, 0, 0, .null), (.iload_n 2, 1, 0, 0, .null)] (by decide +kernel) [(0, .ref 4), (1, .int a1), (2, .int a2), (3, .ref 19), (4, .int a4), (5, .int a5), (6, .int ((σ.1 5 a5.toNatClampNeg) - a1)), (7, .int (a1 - (σ.1 5 a4.toNatClampNeg)))] [.int a2, .int a4, .ref 4, .ref 19] σ rfl rfl ⟨trivial, trivial, trivial, g3, trivial, trivial, trivial, trivial, trivial, trivial, trivial, g4, trivial, trivial, trivial, trivial, trivial, trivial, trivial⟩ rfl ?_
            obtain ⟨q5, eq5, hF⟩ := bd hF
            refine aw_callV hC hA (rest := [.ref 19]) (c_ro_inner σ a4 a2 q5 eq5) mt_X3_inner ln_4_89 (by decide +kernel) ⟨_, rfl⟩ rfl rfl (Nat.le_of_ble_eq_true rfl) ⟨⟨rfl, rfl⟩, Nat.le_of_ble_eq_true rfl, Nat.le_of_ble_eq_true rfl⟩ ⟨Nat.zero_le _, Nat.zero_le _⟩ rfl ?_
            refine aw_run (pc' := 134) hC [(.iload 6, 2, 0, 0, .null), (.imul, 1, 0, 0, .null), (.aload_n 0, 1, 0, 0, .null), (.iload 5, 2, 0, 0, .null), (.iload_n 2, 1, 0, 0, .null)] (by decide +kernel) [(0, .ref 4), (1, .int a1), (2, .int a2), (3, .ref 19), (4, .int a4), (5, .int a5), (6, .int ((σ.1 5 a5.toNatClampNeg) - a1)), (7, .int (a1 - (σ.1 5 a4.toNatClampNeg)))] [.int a2, .int a5, .ref 4, .int (q5 * ((σ.1 5 a5.toNatClampNeg) - a1)), .ref 19] σ rfl rfl ⟨trivial, trivial, trivial, trivial, trivial, trivial⟩ rfl ?_
            obtain ⟨q6, eq6, hF⟩ := bd hF
            refine aw_callV hC hA (rest := [.int (q5 * ((σ.1 5 a5.toNatClampNeg) - a1)), .ref 19]) (c_ro_inner σ a5 a2 q6 eq6) mt_X3_inner ln_4_89 (by decide +kernel) ⟨_, rfl⟩ rfl rfl (Nat.le_of_ble_eq_true rfl) ⟨⟨rfl, rfl⟩, Nat.le_of_ble_eq_true rfl, Nat.le_of_ble_eq_true rfl⟩ ⟨Nat.zero_le _, Nat.zero_le _⟩ rfl ?_
            refine aw_run (pc' := 148) hC [(.iload 7, 2, 0, 0, .null), (.imul, 1, 0, 0, .null), (.iadd, 1, 0, 0, .null), (.i2l, 1, 0, 0, .null), (.iload 6, 2, 0, 0, .null), (.iload 7, 2, 0, 0, .null), (.iadd, 1, 0, 0, .null), (.i2l, 1, 0, 0, .null)] (by decide +kernel) [(0, .ref 4), (1, .int a1), (2, .int a2), (3, .ref 19), (4, .int a4), (5, .int a5), (6, .int ((σ.1 5 a5.toNatClampNeg) - a1)), (7, .int (a1 - (σ.1 5 a4.toNatClampNeg)))] [.long (((σ.1 5 a5.toNatClampNeg) - a1) + (a1 - (σ.1 5 a4.toNatClampNeg))).toInt64, .long ((q5 * ((σ.1 5 a5.toNatClampNeg) - a1)) + (q6 * (a1 - (σ.1 5 a4.toNatClampNeg)))).toInt64, .ref 19] σ rfl rfl ⟨trivial, trivial, trivial, trivial, trivial, trivial, trivial, trivial, trivial⟩ rfl ?_
            obtain ⟨q7, eq7, hF⟩ := nmd hF
            refine aw_callV hC hA (rest := []) (c_bo_lower_19 σ ((q5 * ((σ.1 5 a5.toNatClampNeg) - a1)) + (q6 * (a1 - (σ.1 5 a4.toNatClampNeg)))).toInt64 (((σ.1 5 a5.toNatClampNeg) - a1) + (a1 - (σ.1 5 a4.toNatClampNeg))).toInt64 q7 eq7) mt_X0_lower ln_4_93 (by decide +kernel) ⟨_, rfl⟩ rfl rfl (Nat.le_of_ble_eq_true rfl) ⟨⟨rfl, rfl⟩, Nat.le_of_ble_eq_true rfl, Nat.le_of_ble_eq_true rfl⟩ ⟨Nat.zero_le _, Nat.zero_le _⟩ rfl ?_
            refine aw_run (pc' := 154) hC [(.iinc 5 1, 3, 0, 0, .int 1)] (by decide +kernel) [(0, .ref 4), (1, .int a1), (2, .int a2), (3, .ref 19), (4, .int a4), (5, .int (a5 + 1)), (6, .int ((σ.1 5 a5.toNatClampNeg) - a1)), (7, .int (a1 - (σ.1 5 a4.toNatClampNeg)))] [] q7 rfl rfl ⟨trivial, trivial⟩ rfl ?_
            refine aw_goto (off := -87) hC 67 (by decide +kernel) (by decide) ?_
            refine aw_pick [0, 1, 2, 3, 4, 5] [(0, .ref 4), (1, .int a1), (2, .int a2), (3, .ref 19), (4, .int a4), (5, .int (a5 + 1))] rfl ?_
            exact ih a1 a2 a4 (a5 + 1) q7 hF
  have Jc7 : ∀ (n : Nat) (a1 : Int32) (a2 : Int32) (a4 : Int32) (σ : Sg), f_sp_hold_19_c7 N n a1 a2 a4 σ = some z → AW p l e rm_sp_hold_19 s m args below meth c D ad tc 8 A s.heap 0 0 (MQ below (Qr none D ad tc z A) args s 0 0 A) 7 [(0, .ref 4), (1, .int a1), (2, .int a2), (3, .ref 19), (4, .int a4)] [] σ := by
    intro n
    induction n with
    | zero =>
      intro a1 a2 a4 σ hF
      cases hF
    | succ n ih =>
      intro a1 a2 a4 σ hF
      have hF : f_sp_hold_19_c7_s N (f_sp_hold_19_c7 N n) a1 a2 a4 σ = some z := hF
      unfold f_sp_hold_19_c7_s at hF
      refine aw_run (pc' := 13) hC [(.iload 4, 2, 0, 0, .null), (.aload_n 0, 1, 0, 0, .null), (.getfield 75, 3, 3, 5, .null)] (by decide +kernel) [(0, .ref 4), (1, .int a1), (2, .int a2), (3, .ref 19), (4, .int a4)] [.int (σ.1 4 5), .int a4] σ rfl rfl ⟨trivial, trivial, trivial, trivial⟩ rfl ?_
      refine aw_icmp_ge (off := 150) hC 163 (by decide +kernel) (by decide) (fun h => ?_) (fun h => ?_)
      · have hF := (if_pos h).symm.trans hF
        exact aw_vret hC hr (by decide +kernel)  (Option.some.inj hF)
      · have hF := (if_neg h).symm.trans hF
        obtain ⟨g2, hF⟩ := gd hF
        refine aw_run (pc' := 23) hC [(.aload_n 0, 1, 0, 0, .null), (.getfield 81, 3, 3, 1, .null), (.iload 4, 2, 0, 0, .null), (.baload, 1, 0, 0, .null)] (by decide +kernel) [(0, .ref 4), (1, .int a1), (2, .int a2), (3, .ref 19), (4, .int a4)] [.int (σ.1 6 a4.toNatClampNeg)] σ rfl rfl ⟨trivial, trivial, trivial, g2, trivial⟩ rfl ?_
        refine aw_if_ne (off := 134) hC 157 Iff.rfl (by decide +kernel) (by decide) (fun h => ?_) (fun h => ?_)
        · have hF := (if_neg h).symm.trans hF
          refine aw_run (pc' := 160) hC [(.iinc 4 1, 3, 0, 0, .int 1)] (by decide +kernel) [(0, .ref 4), (1, .int a1), (2, .int a2), (3, .ref 19), (4, .int (a4 + 1))] [] σ rfl rfl ⟨trivial, trivial⟩ rfl ?_
          refine aw_goto (off := -153) hC 7 (by decide +kernel) (by decide) ?_
          exact ih a1 a2 (a4 + 1) σ hF
        · have hF := (if_pos h).symm.trans hF
          refine aw_run (pc' := 34) hC [(.aload_n 0, 1, 0, 0, .null), (.getfield 85, 3, 3, 0, .null), (.iload 4, 2, 0, 0, .null), (.iaload, 1, 0, 0, .null), (.iload_n 1, 1, 0, 0, .null)] (by decide +kernel) [(0, .ref 4), (1, .int a1), (2, .int a2), (3, .ref 19), (4, .int a4)] [.int a1, .int (σ.1 5 a4.toNatClampNeg)] σ rfl rfl ⟨trivial, trivial, trivial, g2, trivial, trivial⟩ rfl ?_
          refine aw_icmp_le (off := 6) hC 40 (by decide +kernel) (by decide) (fun h => ?_) (fun h => ?_)
          · have hF := (if_pos h).symm.trans hF
            refine aw_run (pc' := 48) hC [(.aload_n 0, 1, 0, 0, .null), (.getfield 85, 3, 3, 0, .null), (.iload 4, 2, 0, 0, .null), (.iaload, 1, 0, 0, .null), (.iload_n 1, 1, 0, 0, .null)] (by decide +kernel) [(0, .ref 4), (1, .int a1), (2, .int a2), (3, .ref 19), (4, .int a4)] [.int a1, .int (σ.1 5 a4.toNatClampNeg)] σ rfl rfl ⟨trivial, trivial, trivial, g2, trivial, trivial⟩ rfl ?_
            refine aw_icmp_ne (off := 16) hC 64 (by decide +kernel) (by decide) (fun h => ?_) (fun h => ?_)
            · have hF := (if_neg h).symm.trans hF
              refine aw_run (pc' := 67) hC [(.iconst 0, 1, 0, 0, .int 0), (.istore 5, 2, 0, 0, .null)] (by decide +kernel) [(0, .ref 4), (1, .int a1), (2, .int a2), (3, .ref 19), (4, .int a4), (5, .int 0)] [] σ rfl rfl ⟨trivial, trivial, trivial⟩ rfl ?_
              exact Jc67 (f_sp_hold_19_c7 N n) ih N a1 a2 a4 0 σ hF
            · have hF := (if_pos h).symm.trans hF
              refine aw_run (pc' := 56) hC [(.aload_n 3, 1, 0, 0, .null), (.aload_n 0, 1, 0, 0, .null), (.iload 4, 2, 0, 0, .null), (.iload_n 2, 1, 0, 0, .null)] (by decide +kernel) [(0, .ref 4), (1, .int a1), (2, .int a2), (3, .ref 19), (4, .int a4)] [.int a2, .int a4, .ref 4, .ref 19] σ rfl rfl ⟨trivial, trivial, trivial, trivial, trivial⟩ rfl ?_
              obtain ⟨q8, eq8, hF⟩ := bd hF
              refine aw_callV hC hA (rest := [.ref 19]) (c_ro_inner σ a4 a2 q8 eq8) mt_X3_inner ln_4_89 (by decide +kernel) ⟨_, rfl⟩ rfl rfl (Nat.le_of_ble_eq_true rfl) ⟨⟨rfl, rfl⟩, Nat.le_of_ble_eq_true rfl, Nat.le_of_ble_eq_true rfl⟩ ⟨Nat.zero_le _, Nat.zero_le _⟩ rfl ?_
              refine aw_run (pc' := 61) hC [(.i2l, 1, 0, 0, .null), (.lconst 1, 1, 0, 0, .long 1)] (by decide +kernel) [(0, .ref 4), (1, .int a1), (2, .int a2), (3, .ref 19), (4, .int a4)] [.long 1, .long q8.toInt64, .ref 19] σ rfl rfl ⟨trivial, trivial, trivial⟩ rfl ?_
              obtain ⟨q9, eq9, hF⟩ := nmd hF
              refine aw_callV hC hA (rest := []) (c_bo_lower_19 σ q8.toInt64 1 q9 eq9) mt_X0_lower ln_4_93 (by decide +kernel) ⟨_, rfl⟩ rfl rfl (Nat.le_of_ble_eq_true rfl) ⟨⟨rfl, rfl⟩, Nat.le_of_ble_eq_true rfl, Nat.le_of_ble_eq_true rfl⟩ ⟨Nat.zero_le _, Nat.zero_le _⟩ rfl ?_
              refine aw_run (pc' := 67) hC [(.iconst 0, 1, 0, 0, .int 0), (.istore 5, 2, 0, 0, .null)] (by decide +kernel) [(0, .ref 4), (1, .int a1), (2, .int a2), (3, .ref 19), (4, .int a4), (5, .int 0)] [] q9 rfl rfl ⟨trivial, trivial, trivial⟩ rfl ?_
              exact Jc67 (f_sp_hold_19_c7 N n) ih N a1 a2 a4 0 q9 hF
          · have hF := (if_neg h).symm.trans hF
            refine aw_goto (off := 120) hC 157 (by decide +kernel) (by decide) ?_
            refine aw_run (pc' := 160) hC [(.iinc 4 1, 3, 0, 0, .int 1)] (by decide +kernel) [(0, .ref 4), (1, .int a1), (2, .int a2), (3, .ref 19), (4, .int (a4 + 1))] [] σ rfl rfl ⟨trivial, trivial⟩ rfl ?_
            refine aw_goto (off := -153) hC 7 (by decide +kernel) (by decide) ?_
            exact ih a1 a2 (a4 + 1) σ hF
  unfold f_sp_hold_19 at hF
  refine aw_run (pc' := 1) hC [(.aload_n 3, 1, 0, 0, .null)] (by decide +kernel) [(0, .ref 4), (1, .int a1), (2, .int a2), (3, .ref 19)] [.ref 19] σ rfl rfl ⟨trivial, trivial⟩ rfl ?_
  obtain ⟨q1, eq1, hF⟩ := nmd hF
  refine aw_callV hC hA (rest := []) (c_bo_release_19 σ q1 eq1) mt_X0_release ln_4_72 (by decide +kernel) ⟨_, rfl⟩ rfl rfl (Nat.le_of_ble_eq_true rfl) ⟨⟨rfl, rfl⟩, Nat.le_of_ble_eq_true rfl, Nat.le_of_ble_eq_true rfl⟩ ⟨Nat.zero_le _, Nat.zero_le _⟩ rfl ?_
  refine aw_run (pc' := 7) hC [(.iconst 0, 1, 0, 0, .int 0), (.istore 4, 2, 0, 0, .null)] (by decide +kernel) [(0, .ref 4), (1, .int a1), (2, .int a2), (3, .ref 19), (4, .int 0)] [] q1 rfl rfl ⟨trivial, trivial, trivial⟩ rfl ?_
  exact Jc7 N a1 a2 0 q1 hF
def f_sp_measureHeld (N : Nat) (σ : Sg) (a2 : Int32) : Option Sg := (f_sp_hold_18 N σ a2 0).bind fun q1 => (f_sp_hold_19 N q1 a2 1).bind fun q2 => if (q2.1 18 0) = 0 then (if (q2.1 19 0) = 0 then (nm (uI q2 17 2 0) fun σ4 => some σ4) else (nm (uI q2 17 2 1) fun σ5 => some σ5)) else (nm (uI q2 17 2 1) fun σ3 => some σ3)
def rm_sp_measureHeld : Room := { frames := 3, cells := 0, slots := 0, locals := 75 }
set_option maxHeartbeats 4000000 in
set_option maxRecDepth 100000 in
theorem c_sp_measureHeld (N : Nat) (σ : Sg) (a2 : Int32) (z : Sg) (hF : f_sp_measureHeld N σ a2 = some z) : Ctr yX4_measureHeld cX4_measureHeld 3 none rm_sp_measureHeld [.ref 17, .ref 4, .int a2] σ none z := by
  refine ct_start 4 (by decide) rfl (fun ad => Nat.le_of_ble_eq_true rfl) [(0, .ref 17), (1, .ref 4), (2, .int a2)] (fun ad => rfl) ?_
  intro p l e s m args below meth c D ad tc A hC hA hr
  unfold f_sp_measureHeld at hF
  refine aw_run (pc' := 7) hC [(.aload_n 1, 1, 0, 0, .null), (.iload_n 2, 1, 0, 0, .null), (.iconst 0, 1, 0, 0, .int 0), (.aload_n 0, 1, 0, 0, .null), (.getfield 12, 3, 4, 0, .null)] (by decide +kernel) [(0, .ref 17), (1, .ref 4), (2, .int a2)] [.ref 18, .int 0, .int a2, .ref 4] σ rfl rfl ⟨trivial, trivial, trivial, trivial, trivial, trivial⟩ rfl ?_
  obtain ⟨q1, eq1, hF⟩ := bd hF
  refine aw_callS hC hA (rest := []) (c_sp_hold_18 N σ a2 0 q1 eq1) mt_X4_hold ln_4_21 (by decide +kernel) rfl rfl (Nat.le_of_ble_eq_true rfl) ⟨⟨rfl, rfl⟩, Nat.le_of_ble_eq_true rfl, Nat.le_of_ble_eq_true rfl⟩ ⟨Nat.zero_le _, Nat.zero_le _⟩ rfl ?_
  refine aw_run (pc' := 17) hC [(.aload_n 1, 1, 0, 0, .null), (.iload_n 2, 1, 0, 0, .null), (.iconst 1, 1, 0, 0, .int 1), (.aload_n 0, 1, 0, 0, .null), (.getfield 18, 3, 4, 1, .null)] (by decide +kernel) [(0, .ref 17), (1, .ref 4), (2, .int a2)] [.ref 19, .int 1, .int a2, .ref 4] q1 rfl rfl ⟨trivial, trivial, trivial, trivial, trivial, trivial⟩ rfl ?_
  obtain ⟨q2, eq2, hF⟩ := bd hF
  refine aw_callS hC hA (rest := []) (c_sp_hold_19 N q1 a2 1 q2 eq2) mt_X4_hold ln_4_21 (by decide +kernel) rfl rfl (Nat.le_of_ble_eq_true rfl) ⟨⟨rfl, rfl⟩, Nat.le_of_ble_eq_true rfl, Nat.le_of_ble_eq_true rfl⟩ ⟨Nat.zero_le _, Nat.zero_le _⟩ rfl ?_
  refine aw_run (pc' := 28) hC [(.aload_n 0, 1, 0, 0, .null), (.aload_n 0, 1, 0, 0, .null), (.getfield 12, 3, 4, 0, .null), (.getfield 25, 3, 0, 0, .null)] (by decide +kernel) [(0, .ref 17), (1, .ref 4), (2, .int a2)] [.int (q2.1 18 0), .ref 17] q2 rfl rfl ⟨trivial, trivial, trivial, trivial, trivial⟩ rfl ?_
  refine aw_if_ne (off := 13) hC 41 Iff.rfl (by decide +kernel) (by decide) (fun h => ?_) (fun h => ?_)
  · have hF := (if_neg h).symm.trans hF
    refine aw_run (pc' := 42) hC [(.iconst 1, 1, 0, 0, .int 1)] (by decide +kernel) [(0, .ref 17), (1, .ref 4), (2, .int a2)] [.int 1, .ref 17] q2 rfl rfl ⟨trivial, trivial⟩ rfl ?_
    refine aw_goto (off := 4) hC 46 (by decide +kernel) (by decide) ?_
    obtain ⟨σ3, hσ3, hF⟩ := nmd hF
    refine aw_run (pc' := 49) hC [(.putfield 29, 3, 4, 2, .null)] (by decide +kernel) [(0, .ref 17), (1, .ref 4), (2, .int a2)] [] (uI q2 17 2 1) rfl rfl ⟨(Or.inr rfl), trivial⟩ hσ3 ?_
    exact aw_vret hC hr (by decide +kernel)  (Option.some.inj hF)
  · have hF := (if_pos h).symm.trans hF
    refine aw_run (pc' := 38) hC [(.aload_n 0, 1, 0, 0, .null), (.getfield 18, 3, 4, 1, .null), (.getfield 25, 3, 0, 0, .null)] (by decide +kernel) [(0, .ref 17), (1, .ref 4), (2, .int a2)] [.int (q2.1 19 0), .ref 17] q2 rfl rfl ⟨trivial, trivial, trivial, trivial⟩ rfl ?_
    refine aw_if_eq (off := 7) hC 45 Iff.rfl (by decide +kernel) (by decide) (fun h => ?_) (fun h => ?_)
    · have hF := (if_pos h).symm.trans hF
      obtain ⟨σ4, hσ4, hF⟩ := nmd hF
      refine aw_run (pc' := 49) hC [(.iconst 0, 1, 0, 0, .int 0), (.putfield 29, 3, 4, 2, .null)] (by decide +kernel) [(0, .ref 17), (1, .ref 4), (2, .int a2)] [] (uI q2 17 2 0) rfl rfl ⟨trivial, (Or.inl rfl), trivial⟩ hσ4 ?_
      exact aw_vret hC hr (by decide +kernel)  (Option.some.inj hF)
    · have hF := (if_neg h).symm.trans hF
      refine aw_run (pc' := 42) hC [(.iconst 1, 1, 0, 0, .int 1)] (by decide +kernel) [(0, .ref 17), (1, .ref 4), (2, .int a2)] [.int 1, .ref 17] q2 rfl rfl ⟨trivial, trivial⟩ rfl ?_
      refine aw_goto (off := 4) hC 46 (by decide +kernel) (by decide) ?_
      obtain ⟨σ5, hσ5, hF⟩ := nmd hF
      refine aw_run (pc' := 49) hC [(.putfield 29, 3, 4, 2, .null)] (by decide +kernel) [(0, .ref 17), (1, .ref 4), (2, .int a2)] [] (uI q2 17 2 1) rfl rfl ⟨(Or.inr rfl), trivial⟩ hσ5 ?_
      exact aw_vret hC hr (by decide +kernel)  (Option.some.inj hF)
def f_jm_abs_067f4 (a0 : Int64) : Int64 := if (0 : Int64) ≤ a0 then a0 else (-a0)
def rm_jm_abs_067f4 : Room := { frames := 0, cells := 0, slots := 0, locals := 0 }
set_option maxHeartbeats 4000000 in
set_option maxRecDepth 100000 in
theorem c_jm_abs_067f4 (σ : Sg) (a0 : Int64) (z : Int64) (hF : f_jm_abs_067f4 a0 = z) : Ctr yJ9_abs_067f4 cJ9_abs_067f4 2 (some .long) rm_jm_abs_067f4 [.long a0] σ (some (.long z)) σ := by
  refine ct_startJ 9 pf_J9_abs_067f4 rfl (fun ad => Nat.le_of_ble_eq_true rfl) [(0, .long a0)] (fun ad => rfl) ?_
  intro p l e s m args below meth c D ad tc A hC hA hr
  unfold f_jm_abs_067f4 at hF
  refine aw_run (pc' := 3) hC [(.lload_n 0, 1, 0, 0, .null), (.lconst 0, 1, 0, 0, .long 0), (.lcmp, 1, 0, 0, .null)] (by decide +kernel) [(0, .long a0)] [.int (lg_cmp a0 0)] σ rfl rfl ⟨trivial, trivial, trivial, trivial⟩ rfl ?_
  refine aw_if_ge (off := 8) hC 11 (lc_ge _ _) (by decide +kernel) (by decide) (fun h => ?_) (fun h => ?_)
  · have hF := (if_pos h).symm.trans hF
    refine aw_run (pc' := 12) hC [(.lload_n 0, 1, 0, 0, .null)] (by decide +kernel) [(0, .long a0)] [.long a0] σ rfl rfl ⟨trivial, trivial⟩ rfl ?_
    exact aw_lret hC hr (by decide +kernel) hF rfl
  · have hF := (if_neg h).symm.trans hF
    refine aw_run (pc' := 8) hC [(.lload_n 0, 1, 0, 0, .null), (.lneg, 1, 0, 0, .null)] (by decide +kernel) [(0, .long a0)] [.long (-a0)] σ rfl rfl ⟨trivial, trivial, trivial⟩ rfl ?_
    refine aw_goto (off := 4) hC 12 (by decide +kernel) (by decide) ?_
    exact aw_lret hC hr (by decide +kernel) hF rfl
def f_bo_divisor_19_c45 (N : Nat) (a1 : Int64) (σ : Sg) : Option Int64 := if a1 ≤ 0 then (some 1) else (some a1)
def f_bo_divisor_19_c16_s (N : Nat) (kc16 : Int64 → Int64 → Int32 → Sg → Option Int64) (a1 : Int64) (a3 : Int64) (a5 : Int32) (σ : Sg) : Option Int64 := if (100 : Int32) ≤ a5 then (f_bo_divisor_19_c45 N a1 σ) else (if a3 = 0 then (f_bo_divisor_19_c45 N a1 σ) else (if ¬ a3 = 0 then kc16 a3 (a1 - a1 / a3 * a3) (a5 + 1) σ else none))
def f_bo_divisor_19_c16 (N : Nat) : Nat → Int64 → Int64 → Int32 → Sg → Option Int64
  | 0 => fun _ _ _ _ => none
  | n + 1 => f_bo_divisor_19_c16_s N (f_bo_divisor_19_c16 N n)
def f_bo_divisor_19 (N : Nat) (σ : Sg) : Option Int64 := f_bo_divisor_19_c16 N N (f_jm_abs_067f4 (σ.2 19 1)) (σ.2 19 2) 0 σ
def rm_bo_divisor_19 : Room := { frames := 1, cells := 0, slots := 0, locals := 21 }
set_option maxHeartbeats 4000000 in
set_option maxRecDepth 100000 in
theorem c_bo_divisor_19 (N : Nat) (σ : Sg) (z : Int64) (hF : f_bo_divisor_19 N σ = some z) : Ctr yX0_divisor cX0_divisor 8 (some .long) rm_bo_divisor_19 [.ref 19] σ (some (.long z)) σ := by
  refine ct_start 0 (by decide) rfl (fun ad => Nat.le_of_ble_eq_true rfl) [(0, .ref 19)] (fun ad => rfl) ?_
  intro p l e s m args below meth c D ad tc A hC hA hr
  have Jc45 : ∀ (a1 : Int64), f_bo_divisor_19_c45 N a1 σ = some z → AW p l e rm_bo_divisor_19 s m args below meth c D ad tc 8 A s.heap 0 0 (MQ below (Qr (some (.long z)) D ad tc σ A) args s 0 0 A) 45 [(1, .long a1)] [] σ := by
    intro a1 hF
    unfold f_bo_divisor_19_c45 at hF
    refine aw_run (pc' := 48) hC [(.lload_n 1, 1, 0, 0, .null), (.lconst 0, 1, 0, 0, .long 0), (.lcmp, 1, 0, 0, .null)] (by decide +kernel) [(1, .long a1)] [.int (lg_cmp a1 0)] σ rfl rfl ⟨trivial, trivial, trivial, trivial⟩ rfl ?_
    refine aw_if_le (off := 7) hC 55 (lc_le _ _) (by decide +kernel) (by decide) (fun h => ?_) (fun h => ?_)
    · have hF := (if_pos h).symm.trans hF
      refine aw_run (pc' := 56) hC [(.lconst 1, 1, 0, 0, .long 1)] (by decide +kernel) [(1, .long a1)] [.long 1] σ rfl rfl ⟨trivial, trivial⟩ rfl ?_
      exact aw_lret hC hr (by decide +kernel) (Option.some.inj hF) rfl
    · have hF := (if_neg h).symm.trans hF
      refine aw_run (pc' := 52) hC [(.lload_n 1, 1, 0, 0, .null)] (by decide +kernel) [(1, .long a1)] [.long a1] σ rfl rfl ⟨trivial, trivial⟩ rfl ?_
      refine aw_goto (off := 4) hC 56 (by decide +kernel) (by decide) ?_
      exact aw_lret hC hr (by decide +kernel) (Option.some.inj hF) rfl
  have Jc16 : ∀ (n : Nat) (a1 : Int64) (a3 : Int64) (a5 : Int32), f_bo_divisor_19_c16 N n a1 a3 a5 σ = some z → AW p l e rm_bo_divisor_19 s m args below meth c D ad tc 8 A s.heap 0 0 (MQ below (Qr (some (.long z)) D ad tc σ A) args s 0 0 A) 16 [(1, .long a1), (3, .long a3), (5, .int a5)] [] σ := by
    intro n
    induction n with
    | zero =>
      intro a1 a3 a5 hF
      cases hF
    | succ n ih =>
      intro a1 a3 a5 hF
      have hF : f_bo_divisor_19_c16_s N (f_bo_divisor_19_c16 N n) a1 a3 a5 σ = some z := hF
      unfold f_bo_divisor_19_c16_s at hF
      refine aw_run (pc' := 20) hC [(.iload 5, 2, 0, 0, .null), (.bipush 100, 2, 0, 0, .int 100)] (by decide +kernel) [(1, .long a1), (3, .long a3), (5, .int a5)] [.int 100, .int a5] σ rfl rfl ⟨trivial, trivial, trivial⟩ rfl ?_
      refine aw_icmp_ge (off := 25) hC 45 (by decide +kernel) (by decide) (fun h => ?_) (fun h => ?_)
      · have hF := (if_pos h).symm.trans hF
        refine aw_pick [0] [(1, .long a1)] rfl ?_
        exact Jc45 a1 hF
      · have hF := (if_neg h).symm.trans hF
        refine aw_run (pc' := 26) hC [(.lload_n 3, 1, 0, 0, .null), (.lconst 0, 1, 0, 0, .long 0), (.lcmp, 1, 0, 0, .null)] (by decide +kernel) [(1, .long a1), (3, .long a3), (5, .int a5)] [.int (lg_cmp a3 0)] σ rfl rfl ⟨trivial, trivial, trivial, trivial⟩ rfl ?_
        refine aw_if_eq (off := 19) hC 45 (lc_eq _ _) (by decide +kernel) (by decide) (fun h => ?_) (fun h => ?_)
        · have hF := (if_pos h).symm.trans hF
          refine aw_pick [0] [(1, .long a1)] rfl ?_
          exact Jc45 a1 hF
        · have hF := (if_neg h).symm.trans hF
          obtain ⟨g1, hF⟩ := gd hF
          refine aw_run (pc' := 42) hC [(.lload_n 1, 1, 0, 0, .null), (.lload_n 3, 1, 0, 0, .null), (.lrem, 1, 0, 0, .null), (.lstore 6, 2, 0, 0, .null), (.lload_n 3, 1, 0, 0, .null), (.lstore_n 1, 1, 0, 0, .null), (.lload 6, 2, 0, 0, .null), (.lstore_n 3, 1, 0, 0, .null), (.iinc 5 1, 3, 0, 0, .int 1)] (by decide +kernel) [(1, .long a3), (3, .long (a1 - a1 / a3 * a3)), (5, .int (a5 + 1)), (6, .long (a1 - a1 / a3 * a3))] [] σ rfl rfl ⟨trivial, trivial, g1, trivial, trivial, trivial, trivial, trivial, trivial, trivial⟩ rfl ?_
          refine aw_goto (off := -26) hC 16 (by decide +kernel) (by decide) ?_
          refine aw_pick [0, 1, 2] [(1, .long a3), (3, .long (a1 - a1 / a3 * a3)), (5, .int (a5 + 1))] rfl ?_
          exact ih a3 (a1 - a1 / a3 * a3) (a5 + 1) hF
  unfold f_bo_divisor_19 at hF
  refine aw_run (pc' := 4) hC [(.aload_n 0, 1, 0, 0, .null), (.getfield 13, 3, 0, 1, .null)] (by decide +kernel) [(0, .ref 19)] [.long (σ.2 19 1)] σ rfl rfl ⟨trivial, trivial, trivial⟩ rfl ?_
  refine aw_callS hC hA (rest := []) (c_jm_abs_067f4 σ (σ.2 19 1) _ rfl) mt_J9_abs_067f4 ln_0_28 (by decide +kernel) rfl rfl (Nat.le_of_ble_eq_true rfl) ⟨⟨rfl, rfl⟩, Nat.le_of_ble_eq_true rfl, Nat.le_of_ble_eq_true rfl⟩ ⟨Nat.zero_le _, Nat.zero_le _⟩ rfl ?_
  refine aw_run (pc' := 16) hC [(.lstore_n 1, 1, 0, 0, .null), (.aload_n 0, 1, 0, 0, .null), (.getfield 17, 3, 0, 2, .null), (.lstore_n 3, 1, 0, 0, .null), (.iconst 0, 1, 0, 0, .int 0), (.istore 5, 2, 0, 0, .null)] (by decide +kernel) [(0, .ref 19), (1, .long (f_jm_abs_067f4 (σ.2 19 1))), (3, .long (σ.2 19 2)), (5, .int 0)] [] σ rfl rfl ⟨trivial, trivial, trivial, trivial, trivial, trivial, trivial⟩ rfl ?_
  refine aw_pick [1, 2, 3] [(1, .long (f_jm_abs_067f4 (σ.2 19 1))), (3, .long (σ.2 19 2)), (5, .int 0)] rfl ?_
  exact Jc16 N (f_jm_abs_067f4 (σ.2 19 1)) (σ.2 19 2) 0 hF
def f_bo_lowestTop_19 (N : Nat) (σ : Sg) : Option Int32 := (f_bo_divisor_19 N σ).bind fun q1 => if ¬ q1 = 0 then some (((σ.2 19 1) / q1).toInt32) else none
def rm_bo_lowestTop_19 : Room := { frames := 2, cells := 0, slots := 0, locals := 48 }
set_option maxHeartbeats 4000000 in
set_option maxRecDepth 100000 in
theorem c_bo_lowestTop_19 (N : Nat) (σ : Sg) (z : Int32) (hF : f_bo_lowestTop_19 N σ = some z) : Ctr yX0_lowestTop cX0_lowestTop 1 (some .int) rm_bo_lowestTop_19 [.ref 19] σ (some (.int z)) σ := by
  refine ct_start 0 (by decide) rfl (fun ad => Nat.le_of_ble_eq_true rfl) [(0, .ref 19)] (fun ad => rfl) ?_
  intro p l e s m args below meth c D ad tc A hC hA hr
  unfold f_bo_lowestTop_19 at hF
  refine aw_run (pc' := 5) hC [(.aload_n 0, 1, 0, 0, .null), (.getfield 13, 3, 0, 1, .null), (.aload_n 0, 1, 0, 0, .null)] (by decide +kernel) [(0, .ref 19)] [.ref 19, .long (σ.2 19 1)] σ rfl rfl ⟨trivial, trivial, trivial, trivial⟩ rfl ?_
  obtain ⟨q1, eq1, hF⟩ := bd hF
  refine aw_callV hC hA (rest := [.long (σ.2 19 1)]) (c_bo_divisor_19 N σ q1 eq1) mt_X0_divisor ln_0_24 (by decide +kernel) ⟨_, rfl⟩ rfl rfl (Nat.le_of_ble_eq_true rfl) ⟨⟨rfl, rfl⟩, Nat.le_of_ble_eq_true rfl, Nat.le_of_ble_eq_true rfl⟩ ⟨Nat.zero_le _, Nat.zero_le _⟩ rfl ?_
  obtain ⟨g2, hF⟩ := gd hF
  refine aw_run (pc' := 10) hC [(.ldiv, 1, 0, 0, .null), (.l2i, 1, 0, 0, .null)] (by decide +kernel) [(0, .ref 19)] [.int ((σ.2 19 1) / q1).toInt32] σ rfl rfl ⟨g2, trivial, trivial⟩ rfl ?_
  exact aw_iret hC hr (by decide +kernel) (Option.some.inj hF) rfl
def f_bo_lowestBottom_19 (N : Nat) (σ : Sg) : Option Int32 := (f_bo_divisor_19 N σ).bind fun q1 => if ¬ q1 = 0 then some (((σ.2 19 2) / q1).toInt32) else none
def rm_bo_lowestBottom_19 : Room := { frames := 2, cells := 0, slots := 0, locals := 48 }
set_option maxHeartbeats 4000000 in
set_option maxRecDepth 100000 in
theorem c_bo_lowestBottom_19 (N : Nat) (σ : Sg) (z : Int32) (hF : f_bo_lowestBottom_19 N σ = some z) : Ctr yX0_lowestBottom cX0_lowestBottom 1 (some .int) rm_bo_lowestBottom_19 [.ref 19] σ (some (.int z)) σ := by
  refine ct_start 0 (by decide) rfl (fun ad => Nat.le_of_ble_eq_true rfl) [(0, .ref 19)] (fun ad => rfl) ?_
  intro p l e s m args below meth c D ad tc A hC hA hr
  unfold f_bo_lowestBottom_19 at hF
  refine aw_run (pc' := 5) hC [(.aload_n 0, 1, 0, 0, .null), (.getfield 17, 3, 0, 2, .null), (.aload_n 0, 1, 0, 0, .null)] (by decide +kernel) [(0, .ref 19)] [.ref 19, .long (σ.2 19 2)] σ rfl rfl ⟨trivial, trivial, trivial, trivial⟩ rfl ?_
  obtain ⟨q1, eq1, hF⟩ := bd hF
  refine aw_callV hC hA (rest := [.long (σ.2 19 2)]) (c_bo_divisor_19 N σ q1 eq1) mt_X0_divisor ln_0_24 (by decide +kernel) ⟨_, rfl⟩ rfl rfl (Nat.le_of_ble_eq_true rfl) ⟨⟨rfl, rfl⟩, Nat.le_of_ble_eq_true rfl, Nat.le_of_ble_eq_true rfl⟩ ⟨Nat.zero_le _, Nat.zero_le _⟩ rfl ?_
  obtain ⟨g2, hF⟩ := gd hF
  refine aw_run (pc' := 10) hC [(.ldiv, 1, 0, 0, .null), (.l2i, 1, 0, 0, .null)] (by decide +kernel) [(0, .ref 19)] [.int ((σ.2 19 2) / q1).toInt32] σ rfl rfl ⟨g2, trivial, trivial⟩ rfl ?_
  exact aw_iret hC hr (by decide +kernel) (Option.some.inj hF) rfl
def f_bo_divisor_18_c45 (N : Nat) (a1 : Int64) (σ : Sg) : Option Int64 := if a1 ≤ 0 then (some 1) else (some a1)
def f_bo_divisor_18_c16_s (N : Nat) (kc16 : Int64 → Int64 → Int32 → Sg → Option Int64) (a1 : Int64) (a3 : Int64) (a5 : Int32) (σ : Sg) : Option Int64 := if (100 : Int32) ≤ a5 then (f_bo_divisor_18_c45 N a1 σ) else (if a3 = 0 then (f_bo_divisor_18_c45 N a1 σ) else (if ¬ a3 = 0 then kc16 a3 (a1 - a1 / a3 * a3) (a5 + 1) σ else none))
def f_bo_divisor_18_c16 (N : Nat) : Nat → Int64 → Int64 → Int32 → Sg → Option Int64
  | 0 => fun _ _ _ _ => none
  | n + 1 => f_bo_divisor_18_c16_s N (f_bo_divisor_18_c16 N n)
def f_bo_divisor_18 (N : Nat) (σ : Sg) : Option Int64 := f_bo_divisor_18_c16 N N (f_jm_abs_067f4 (σ.2 18 1)) (σ.2 18 2) 0 σ
def rm_bo_divisor_18 : Room := { frames := 1, cells := 0, slots := 0, locals := 21 }
set_option maxHeartbeats 4000000 in
set_option maxRecDepth 100000 in
theorem c_bo_divisor_18 (N : Nat) (σ : Sg) (z : Int64) (hF : f_bo_divisor_18 N σ = some z) : Ctr yX0_divisor cX0_divisor 8 (some .long) rm_bo_divisor_18 [.ref 18] σ (some (.long z)) σ := by
  refine ct_start 0 (by decide) rfl (fun ad => Nat.le_of_ble_eq_true rfl) [(0, .ref 18)] (fun ad => rfl) ?_
  intro p l e s m args below meth c D ad tc A hC hA hr
  have Jc45 : ∀ (a1 : Int64), f_bo_divisor_18_c45 N a1 σ = some z → AW p l e rm_bo_divisor_18 s m args below meth c D ad tc 8 A s.heap 0 0 (MQ below (Qr (some (.long z)) D ad tc σ A) args s 0 0 A) 45 [(1, .long a1)] [] σ := by
    intro a1 hF
    unfold f_bo_divisor_18_c45 at hF
    refine aw_run (pc' := 48) hC [(.lload_n 1, 1, 0, 0, .null), (.lconst 0, 1, 0, 0, .long 0), (.lcmp, 1, 0, 0, .null)] (by decide +kernel) [(1, .long a1)] [.int (lg_cmp a1 0)] σ rfl rfl ⟨trivial, trivial, trivial, trivial⟩ rfl ?_
    refine aw_if_le (off := 7) hC 55 (lc_le _ _) (by decide +kernel) (by decide) (fun h => ?_) (fun h => ?_)
    · have hF := (if_pos h).symm.trans hF
      refine aw_run (pc' := 56) hC [(.lconst 1, 1, 0, 0, .long 1)] (by decide +kernel) [(1, .long a1)] [.long 1] σ rfl rfl ⟨trivial, trivial⟩ rfl ?_
      exact aw_lret hC hr (by decide +kernel) (Option.some.inj hF) rfl
    · have hF := (if_neg h).symm.trans hF
      refine aw_run (pc' := 52) hC [(.lload_n 1, 1, 0, 0, .null)] (by decide +kernel) [(1, .long a1)] [.long a1] σ rfl rfl ⟨trivial, trivial⟩ rfl ?_
      refine aw_goto (off := 4) hC 56 (by decide +kernel) (by decide) ?_
      exact aw_lret hC hr (by decide +kernel) (Option.some.inj hF) rfl
  have Jc16 : ∀ (n : Nat) (a1 : Int64) (a3 : Int64) (a5 : Int32), f_bo_divisor_18_c16 N n a1 a3 a5 σ = some z → AW p l e rm_bo_divisor_18 s m args below meth c D ad tc 8 A s.heap 0 0 (MQ below (Qr (some (.long z)) D ad tc σ A) args s 0 0 A) 16 [(1, .long a1), (3, .long a3), (5, .int a5)] [] σ := by
    intro n
    induction n with
    | zero =>
      intro a1 a3 a5 hF
      cases hF
    | succ n ih =>
      intro a1 a3 a5 hF
      have hF : f_bo_divisor_18_c16_s N (f_bo_divisor_18_c16 N n) a1 a3 a5 σ = some z := hF
      unfold f_bo_divisor_18_c16_s at hF
      refine aw_run (pc' := 20) hC [(.iload 5, 2, 0, 0, .null), (.bipush 100, 2, 0, 0, .int 100)] (by decide +kernel) [(1, .long a1), (3, .long a3), (5, .int a5)] [.int 100, .int a5] σ rfl rfl ⟨trivial, trivial, trivial⟩ rfl ?_
      refine aw_icmp_ge (off := 25) hC 45 (by decide +kernel) (by decide) (fun h => ?_) (fun h => ?_)
      · have hF := (if_pos h).symm.trans hF
        refine aw_pick [0] [(1, .long a1)] rfl ?_
        exact Jc45 a1 hF
      · have hF := (if_neg h).symm.trans hF
        refine aw_run (pc' := 26) hC [(.lload_n 3, 1, 0, 0, .null), (.lconst 0, 1, 0, 0, .long 0), (.lcmp, 1, 0, 0, .null)] (by decide +kernel) [(1, .long a1), (3, .long a3), (5, .int a5)] [.int (lg_cmp a3 0)] σ rfl rfl ⟨trivial, trivial, trivial, trivial⟩ rfl ?_
        refine aw_if_eq (off := 19) hC 45 (lc_eq _ _) (by decide +kernel) (by decide) (fun h => ?_) (fun h => ?_)
        · have hF := (if_pos h).symm.trans hF
          refine aw_pick [0] [(1, .long a1)] rfl ?_
          exact Jc45 a1 hF
        · have hF := (if_neg h).symm.trans hF
          obtain ⟨g1, hF⟩ := gd hF
          refine aw_run (pc' := 42) hC [(.lload_n 1, 1, 0, 0, .null), (.lload_n 3, 1, 0, 0, .null), (.lrem, 1, 0, 0, .null), (.lstore 6, 2, 0, 0, .null), (.lload_n 3, 1, 0, 0, .null), (.lstore_n 1, 1, 0, 0, .null), (.lload 6, 2, 0, 0, .null), (.lstore_n 3, 1, 0, 0, .null), (.iinc 5 1, 3, 0, 0, .int 1)] (by decide +kernel) [(1, .long a3), (3, .long (a1 - a1 / a3 * a3)), (5, .int (a5 + 1)), (6, .long (a1 - a1 / a3 * a3))] [] σ rfl rfl ⟨trivial, trivial, g1, trivial, trivial, trivial, trivial, trivial, trivial, trivial⟩ rfl ?_
          refine aw_goto (off := -26) hC 16 (by decide +kernel) (by decide) ?_
          refine aw_pick [0, 1, 2] [(1, .long a3), (3, .long (a1 - a1 / a3 * a3)), (5, .int (a5 + 1))] rfl ?_
          exact ih a3 (a1 - a1 / a3 * a3) (a5 + 1) hF
  unfold f_bo_divisor_18 at hF
  refine aw_run (pc' := 4) hC [(.aload_n 0, 1, 0, 0, .null), (.getfield 13, 3, 0, 1, .null)] (by decide +kernel) [(0, .ref 18)] [.long (σ.2 18 1)] σ rfl rfl ⟨trivial, trivial, trivial⟩ rfl ?_
  refine aw_callS hC hA (rest := []) (c_jm_abs_067f4 σ (σ.2 18 1) _ rfl) mt_J9_abs_067f4 ln_0_28 (by decide +kernel) rfl rfl (Nat.le_of_ble_eq_true rfl) ⟨⟨rfl, rfl⟩, Nat.le_of_ble_eq_true rfl, Nat.le_of_ble_eq_true rfl⟩ ⟨Nat.zero_le _, Nat.zero_le _⟩ rfl ?_
  refine aw_run (pc' := 16) hC [(.lstore_n 1, 1, 0, 0, .null), (.aload_n 0, 1, 0, 0, .null), (.getfield 17, 3, 0, 2, .null), (.lstore_n 3, 1, 0, 0, .null), (.iconst 0, 1, 0, 0, .int 0), (.istore 5, 2, 0, 0, .null)] (by decide +kernel) [(0, .ref 18), (1, .long (f_jm_abs_067f4 (σ.2 18 1))), (3, .long (σ.2 18 2)), (5, .int 0)] [] σ rfl rfl ⟨trivial, trivial, trivial, trivial, trivial, trivial, trivial⟩ rfl ?_
  refine aw_pick [1, 2, 3] [(1, .long (f_jm_abs_067f4 (σ.2 18 1))), (3, .long (σ.2 18 2)), (5, .int 0)] rfl ?_
  exact Jc16 N (f_jm_abs_067f4 (σ.2 18 1)) (σ.2 18 2) 0 hF
def f_bo_lowestTop_18 (N : Nat) (σ : Sg) : Option Int32 := (f_bo_divisor_18 N σ).bind fun q1 => if ¬ q1 = 0 then some (((σ.2 18 1) / q1).toInt32) else none
def rm_bo_lowestTop_18 : Room := { frames := 2, cells := 0, slots := 0, locals := 48 }
set_option maxHeartbeats 4000000 in
set_option maxRecDepth 100000 in
theorem c_bo_lowestTop_18 (N : Nat) (σ : Sg) (z : Int32) (hF : f_bo_lowestTop_18 N σ = some z) : Ctr yX0_lowestTop cX0_lowestTop 1 (some .int) rm_bo_lowestTop_18 [.ref 18] σ (some (.int z)) σ := by
  refine ct_start 0 (by decide) rfl (fun ad => Nat.le_of_ble_eq_true rfl) [(0, .ref 18)] (fun ad => rfl) ?_
  intro p l e s m args below meth c D ad tc A hC hA hr
  unfold f_bo_lowestTop_18 at hF
  refine aw_run (pc' := 5) hC [(.aload_n 0, 1, 0, 0, .null), (.getfield 13, 3, 0, 1, .null), (.aload_n 0, 1, 0, 0, .null)] (by decide +kernel) [(0, .ref 18)] [.ref 18, .long (σ.2 18 1)] σ rfl rfl ⟨trivial, trivial, trivial, trivial⟩ rfl ?_
  obtain ⟨q1, eq1, hF⟩ := bd hF
  refine aw_callV hC hA (rest := [.long (σ.2 18 1)]) (c_bo_divisor_18 N σ q1 eq1) mt_X0_divisor ln_0_24 (by decide +kernel) ⟨_, rfl⟩ rfl rfl (Nat.le_of_ble_eq_true rfl) ⟨⟨rfl, rfl⟩, Nat.le_of_ble_eq_true rfl, Nat.le_of_ble_eq_true rfl⟩ ⟨Nat.zero_le _, Nat.zero_le _⟩ rfl ?_
  obtain ⟨g2, hF⟩ := gd hF
  refine aw_run (pc' := 10) hC [(.ldiv, 1, 0, 0, .null), (.l2i, 1, 0, 0, .null)] (by decide +kernel) [(0, .ref 18)] [.int ((σ.2 18 1) / q1).toInt32] σ rfl rfl ⟨g2, trivial, trivial⟩ rfl ?_
  exact aw_iret hC hr (by decide +kernel) (Option.some.inj hF) rfl
def f_bo_lowestBottom_18 (N : Nat) (σ : Sg) : Option Int32 := (f_bo_divisor_18 N σ).bind fun q1 => if ¬ q1 = 0 then some (((σ.2 18 2) / q1).toInt32) else none
def rm_bo_lowestBottom_18 : Room := { frames := 2, cells := 0, slots := 0, locals := 48 }
set_option maxHeartbeats 4000000 in
set_option maxRecDepth 100000 in
theorem c_bo_lowestBottom_18 (N : Nat) (σ : Sg) (z : Int32) (hF : f_bo_lowestBottom_18 N σ = some z) : Ctr yX0_lowestBottom cX0_lowestBottom 1 (some .int) rm_bo_lowestBottom_18 [.ref 18] σ (some (.int z)) σ := by
  refine ct_start 0 (by decide) rfl (fun ad => Nat.le_of_ble_eq_true rfl) [(0, .ref 18)] (fun ad => rfl) ?_
  intro p l e s m args below meth c D ad tc A hC hA hr
  unfold f_bo_lowestBottom_18 at hF
  refine aw_run (pc' := 5) hC [(.aload_n 0, 1, 0, 0, .null), (.getfield 17, 3, 0, 2, .null), (.aload_n 0, 1, 0, 0, .null)] (by decide +kernel) [(0, .ref 18)] [.ref 18, .long (σ.2 18 2)] σ rfl rfl ⟨trivial, trivial, trivial, trivial⟩ rfl ?_
  obtain ⟨q1, eq1, hF⟩ := bd hF
  refine aw_callV hC hA (rest := [.long (σ.2 18 2)]) (c_bo_divisor_18 N σ q1 eq1) mt_X0_divisor ln_0_24 (by decide +kernel) ⟨_, rfl⟩ rfl rfl (Nat.le_of_ble_eq_true rfl) ⟨⟨rfl, rfl⟩, Nat.le_of_ble_eq_true rfl, Nat.le_of_ble_eq_true rfl⟩ ⟨Nat.zero_le _, Nat.zero_le _⟩ rfl ?_
  obtain ⟨g2, hF⟩ := gd hF
  refine aw_run (pc' := 10) hC [(.ldiv, 1, 0, 0, .null), (.l2i, 1, 0, 0, .null)] (by decide +kernel) [(0, .ref 18)] [.int ((σ.2 18 2) / q1).toInt32] σ rfl rfl ⟨g2, trivial, trivial⟩ rfl ?_
  exact aw_iret hC hr (by decide +kernel) (Option.some.inj hF) rfl
def f_sp_tell_c25 (N : Nat) (a1 : Int32) (a2 : Int32) (σ : Sg) : Option Int32 := if (σ.1 19 0) = 0 then (if a2 = 1 then ((f_bo_lowestBottom_19 N σ).bind fun q3 => some q3) else (if a1 = 0 then ((f_bo_lowestTop_19 N σ).bind fun q2 => some q2) else ((f_bo_lowestTop_19 N σ).bind fun q1 => some (-q1)))) else (some (-100000001))
def f_sp_tell_c25_1 (N : Nat) (a1 : Int32) (a2 : Int32) (σ : Sg) : Option Int32 := if (σ.1 18 0) = 0 then (if a2 = 1 then ((f_bo_lowestBottom_18 N σ).bind fun q6 => some q6) else (if a1 = 0 then ((f_bo_lowestTop_18 N σ).bind fun q5 => some q5) else ((f_bo_lowestTop_18 N σ).bind fun q4 => some (-q4)))) else (some (-100000001))
def f_sp_tell (N : Nat) (σ : Sg) (a1 : Int32) (a2 : Int32) : Option Int32 := if (σ.1 17 2) = 0 then (if a1 = 0 then (f_sp_tell_c25_1 N a1 a2 σ) else (f_sp_tell_c25 N a1 a2 σ)) else (some (-100000006))
def rm_sp_tell : Room := { frames := 3, cells := 0, slots := 0, locals := 68 }
set_option maxHeartbeats 4000000 in
set_option maxRecDepth 100000 in
theorem c_sp_tell (N : Nat) (σ : Sg) (a1 : Int32) (a2 : Int32) (z : Int32) (hF : f_sp_tell N σ a1 a2 = some z) : Ctr yX4_tell cX4_tell 4 (some .int) rm_sp_tell [.ref 17, .int a1, .int a2] σ (some (.int z)) σ := by
  refine ct_start 4 (by decide) rfl (fun ad => Nat.le_of_ble_eq_true rfl) [(0, .ref 17), (1, .int a1), (2, .int a2)] (fun ad => rfl) ?_
  intro p l e s m args below meth c D ad tc A hC hA hr
  have Jc25 : ∀ (a1 : Int32) (a2 : Int32), f_sp_tell_c25 N a1 a2 σ = some z → AW p l e rm_sp_tell s m args below meth c D ad tc 4 A s.heap 0 0 (MQ below (Qr (some (.int z)) D ad tc σ A) args s 0 0 A) 25 [(1, .int a1), (2, .int a2)] [.ref 19] σ := by
    intro a1 a2 hF
    unfold f_sp_tell_c25 at hF
    refine aw_run (pc' := 30) hC [(.astore_n 3, 1, 0, 0, .null), (.aload_n 3, 1, 0, 0, .null), (.getfield 25, 3, 0, 0, .null)] (by decide +kernel) [(1, .int a1), (2, .int a2), (3, .ref 19)] [.int (σ.1 19 0)] σ rfl rfl ⟨trivial, trivial, trivial, trivial⟩ rfl ?_
    refine aw_if_eq (off := 6) hC 36 Iff.rfl (by decide +kernel) (by decide) (fun h => ?_) (fun h => ?_)
    · have hF := (if_pos h).symm.trans hF
      refine aw_run (pc' := 38) hC [(.iload_n 2, 1, 0, 0, .null), (.iconst 1, 1, 0, 0, .int 1)] (by decide +kernel) [(1, .int a1), (2, .int a2), (3, .ref 19)] [.int 1, .int a2] σ rfl rfl ⟨trivial, trivial, trivial⟩ rfl ?_
      refine aw_icmp_ne (off := 8) hC 46 (by decide +kernel) (by decide) (fun h => ?_) (fun h => ?_)
      · have hF := (if_neg h).symm.trans hF
        refine aw_run (pc' := 47) hC [(.iload_n 1, 1, 0, 0, .null)] (by decide +kernel) [(1, .int a1), (2, .int a2), (3, .ref 19)] [.int a1] σ rfl rfl ⟨trivial, trivial⟩ rfl ?_
        refine aw_if_ne (off := 10) hC 57 Iff.rfl (by decide +kernel) (by decide) (fun h => ?_) (fun h => ?_)
        · have hF := (if_neg h).symm.trans hF
          refine aw_run (pc' := 58) hC [(.aload_n 3, 1, 0, 0, .null)] (by decide +kernel) [(1, .int a1), (2, .int a2), (3, .ref 19)] [.ref 19] σ rfl rfl ⟨trivial, trivial⟩ rfl ?_
          obtain ⟨q1, eq1, hF⟩ := bd hF
          refine aw_callV hC hA (rest := []) (c_bo_lowestTop_19 N σ q1 eq1) mt_X0_lowestTop ln_4_53 (by decide +kernel) ⟨_, rfl⟩ rfl rfl (Nat.le_of_ble_eq_true rfl) ⟨⟨rfl, rfl⟩, Nat.le_of_ble_eq_true rfl, Nat.le_of_ble_eq_true rfl⟩ ⟨Nat.zero_le _, Nat.zero_le _⟩ rfl ?_
          refine aw_run (pc' := 62) hC [(.ineg, 1, 0, 0, .null)] (by decide +kernel) [(1, .int a1), (2, .int a2), (3, .ref 19)] [.int (-q1)] σ rfl rfl ⟨trivial, trivial⟩ rfl ?_
          exact aw_iret hC hr (by decide +kernel) (Option.some.inj hF) rfl
        · have hF := (if_pos h).symm.trans hF
          refine aw_run (pc' := 51) hC [(.aload_n 3, 1, 0, 0, .null)] (by decide +kernel) [(1, .int a1), (2, .int a2), (3, .ref 19)] [.ref 19] σ rfl rfl ⟨trivial, trivial⟩ rfl ?_
          obtain ⟨q2, eq2, hF⟩ := bd hF
          refine aw_callV hC hA (rest := []) (c_bo_lowestTop_19 N σ q2 eq2) mt_X0_lowestTop ln_4_53 (by decide +kernel) ⟨_, rfl⟩ rfl rfl (Nat.le_of_ble_eq_true rfl) ⟨⟨rfl, rfl⟩, Nat.le_of_ble_eq_true rfl, Nat.le_of_ble_eq_true rfl⟩ ⟨Nat.zero_le _, Nat.zero_le _⟩ rfl ?_
          refine aw_goto (off := 8) hC 62 (by decide +kernel) (by decide) ?_
          exact aw_iret hC hr (by decide +kernel) (Option.some.inj hF) rfl
      · have hF := (if_pos h).symm.trans hF
        refine aw_run (pc' := 42) hC [(.aload_n 3, 1, 0, 0, .null)] (by decide +kernel) [(1, .int a1), (2, .int a2), (3, .ref 19)] [.ref 19] σ rfl rfl ⟨trivial, trivial⟩ rfl ?_
        obtain ⟨q3, eq3, hF⟩ := bd hF
        refine aw_callV hC hA (rest := []) (c_bo_lowestBottom_19 N σ q3 eq3) mt_X0_lowestBottom ln_4_49 (by decide +kernel) ⟨_, rfl⟩ rfl rfl (Nat.le_of_ble_eq_true rfl) ⟨⟨rfl, rfl⟩, Nat.le_of_ble_eq_true rfl, Nat.le_of_ble_eq_true rfl⟩ ⟨Nat.zero_le _, Nat.zero_le _⟩ rfl ?_
        exact aw_iret hC hr (by decide +kernel) (Option.some.inj hF) rfl
    · have hF := (if_neg h).symm.trans hF
      refine aw_run (pc' := 35) hC [(.ldc 48, 2, 0, 0, .int (-100000001))] (by decide +kernel) [(1, .int a1), (2, .int a2), (3, .ref 19)] [.int (-100000001)] σ rfl rfl ⟨trivial, trivial⟩ rfl ?_
      exact aw_iret hC hr (by decide +kernel) (Option.some.inj hF) rfl
  have Jc25_1 : ∀ (a1 : Int32) (a2 : Int32), f_sp_tell_c25_1 N a1 a2 σ = some z → AW p l e rm_sp_tell s m args below meth c D ad tc 4 A s.heap 0 0 (MQ below (Qr (some (.int z)) D ad tc σ A) args s 0 0 A) 25 [(1, .int a1), (2, .int a2)] [.ref 18] σ := by
    intro a1 a2 hF
    unfold f_sp_tell_c25_1 at hF
    refine aw_run (pc' := 30) hC [(.astore_n 3, 1, 0, 0, .null), (.aload_n 3, 1, 0, 0, .null), (.getfield 25, 3, 0, 0, .null)] (by decide +kernel) [(1, .int a1), (2, .int a2), (3, .ref 18)] [.int (σ.1 18 0)] σ rfl rfl ⟨trivial, trivial, trivial, trivial⟩ rfl ?_
    refine aw_if_eq (off := 6) hC 36 Iff.rfl (by decide +kernel) (by decide) (fun h => ?_) (fun h => ?_)
    · have hF := (if_pos h).symm.trans hF
      refine aw_run (pc' := 38) hC [(.iload_n 2, 1, 0, 0, .null), (.iconst 1, 1, 0, 0, .int 1)] (by decide +kernel) [(1, .int a1), (2, .int a2), (3, .ref 18)] [.int 1, .int a2] σ rfl rfl ⟨trivial, trivial, trivial⟩ rfl ?_
      refine aw_icmp_ne (off := 8) hC 46 (by decide +kernel) (by decide) (fun h => ?_) (fun h => ?_)
      · have hF := (if_neg h).symm.trans hF
        refine aw_run (pc' := 47) hC [(.iload_n 1, 1, 0, 0, .null)] (by decide +kernel) [(1, .int a1), (2, .int a2), (3, .ref 18)] [.int a1] σ rfl rfl ⟨trivial, trivial⟩ rfl ?_
        refine aw_if_ne (off := 10) hC 57 Iff.rfl (by decide +kernel) (by decide) (fun h => ?_) (fun h => ?_)
        · have hF := (if_neg h).symm.trans hF
          refine aw_run (pc' := 58) hC [(.aload_n 3, 1, 0, 0, .null)] (by decide +kernel) [(1, .int a1), (2, .int a2), (3, .ref 18)] [.ref 18] σ rfl rfl ⟨trivial, trivial⟩ rfl ?_
          obtain ⟨q4, eq4, hF⟩ := bd hF
          refine aw_callV hC hA (rest := []) (c_bo_lowestTop_18 N σ q4 eq4) mt_X0_lowestTop ln_4_53 (by decide +kernel) ⟨_, rfl⟩ rfl rfl (Nat.le_of_ble_eq_true rfl) ⟨⟨rfl, rfl⟩, Nat.le_of_ble_eq_true rfl, Nat.le_of_ble_eq_true rfl⟩ ⟨Nat.zero_le _, Nat.zero_le _⟩ rfl ?_
          refine aw_run (pc' := 62) hC [(.ineg, 1, 0, 0, .null)] (by decide +kernel) [(1, .int a1), (2, .int a2), (3, .ref 18)] [.int (-q4)] σ rfl rfl ⟨trivial, trivial⟩ rfl ?_
          exact aw_iret hC hr (by decide +kernel) (Option.some.inj hF) rfl
        · have hF := (if_pos h).symm.trans hF
          refine aw_run (pc' := 51) hC [(.aload_n 3, 1, 0, 0, .null)] (by decide +kernel) [(1, .int a1), (2, .int a2), (3, .ref 18)] [.ref 18] σ rfl rfl ⟨trivial, trivial⟩ rfl ?_
          obtain ⟨q5, eq5, hF⟩ := bd hF
          refine aw_callV hC hA (rest := []) (c_bo_lowestTop_18 N σ q5 eq5) mt_X0_lowestTop ln_4_53 (by decide +kernel) ⟨_, rfl⟩ rfl rfl (Nat.le_of_ble_eq_true rfl) ⟨⟨rfl, rfl⟩, Nat.le_of_ble_eq_true rfl, Nat.le_of_ble_eq_true rfl⟩ ⟨Nat.zero_le _, Nat.zero_le _⟩ rfl ?_
          refine aw_goto (off := 8) hC 62 (by decide +kernel) (by decide) ?_
          exact aw_iret hC hr (by decide +kernel) (Option.some.inj hF) rfl
      · have hF := (if_pos h).symm.trans hF
        refine aw_run (pc' := 42) hC [(.aload_n 3, 1, 0, 0, .null)] (by decide +kernel) [(1, .int a1), (2, .int a2), (3, .ref 18)] [.ref 18] σ rfl rfl ⟨trivial, trivial⟩ rfl ?_
        obtain ⟨q6, eq6, hF⟩ := bd hF
        refine aw_callV hC hA (rest := []) (c_bo_lowestBottom_18 N σ q6 eq6) mt_X0_lowestBottom ln_4_49 (by decide +kernel) ⟨_, rfl⟩ rfl rfl (Nat.le_of_ble_eq_true rfl) ⟨⟨rfl, rfl⟩, Nat.le_of_ble_eq_true rfl, Nat.le_of_ble_eq_true rfl⟩ ⟨Nat.zero_le _, Nat.zero_le _⟩ rfl ?_
        exact aw_iret hC hr (by decide +kernel) (Option.some.inj hF) rfl
    · have hF := (if_neg h).symm.trans hF
      refine aw_run (pc' := 35) hC [(.ldc 48, 2, 0, 0, .int (-100000001))] (by decide +kernel) [(1, .int a1), (2, .int a2), (3, .ref 18)] [.int (-100000001)] σ rfl rfl ⟨trivial, trivial⟩ rfl ?_
      exact aw_iret hC hr (by decide +kernel) (Option.some.inj hF) rfl
  unfold f_sp_tell at hF
  refine aw_run (pc' := 4) hC [(.aload_n 0, 1, 0, 0, .null), (.getfield 29, 3, 4, 2, .null)] (by decide +kernel) [(0, .ref 17), (1, .int a1), (2, .int a2)] [.int (σ.1 17 2)] σ rfl rfl ⟨trivial, trivial, trivial⟩ rfl ?_
  refine aw_if_eq (off := 6) hC 10 Iff.rfl (by decide +kernel) (by decide) (fun h => ?_) (fun h => ?_)
  · have hF := (if_pos h).symm.trans hF
    refine aw_run (pc' := 11) hC [(.iload_n 1, 1, 0, 0, .null)] (by decide +kernel) [(0, .ref 17), (1, .int a1), (2, .int a2)] [.int a1] σ rfl rfl ⟨trivial, trivial⟩ rfl ?_
    refine aw_if_ne (off := 10) hC 21 Iff.rfl (by decide +kernel) (by decide) (fun h => ?_) (fun h => ?_)
    · have hF := (if_neg h).symm.trans hF
      refine aw_run (pc' := 25) hC [(.aload_n 0, 1, 0, 0, .null), (.getfield 18, 3, 4, 1, .null)] (by decide +kernel) [(0, .ref 17), (1, .int a1), (2, .int a2)] [.ref 19] σ rfl rfl ⟨trivial, trivial, trivial⟩ rfl ?_
      refine aw_pick [1, 2] [(1, .int a1), (2, .int a2)] rfl ?_
      exact Jc25 a1 a2 hF
    · have hF := (if_pos h).symm.trans hF
      refine aw_run (pc' := 18) hC [(.aload_n 0, 1, 0, 0, .null), (.getfield 12, 3, 4, 0, .null)] (by decide +kernel) [(0, .ref 17), (1, .int a1), (2, .int a2)] [.ref 18] σ rfl rfl ⟨trivial, trivial, trivial⟩ rfl ?_
      refine aw_goto (off := 7) hC 25 (by decide +kernel) (by decide) ?_
      refine aw_pick [1, 2] [(1, .int a1), (2, .int a2)] rfl ?_
      exact Jc25_1 a1 a2 hF
  · have hF := (if_neg h).symm.trans hF
    refine aw_run (pc' := 9) hC [(.ldc 47, 2, 0, 0, .int (-100000006))] (by decide +kernel) [(0, .ref 17), (1, .int a1), (2, .int a2)] [.int (-100000006)] σ rfl rfl ⟨trivial, trivial⟩ rfl ?_
    exact aw_iret hC hr (by decide +kernel) (Option.some.inj hF) rfl
def f_ss_holds (N : Nat) (σ : Sg) (a1 : Int32) (a2 : Int32) (a3 : Int32) : Option (Int32 × Sg) := if (f_ss_isHeight a1) = 0 then (some (-100000003, σ)) else (if (f_ss_isBit a2) = 0 then (some (-100000003, σ)) else (if (f_ss_isBit a3) = 0 then (some (-100000003, σ)) else (if (f_ss_allFit σ) = 0 then (some (-100000004, σ)) else ((f_sp_measureHeld N σ a1).bind fun q1 => (f_sp_tell N q1 a2 a3).bind fun q2 => some (q2, q1)))))
def rm_ss_holds : Room := { frames := 4, cells := 0, slots := 0, locals := 97 }
set_option maxHeartbeats 4000000 in
set_option maxRecDepth 100000 in
theorem c_ss_holds (N : Nat) (σ : Sg) (a1 : Int32) (a2 : Int32) (a3 : Int32) (z : Int32 × Sg) (hF : f_ss_holds N σ a1 a2 a3 = some z) : Ctr yX6_holds cX6_holds 4 (some .int) rm_ss_holds [.ref 0, .int a1, .int a2, .int a3] σ (some (.int z.1)) z.2 := by
  refine ct_start 6 (by decide) rfl (fun ad => Nat.le_of_ble_eq_true rfl) [(0, .ref 0), (1, .int a1), (2, .int a2), (3, .int a3)] (fun ad => rfl) ?_
  intro p l e s m args below meth c D ad tc A hC hA hr
  unfold f_ss_holds at hF
  refine aw_run (pc' := 1) hC [(.iload_n 1, 1, 0, 0, .null)] (by decide +kernel) [(0, .ref 0), (1, .int a1), (2, .int a2), (3, .int a3)] [.int a1] σ rfl rfl ⟨trivial, trivial⟩ rfl ?_
  refine aw_callS hC hA (rest := []) (c_ss_isHeight σ a1 _ rfl) mt_X6_isHeight ln_6_129 (by decide +kernel) rfl rfl (Nat.le_of_ble_eq_true rfl) ⟨⟨rfl, rfl⟩, Nat.le_of_ble_eq_true rfl, Nat.le_of_ble_eq_true rfl⟩ ⟨Nat.zero_le _, Nat.zero_le _⟩ rfl ?_
  refine aw_if_eq (off := 17) hC 21 Iff.rfl (by decide +kernel) (by decide) (fun h => ?_) (fun h => ?_)
  · have hF := (if_pos h).symm.trans hF
    refine aw_run (pc' := 23) hC [(.ldc 48, 2, 0, 0, .int (-100000003))] (by decide +kernel) [(0, .ref 0), (1, .int a1), (2, .int a2), (3, .int a3)] [.int (-100000003)] σ rfl rfl ⟨trivial, trivial⟩ rfl ?_
    exact aw_iret hC hr (by decide +kernel) (pS1 hF) (pS2 hF)
  · have hF := (if_neg h).symm.trans hF
    refine aw_run (pc' := 8) hC [(.iload_n 2, 1, 0, 0, .null)] (by decide +kernel) [(0, .ref 0), (1, .int a1), (2, .int a2), (3, .int a3)] [.int a2] σ rfl rfl ⟨trivial, trivial⟩ rfl ?_
    refine aw_callS hC hA (rest := []) (c_ss_isBit σ a2 _ rfl) mt_X6_isBit ln_6_148 (by decide +kernel) rfl rfl (Nat.le_of_ble_eq_true rfl) ⟨⟨rfl, rfl⟩, Nat.le_of_ble_eq_true rfl, Nat.le_of_ble_eq_true rfl⟩ ⟨Nat.zero_le _, Nat.zero_le _⟩ rfl ?_
    refine aw_if_eq (off := 10) hC 21 Iff.rfl (by decide +kernel) (by decide) (fun h => ?_) (fun h => ?_)
    · have hF := (if_pos h).symm.trans hF
      refine aw_run (pc' := 23) hC [(.ldc 48, 2, 0, 0, .int (-100000003))] (by decide +kernel) [(0, .ref 0), (1, .int a1), (2, .int a2), (3, .int a3)] [.int (-100000003)] σ rfl rfl ⟨trivial, trivial⟩ rfl ?_
      exact aw_iret hC hr (by decide +kernel) (pS1 hF) (pS2 hF)
    · have hF := (if_neg h).symm.trans hF
      refine aw_run (pc' := 15) hC [(.iload_n 3, 1, 0, 0, .null)] (by decide +kernel) [(0, .ref 0), (1, .int a1), (2, .int a2), (3, .int a3)] [.int a3] σ rfl rfl ⟨trivial, trivial⟩ rfl ?_
      refine aw_callS hC hA (rest := []) (c_ss_isBit σ a3 _ rfl) mt_X6_isBit ln_6_148 (by decide +kernel) rfl rfl (Nat.le_of_ble_eq_true rfl) ⟨⟨rfl, rfl⟩, Nat.le_of_ble_eq_true rfl, Nat.le_of_ble_eq_true rfl⟩ ⟨Nat.zero_le _, Nat.zero_le _⟩ rfl ?_
      refine aw_if_ne (off := 6) hC 24 Iff.rfl (by decide +kernel) (by decide) (fun h => ?_) (fun h => ?_)
      · have hF := (if_neg h).symm.trans hF
        refine aw_run (pc' := 25) hC [(.aload_n 0, 1, 0, 0, .null)] (by decide +kernel) [(0, .ref 0), (1, .int a1), (2, .int a2), (3, .int a3)] [.ref 0] σ rfl rfl ⟨trivial, trivial⟩ rfl ?_
        refine aw_callV hC hA (rest := []) (c_ss_allFit σ _ rfl) mt_X6_allFit ln_6_132 (by decide +kernel) ⟨_, rfl⟩ rfl rfl (Nat.le_of_ble_eq_true rfl) ⟨⟨rfl, rfl⟩, Nat.le_of_ble_eq_true rfl, Nat.le_of_ble_eq_true rfl⟩ ⟨Nat.zero_le _, Nat.zero_le _⟩ rfl ?_
        refine aw_if_ne (off := 6) hC 34 Iff.rfl (by decide +kernel) (by decide) (fun h => ?_) (fun h => ?_)
        · have hF := (if_neg h).symm.trans hF
          refine aw_run (pc' := 43) hC [(.aload_n 0, 1, 0, 0, .null), (.getfield 44, 3, 6, 5, .null), (.aload_n 0, 1, 0, 0, .null), (.getfield 23, 3, 6, 2, .null), (.iload_n 1, 1, 0, 0, .null)] (by decide +kernel) [(0, .ref 0), (1, .int a1), (2, .int a2), (3, .int a3)] [.int a1, .ref 4, .ref 17] σ rfl rfl ⟨trivial, trivial, trivial, trivial, trivial, trivial⟩ rfl ?_
          obtain ⟨q1, eq1, hF⟩ := bd hF
          refine aw_callV hC hA (rest := []) (c_sp_measureHeld N σ a1 q1 eq1) mt_X4_measureHeld ln_6_157 (by decide +kernel) ⟨_, rfl⟩ rfl rfl (Nat.le_of_ble_eq_true rfl) ⟨⟨rfl, rfl⟩, Nat.le_of_ble_eq_true rfl, Nat.le_of_ble_eq_true rfl⟩ ⟨Nat.zero_le _, Nat.zero_le _⟩ rfl ?_
          refine aw_run (pc' := 52) hC [(.aload_n 0, 1, 0, 0, .null), (.getfield 44, 3, 6, 5, .null), (.iload_n 2, 1, 0, 0, .null), (.iload_n 3, 1, 0, 0, .null)] (by decide +kernel) [(0, .ref 0), (1, .int a1), (2, .int a2), (3, .int a3)] [.int a3, .int a2, .ref 17] q1 rfl rfl ⟨trivial, trivial, trivial, trivial, trivial⟩ rfl ?_
          obtain ⟨q2, eq2, hF⟩ := bd hF
          refine aw_callV hC hA (rest := []) (c_sp_tell N q1 a2 a3 q2 eq2) mt_X4_tell ln_6_161 (by decide +kernel) ⟨_, rfl⟩ rfl rfl (Nat.le_of_ble_eq_true rfl) ⟨⟨rfl, rfl⟩, Nat.le_of_ble_eq_true rfl, Nat.le_of_ble_eq_true rfl⟩ ⟨Nat.zero_le _, Nat.zero_le _⟩ rfl ?_
          exact aw_iret hC hr (by decide +kernel) (pS1 hF) (pS2 hF)
        · have hF := (if_pos h).symm.trans hF
          refine aw_run (pc' := 33) hC [(.ldc 72, 2, 0, 0, .int (-100000004))] (by decide +kernel) [(0, .ref 0), (1, .int a1), (2, .int a2), (3, .int a3)] [.int (-100000004)] σ rfl rfl ⟨trivial, trivial⟩ rfl ?_
          exact aw_iret hC hr (by decide +kernel) (pS1 hF) (pS2 hF)
      · have hF := (if_pos h).symm.trans hF
        refine aw_run (pc' := 23) hC [(.ldc 48, 2, 0, 0, .int (-100000003))] (by decide +kernel) [(0, .ref 0), (1, .int a1), (2, .int a2), (3, .int a3)] [.int (-100000003)] σ rfl rfl ⟨trivial, trivial⟩ rfl ?_
        exact aw_iret hC hr (by decide +kernel) (pS1 hF) (pS2 hF)
def f_ro_missCount_c4_s (N : Nat) (kc4 : Int32 → Int32 → Sg → Option Int32) (a1 : Int32) (a2 : Int32) (σ : Sg) : Option Int32 := if (σ.1 4 5) ≤ a2 then (some a1) else (if ib a2 8 then if (σ.1 6 a2.toNatClampNeg) = 0 then (kc4 a1 (a2 + 1) σ) else (kc4 (a1 + 1) (a2 + 1) σ) else none)
def f_ro_missCount_c4 (N : Nat) : Nat → Int32 → Int32 → Sg → Option Int32
  | 0 => fun _ _ _ => none
  | n + 1 => f_ro_missCount_c4_s N (f_ro_missCount_c4 N n)
def f_ro_missCount (N : Nat) (σ : Sg) : Option Int32 := f_ro_missCount_c4 N N 0 0 σ
def rm_ro_missCount : Room := { frames := 0, cells := 0, slots := 0, locals := 0 }
set_option maxHeartbeats 4000000 in
set_option maxRecDepth 100000 in
theorem c_ro_missCount (N : Nat) (σ : Sg) (z : Int32) (hF : f_ro_missCount N σ = some z) : Ctr yX3_missCount cX3_missCount 3 (some .int) rm_ro_missCount [.ref 4] σ (some (.int z)) σ := by
  refine ct_start 3 (by decide) rfl (fun ad => Nat.le_of_ble_eq_true rfl) [(0, .ref 4)] (fun ad => rfl) ?_
  intro p l e s m args below meth c D ad tc A hC hA hr
  have Jc4 : ∀ (n : Nat) (a1 : Int32) (a2 : Int32), f_ro_missCount_c4 N n a1 a2 σ = some z → AW p l e rm_ro_missCount s m args below meth c D ad tc 3 A s.heap 0 0 (MQ below (Qr (some (.int z)) D ad tc σ A) args s 0 0 A) 4 [(0, .ref 4), (1, .int a1), (2, .int a2)] [] σ := by
    intro n
    induction n with
    | zero =>
      intro a1 a2 hF
      cases hF
    | succ n ih =>
      intro a1 a2 hF
      have hF : f_ro_missCount_c4_s N (f_ro_missCount_c4 N n) a1 a2 σ = some z := hF
      unfold f_ro_missCount_c4_s at hF
      refine aw_run (pc' := 9) hC [(.iload_n 2, 1, 0, 0, .null), (.aload_n 0, 1, 0, 0, .null), (.getfield 32, 3, 3, 5, .null)] (by decide +kernel) [(0, .ref 4), (1, .int a1), (2, .int a2)] [.int (σ.1 4 5), .int a2] σ rfl rfl ⟨trivial, trivial, trivial, trivial⟩ rfl ?_
      refine aw_icmp_ge (off := 21) hC 30 (by decide +kernel) (by decide) (fun h => ?_) (fun h => ?_)
      · have hF := (if_pos h).symm.trans hF
        refine aw_run (pc' := 31) hC [(.iload_n 1, 1, 0, 0, .null)] (by decide +kernel) [(0, .ref 4), (1, .int a1), (2, .int a2)] [.int a1] σ rfl rfl ⟨trivial, trivial⟩ rfl ?_
        exact aw_iret hC hr (by decide +kernel) (Option.some.inj hF) rfl
      · have hF := (if_neg h).symm.trans hF
        obtain ⟨g1, hF⟩ := gd hF
        refine aw_run (pc' := 18) hC [(.aload_n 0, 1, 0, 0, .null), (.getfield 15, 3, 3, 1, .null), (.iload_n 2, 1, 0, 0, .null), (.baload, 1, 0, 0, .null)] (by decide +kernel) [(0, .ref 4), (1, .int a1), (2, .int a2)] [.int (σ.1 6 a2.toNatClampNeg)] σ rfl rfl ⟨trivial, trivial, trivial, g1, trivial⟩ rfl ?_
        refine aw_if_eq (off := 6) hC 24 Iff.rfl (by decide +kernel) (by decide) (fun h => ?_) (fun h => ?_)
        · have hF := (if_pos h).symm.trans hF
          refine aw_run (pc' := 27) hC [(.iinc 2 1, 3, 0, 0, .int 1)] (by decide +kernel) [(0, .ref 4), (1, .int a1), (2, .int (a2 + 1))] [] σ rfl rfl ⟨trivial, trivial⟩ rfl ?_
          refine aw_goto (off := -23) hC 4 (by decide +kernel) (by decide) ?_
          exact ih a1 (a2 + 1) hF
        · have hF := (if_neg h).symm.trans hF
          refine aw_run (pc' := 27) hC [(.iinc 1 1, 3, 0, 0, .int 1), (.iinc 2 1, 3, 0, 0, .int 1)] (by decide +kernel) [(0, .ref 4), (1, .int (a1 + 1)), (2, .int (a2 + 1))] [] σ rfl rfl ⟨trivial, trivial, trivial⟩ rfl ?_
          refine aw_goto (off := -23) hC 4 (by decide +kernel) (by decide) ?_
          exact ih (a1 + 1) (a2 + 1) hF
  unfold f_ro_missCount at hF
  refine aw_run (pc' := 4) hC [(.iconst 0, 1, 0, 0, .int 0), (.istore_n 1, 1, 0, 0, .null), (.iconst 0, 1, 0, 0, .int 0), (.istore_n 2, 1, 0, 0, .null)] (by decide +kernel) [(0, .ref 4), (1, .int 0), (2, .int 0)] [] σ rfl rfl ⟨trivial, trivial, trivial, trivial, trivial⟩ rfl ?_
  exact Jc4 N 0 0 hF
