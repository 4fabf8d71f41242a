def f_mo_layReach_c86_s (N : Nat) (kc28 : Int32 → Int32 → Int32 → Int32 → Int32 → Sg → Option Sg) (kc86 : Int32 → Int32 → Int32 → Int32 → Int32 → Int32 → Sg → Option Sg) (a1 : Int32) (a2 : Int32) (a3 : Int32) (a4 : Int32) (a5 : Int32) (a6 : Int32) (σ : Sg) : Option Sg := if (σ.1 20 2) ≤ a6 then (kc28 a1 a2 a3 a4 (a5 + 1) σ) else (if ib a6 8 then if (σ.1 23 a6.toNatClampNeg) = 0 then (if ib a5 8 then if (f_mo_isBetween (σ.1 22 a5.toNatClampNeg) a1 (σ.1 22 a6.toNatClampNeg)) = 0 then (kc86 a1 a2 a3 a4 a5 (a6 + 1) σ) else ((f_mo_bound σ a5 a3).bind fun q5 => (f_mo_bound σ a6 a4).bind fun q6 => if a2 = 0 then (nm (f_mo_look σ ((q5.toInt64 * ((σ.1 22 a6.toNatClampNeg) - a1).toInt64) - (q6.toInt64 * ((σ.1 22 a5.toNatClampNeg) - a1).toInt64)) (((σ.1 22 a6.toNatClampNeg) - a1).toInt64 - ((σ.1 22 a5.toNatClampNeg) - a1).toInt64) 1) fun q8 => kc86 a1 a2 a3 a4 a5 (a6 + 1) q8) else (nm (f_mo_look σ ((q5.toInt64 * ((σ.1 22 a6.toNatClampNeg) - a1).toInt64) - (q6.toInt64 * ((σ.1 22 a5.toNatClampNeg) - a1).toInt64)) (((σ.1 22 a6.toNatClampNeg) - a1).toInt64 - ((σ.1 22 a5.toNatClampNeg) - a1).toInt64) 0) fun q7 => kc86 a1 a2 a3 a4 a5 (a6 + 1) q7)) else none) else (kc86 a1 a2 a3 a4 a5 (a6 + 1) σ) else none)
def f_mo_layReach_c86 (N : Nat) (kc28 : Int32 → Int32 → Int32 → Int32 → Int32 → Sg → Option Sg) : Nat → Int32 → Int32 → Int32 → Int32 → Int32 → Int32 → Sg → Option Sg
  | 0 => fun _ _ _ _ _ _ _ => none
  | n + 1 => f_mo_layReach_c86_s N kc28 (f_mo_layReach_c86 N kc28 n)
def f_mo_layReach_c28_s (N : Nat) (kc28 : Int32 → Int32 → Int32 → Int32 → Int32 → Sg → Option Sg) (a1 : Int32) (a2 : Int32) (a3 : Int32) (a4 : Int32) (a5 : Int32) (σ : Sg) : Option Sg := if (σ.1 20 2) ≤ a5 then (some σ) else (if ib a5 8 then if (σ.1 23 a5.toNatClampNeg) = 0 then (if (σ.1 22 a5.toNatClampNeg) = a1 then ((f_mo_bound σ a5 a3).bind fun q9 => if a2 = 0 then (nm (f_mo_look σ q9.toInt64 1 1) fun q11 => f_mo_layReach_c86 N kc28 N a1 a2 a3 a4 a5 0 q11) else (nm (f_mo_look σ q9.toInt64 1 0) fun q10 => f_mo_layReach_c86 N kc28 N a1 a2 a3 a4 a5 0 q10)) else (f_mo_layReach_c86 N kc28 N a1 a2 a3 a4 a5 0 σ)) else (kc28 a1 a2 a3 a4 (a5 + 1) σ) else none)
def f_mo_layReach_c28 (N : Nat) : Nat → Int32 → Int32 → Int32 → Int32 → Int32 → Sg → Option Sg
  | 0 => fun _ _ _ _ _ _ => none
  | n + 1 => f_mo_layReach_c28_s N (f_mo_layReach_c28 N n)
def f_mo_layReach_c13 (N : Nat) (a1 : Int32) (a2 : Int32) (t0 : Int32) (σ : Sg) : Option Sg := if a2 = 0 then (f_mo_layReach_c28 N N a1 a2 t0 1 0 σ) else (f_mo_layReach_c28 N N a1 a2 t0 2 0 σ)
def f_mo_layReach (N : Nat) (σ : Sg) (a1 : Int32) (a2 : Int32) : Option Sg := nm (f_mo_begins σ) fun q1 => if a2 = 0 then (f_mo_layReach_c13 N a1 a2 0 q1) else (f_mo_layReach_c13 N a1 a2 3 q1)
def rm_mo_layReach : Room := { frames := 1, cells := 0, slots := 0, locals := 31 }
set_option maxHeartbeats 4000000 in
set_option maxRecDepth 100000 in
theorem c_mo_layReach (N : Nat) (σ : Sg) (a1 : Int32) (a2 : Int32) (z : Sg) (hF : f_mo_layReach N σ a1 a2 = some z) : Ctr yX7_layReach cX7_layReach 11 none rm_mo_layReach [.ref 20, .int a1, .int a2] σ none z := by
  refine ct_start 7 (by decide) rfl (fun ad => Nat.le_of_ble_eq_true rfl) [(0, .ref 20), (1, .int a1), (2, .int a2)] (fun ad => rfl) ?_
  intro p l e s m args below meth c D ad tc A hC hA hr
  have Jc86 : ∀ (kc28 : Int32 → Int32 → Int32 → Int32 → Int32 → Sg → Option Sg) (Hc28 : ∀ (a1 : Int32) (a2 : Int32) (a3 : Int32) (a4 : Int32) (a5 : Int32) (σ : Sg), kc28 a1 a2 a3 a4 a5 σ = some z → AW p l e rm_mo_layReach s m args below meth c D ad tc 11 A s.heap 0 0 (MQ below (Qr none D ad tc z A) args s 0 0 A) 28 [(0, .ref 20), (1, .int a1), (2, .int a2), (3, .int a3), (4, .int a4), (5, .int a5)] [] σ) (n : Nat) (a1 : Int32) (a2 : Int32) (a3 : Int32) (a4 : Int32) (a5 : Int32) (a6 : Int32) (σ : Sg), f_mo_layReach_c86 N kc28 n a1 a2 a3 a4 a5 a6 σ = some z → AW p l e rm_mo_layReach s m args below meth c D ad tc 11 A s.heap 0 0 (MQ below (Qr none D ad tc z A) args s 0 0 A) 86 [(0, .ref 20), (1, .int a1), (2, .int a2), (3, .int a3), (4, .int a4), (5, .int a5), (6, .int a6)] [] σ := by
    intro kc28 Hc28 n
    induction n with
    | zero =>
      intro a1 a2 a3 a4 a5 a6 σ hF
      cases hF
    | succ n ih =>
      intro a1 a2 a3 a4 a5 a6 σ hF
      have hF : f_mo_layReach_c86_s N kc28 (f_mo_layReach_c86 N kc28 n) a1 a2 a3 a4 a5 a6 σ = some z := hF
      unfold f_mo_layReach_c86_s at hF
      refine aw_run (pc' := 92) hC [(.iload 6, 2, 0, 0, .null), (.aload_n 0, 1, 0, 0, .null), (.getfield 98, 3, 7, 2, .null)] (by decide +kernel) [(0, .ref 20), (1, .int a1), (2, .int a2), (3, .int a3), (4, .int a4), (5, .int a5), (6, .int a6)] [.int (σ.1 20 2), .int a6] σ rfl rfl ⟨trivial, trivial, trivial, trivial⟩ rfl ?_
      refine aw_icmp_ge (off := 106) hC 198 (by decide +kernel) (by decide) (fun h => ?_) (fun h => ?_)
      · have hF := (if_pos h).symm.trans hF
        refine aw_run (pc' := 201) hC [(.iinc 5 1, 3, 0, 0, .int 1)] (by decide +kernel) [(0, .ref 20), (1, .int a1), (2, .int a2), (3, .int a3), (4, .int a4), (5, .int (a5 + 1)), (6, .int a6)] [] σ rfl rfl ⟨trivial, trivial⟩ rfl ?_
        refine aw_goto (off := -173) hC 28 (by decide +kernel) (by decide) ?_
        refine aw_pick [0, 1, 2, 3, 4, 5] [(0, .ref 20), (1, .int a1), (2, .int a2), (3, .int a3), (4, .int a4), (5, .int (a5 + 1))] rfl ?_
        exact Hc28 a1 a2 a3 a4 (a5 + 1) σ hF
      · have hF := (if_neg h).symm.trans hF
        obtain ⟨g3, hF⟩ := gd hF
        refine aw_run (pc' := 102) hC [(.aload_n 0, 1, 0, 0, .null), (.getfield 16, 3, 7, 4, .null), (.iload 6, 2, 0, 0, .null), (.baload, 1, 0, 0, .null)] (by decide +kernel) [(0, .ref 20), (1, .int a1), (2, .int a2), (3, .int a3), (4, .int a4), (5, .int a5), (6, .int a6)] [.int (σ.1 23 a6.toNatClampNeg)] σ rfl rfl ⟨trivial, trivial, trivial, g3, trivial⟩ rfl ?_
        refine aw_if_ne (off := 90) hC 192 Iff.rfl (by decide +kernel) (by decide) (fun h => ?_) (fun h => ?_)
        · have hF := (if_neg h).symm.trans hF
          refine aw_run (pc' := 195) hC [(.iinc 6 1, 3, 0, 0, .int 1)] (by decide +kernel) [(0, .ref 20), (1, .int a1), (2, .int a2), (3, .int a3), (4, .int a4), (5, .int a5), (6, .int (a6 + 1))] [] σ rfl rfl ⟨trivial, trivial⟩ rfl ?_
          refine aw_goto (off := -109) hC 86 (by decide +kernel) (by decide) ?_
          exact ih a1 a2 a3 a4 a5 (a6 + 1) σ hF
        · have hF := (if_pos h).symm.trans hF
          obtain ⟨g4, hF⟩ := gd hF
          refine aw_run (pc' := 120) hC [(.aload_n 0, 1, 0, 0, .null), (.getfield 13, 3, 7, 3, .null), (.iload 5, 2, 0, 0, .null), (.iaload, 1, 0, 0, .null), (.iload_n 1, 1, 0, 0, .null), (.aload_n 0, 1, 0, 0, .null), (.getfield 13, 3, 7, 3, .null), (.iload 6, 2, 0, 0, .null), (.iaload, 1, 0, 0, .null)] (by decide +kernel) [(0, .ref 20), (1, .int a1), (2, .int a2), (3, .int a3), (4, .int a4), (5, .int a5), (6, .int a6)] [.int (σ.1 22 a6.toNatClampNeg), .int a1, .int (σ.1 22 a5.toNatClampNeg)] σ rfl rfl ⟨trivial, trivial, trivial, g4, trivial, trivial, trivial, trivial, g3, trivial⟩ rfl ?_
          refine aw_callS hC hA (rest := []) (c_mo_isBetween σ (σ.1 22 a5.toNatClampNeg) a1 (σ.1 22 a6.toNatClampNeg) _ rfl) mt_X7_isBetween ln_7_138 (by decide +kernel) rfl rfl (Nat.le_of_ble_eq_true rfl) ⟨⟨rfl, rfl⟩, Nat.le_of_ble_eq_true rfl, Nat.le_of_ble_eq_true rfl⟩ ⟨Nat.zero_le _, Nat.zero_le _⟩ rfl ?_
          refine aw_if_eq (off := 69) hC 192 Iff.rfl (by decide +kernel) (by decide) (fun h => ?_) (fun h => ?_)
          · have hF := (if_pos h).symm.trans hF
            refine aw_run (pc' := 195) hC [(.iinc 6 1, 3, 0, 0, .int 1)] (by decide +kernel) [(0, .ref 20), (1, .int a1), (2, .int a2), (3, .int a3), (4, .int a4), (5, .int a5), (6, .int (a6 + 1))] [] σ rfl rfl ⟨trivial, trivial⟩ rfl ?_
            refine aw_goto (off := -109) hC 86 (by decide +kernel) (by decide) ?_
            exact ih a1 a2 a3 a4 a5 (a6 + 1) σ hF
          · have hF := (if_neg h).symm.trans hF
            refine aw_run (pc' := 155) hC [(.aload_n 0, 1, 0, 0, .null), (.getfield 13, 3, 7, 3, .null), (.iload 6, 2, 0, 0, .null), (.iaload, 1, 0, 0, .null), (.iload_n 1, 1, 0, 0, .null), (.isub, 1, 0, 0, .null), (.i2l, 1, 0, 0, .null), (.lstore 7, 2, 0, 0, .null), (.aload_n 0, 1, 0, 0, .null), (.getfield 13, 3, 7, 3, .null), (.iload 5, 2, 0, 0, .null), (.iaload, 1, 0, 0, .null), (.iload_n 1, 1, 0, 0, .null), (.isub, 1, 0, 0, .null), (.i2l, 1, 0, 0, .null), (.lstore 9, 2, 0, 0, .null), (.aload_n 0, 1, 0, 0, .null), (.aload_n 0, 1, 0, 0, .null), (.iload 5, 2, 0, 0, .null), (.iload_n 3, 1, 0, 0, .null)] (by decide +kernel) [(0, .ref 20), (1, .int a1), (2, .int a2), (3, .int a3), (4, .int a4), (5, .int a5), (6, .int a6), (7, .long ((σ.1 22 a6.toNatClampNeg) - a1).toInt64), (9, .long ((σ.1 22 a5.toNatClampNeg) - a1).toInt64)] [.int a3, .int a5, .ref 20, .ref 20] σ rfl rfl ⟨trivial, trivial, trivial, g3, trivial, trivial, trivial, trivial, trivial, trivial, trivial, g4, trivial, trivial, trivial, trivial, trivial, trivial, trivial, trivial, trivial⟩ rfl ?_
            obtain ⟨q5, eq5, hF⟩ := bd hF
            refine aw_callV hC hA (rest := [.ref 20]) (c_mo_bound σ a5 a3 q5 eq5) mt_X7_bound ln_7_118 (by decide +kernel) ⟨_, rfl⟩ rfl rfl (Nat.le_of_ble_eq_true rfl) ⟨⟨rfl, rfl⟩, Nat.le_of_ble_eq_true rfl, Nat.le_of_ble_eq_true rfl⟩ ⟨Nat.zero_le _, Nat.zero_le _⟩ rfl ?_
            refine aw_run (pc' := 167) hC [(.i2l, 1, 0, 0, .null), (.lload 7, 2, 0, 0, .null), (.lmul, 1, 0, 0, .null), (.aload_n 0, 1, 0, 0, .null), (.iload 6, 2, 0, 0, .null), (.iload 4, 2, 0, 0, .null)] (by decide +kernel) [(0, .ref 20), (1, .int a1), (2, .int a2), (3, .int a3), (4, .int a4), (5, .int a5), (6, .int a6), (7, .long ((σ.1 22 a6.toNatClampNeg) - a1).toInt64), (9, .long ((σ.1 22 a5.toNatClampNeg) - a1).toInt64)] [.int a4, .int a6, .ref 20, .long (q5.toInt64 * ((σ.1 22 a6.toNatClampNeg) - a1).toInt64), .ref 20] σ rfl rfl ⟨trivial, trivial, trivial, trivial, trivial, trivial, trivial⟩ rfl ?_
            obtain ⟨q6, eq6, hF⟩ := bd hF
            refine aw_callV hC hA (rest := [.long (q5.toInt64 * ((σ.1 22 a6.toNatClampNeg) - a1).toInt64), .ref 20]) (c_mo_bound σ a6 a4 q6 eq6) mt_X7_bound ln_7_118 (by decide +kernel) ⟨_, rfl⟩ rfl rfl (Nat.le_of_ble_eq_true rfl) ⟨⟨rfl, rfl⟩, Nat.le_of_ble_eq_true rfl, Nat.le_of_ble_eq_true rfl⟩ ⟨Nat.zero_le _, Nat.zero_le _⟩ rfl ?_
            refine aw_run (pc' := 181) hC [(.i2l, 1, 0, 0, .null), (.lload 9, 2, 0, 0, .null), (.lmul, 1, 0, 0, .null), (.lsub, 1, 0, 0, .null), (.lload 7, 2, 0, 0, .null), (.lload 9, 2, 0, 0, .null), (.lsub, 1, 0, 0, .null), (.iload_n 2, 1, 0, 0, .null)] (by decide +kernel) [(0, .ref 20), (1, .int a1), (2, .int a2), (3, .int a3), (4, .int a4), (5, .int a5), (6, .int a6), (7, .long ((σ.1 22 a6.toNatClampNeg) - a1).toInt64), (9, .long ((σ.1 22 a5.toNatClampNeg) - a1).toInt64)] [.int a2, .long (((σ.1 22 a6.toNatClampNeg) - a1).toInt64 - ((σ.1 22 a5.toNatClampNeg) - a1).toInt64), .long ((q5.toInt64 * ((σ.1 22 a6.toNatClampNeg) - a1).toInt64) - (q6.toInt64 * ((σ.1 22 a5.toNatClampNeg) - a1).toInt64)), .ref 20] σ rfl rfl ⟨trivial, trivial, trivial, trivial, trivial, trivial, trivial, trivial, trivial⟩ rfl ?_
            refine aw_if_ne (off := 7) hC 188 Iff.rfl (by decide +kernel) (by decide) (fun h => ?_) (fun h => ?_)
            · have hF := (if_neg h).symm.trans hF
              refine aw_run (pc' := 189) hC [(.iconst 0, 1, 0, 0, .int 0)] (by decide +kernel) [(0, .ref 20), (1, .int a1), (2, .int a2), (3, .int a3), (4, .int a4), (5, .int a5), (6, .int a6), (7, .long ((σ.1 22 a6.toNatClampNeg) - a1).toInt64), (9, .long ((σ.1 22 a5.toNatClampNeg) - a1).toInt64)] [.int 0, .long (((σ.1 22 a6.toNatClampNeg) - a1).toInt64 - ((σ.1 22 a5.toNatClampNeg) - a1).toInt64), .long ((q5.toInt64 * ((σ.1 22 a6.toNatClampNeg) - a1).toInt64) - (q6.toInt64 * ((σ.1 22 a5.toNatClampNeg) - a1).toInt64)), .ref 20] σ rfl rfl ⟨trivial, trivial⟩ rfl ?_
              obtain ⟨q7, eq7, hF⟩ := nmd hF
              refine aw_callV hC hA (rest := []) (c_mo_look σ ((q5.toInt64 * ((σ.1 22 a6.toNatClampNeg) - a1).toInt64) - (q6.toInt64 * ((σ.1 22 a5.toNatClampNeg) - a1).toInt64)) (((σ.1 22 a6.toNatClampNeg) - a1).toInt64 - ((σ.1 22 a5.toNatClampNeg) - a1).toInt64) 0 q7 eq7) mt_X7_look ln_7_222 (by decide +kernel) ⟨_, rfl⟩ rfl rfl (Nat.le_of_ble_eq_true rfl) ⟨⟨rfl, rfl⟩, Nat.le_of_ble_eq_true rfl, Nat.le_of_ble_eq_true rfl⟩ ⟨Nat.zero_le _, Nat.zero_le _⟩ rfl ?_
              refine aw_run (pc' := 195) hC [(.iinc 6 1, 3, 0, 0, .int 1)] (by decide +kernel) [(0, .ref 20), (1, .int a1), (2, .int a2), (3, .int a3), (4, .int a4), (5, .int a5), (6, .int (a6 + 1)), (7, .long ((σ.1 22 a6.toNatClampNeg) - a1).toInt64), (9, .long ((σ.1 22 a5.toNatClampNeg) - a1).toInt64)] [] q7 rfl rfl ⟨trivial, trivial⟩ rfl ?_
              refine aw_goto (off := -109) hC 86 (by decide +kernel) (by decide) ?_
              refine aw_pick [0, 1, 2, 3, 4, 5, 6] [(0, .ref 20), (1, .int a1), (2, .int a2), (3, .int a3), (4, .int a4), (5, .int a5), (6, .int (a6 + 1))] rfl ?_
              exact ih a1 a2 a3 a4 a5 (a6 + 1) q7 hF
            · have hF := (if_pos h).symm.trans hF
              refine aw_run (pc' := 185) hC [(.iconst 1, 1, 0, 0, .int 1)] (by decide +kernel) [(0, .ref 20), (1, .int a1), (2, .int a2), (3, .int a3), (4, .int a4), (5, .int a5), (6, .int a6), (7, .long ((σ.1 22 a6.toNatClampNeg) - a1).toInt64), (9, .long ((σ.1 22 a5.toNatClampNeg) - a1).toInt64)] [.int 1, .long (((σ.1 22 a6.toNatClampNeg) - a1).toInt64 - ((σ.1 22 a5.toNatClampNeg) - a1).toInt64), .long ((q5.toInt64 * ((σ.1 22 a6.toNatClampNeg) - a1).toInt64) - (q6.toInt64 * ((σ.1 22 a5.toNatClampNeg) - a1).toInt64)), .ref 20] σ rfl rfl ⟨trivial, trivial⟩ rfl ?_
              refine aw_goto (off := 4) hC 189 (by decide +kernel) (by decide) ?_
              obtain ⟨q8, eq8, hF⟩ := nmd hF
              refine aw_callV hC hA (rest := []) (c_mo_look σ ((q5.toInt64 * ((σ.1 22 a6.toNatClampNeg) - a1).toInt64) - (q6.toInt64 * ((σ.1 22 a5.toNatClampNeg) - a1).toInt64)) (((σ.1 22 a6.toNatClampNeg) - a1).toInt64 - ((σ.1 22 a5.toNatClampNeg) - a1).toInt64) 1 q8 eq8) mt_X7_look ln_7_222 (by decide +kernel) ⟨_, rfl⟩ rfl rfl (Nat.le_of_ble_eq_true rfl) ⟨⟨rfl, rfl⟩, Nat.le_of_ble_eq_true rfl, Nat.le_of_ble_eq_true rfl⟩ ⟨Nat.zero_le _, Nat.zero_le _⟩ rfl ?_
              refine aw_run (pc' := 195) hC [(.iinc 6 1, 3, 0, 0, .int 1)] (by decide +kernel) [(0, .ref 20), (1, .int a1), (2, .int a2), (3, .int a3), (4, .int a4), (5, .int a5), (6, .int (a6 + 1)), (7, .long ((σ.1 22 a6.toNatClampNeg) - a1).toInt64), (9, .long ((σ.1 22 a5.toNatClampNeg) - a1).toInt64)] [] q8 rfl rfl ⟨trivial, trivial⟩ rfl ?_
              refine aw_goto (off := -109) hC 86 (by decide +kernel) (by decide) ?_
              refine aw_pick [0, 1, 2, 3, 4, 5, 6] [(0, .ref 20), (1, .int a1), (2, .int a2), (3, .int a3), (4, .int a4), (5, .int a5), (6, .int (a6 + 1))] rfl ?_
              exact ih a1 a2 a3 a4 a5 (a6 + 1) q8 hF
  have Jc28 : ∀ (n : Nat) (a1 : Int32) (a2 : Int32) (a3 : Int32) (a4 : Int32) (a5 : Int32) (σ : Sg), f_mo_layReach_c28 N n a1 a2 a3 a4 a5 σ = some z → AW p l e rm_mo_layReach s m args below meth c D ad tc 11 A s.heap 0 0 (MQ below (Qr none D ad tc z A) args s 0 0 A) 28 [(0, .ref 20), (1, .int a1), (2, .int a2), (3, .int a3), (4, .int a4), (5, .int a5)] [] σ := by
    intro n
    induction n with
    | zero =>
      intro a1 a2 a3 a4 a5 σ hF
      cases hF
    | succ n ih =>
      intro a1 a2 a3 a4 a5 σ hF
      have hF : f_mo_layReach_c28_s N (f_mo_layReach_c28 N n) a1 a2 a3 a4 a5 σ = some z := hF
      unfold f_mo_layReach_c28_s at hF
      refine aw_run (pc' := 34) hC [(.iload 5, 2, 0, 0, .null), (.aload_n 0, 1, 0, 0, .null), (.getfield 98, 3, 7, 2, .null)] (by decide +kernel) [(0, .ref 20), (1, .int a1), (2, .int a2), (3, .int a3), (4, .int a4), (5, .int a5)] [.int (σ.1 20 2), .int a5] σ rfl rfl ⟨trivial, trivial, trivial, trivial⟩ rfl ?_
      refine aw_icmp_ge (off := 170) hC 204 (by decide +kernel) (by decide) (fun h => ?_) (fun h => ?_)
      · have hF := (if_pos h).symm.trans hF
        exact aw_vret hC hr (by decide +kernel)  (Option.some.inj hF)
      · have hF := (if_neg h).symm.trans hF
        obtain ⟨g2, hF⟩ := gd hF
        refine aw_run (pc' := 44) hC [(.aload_n 0, 1, 0, 0, .null), (.getfield 16, 3, 7, 4, .null), (.iload 5, 2, 0, 0, .null), (.baload, 1, 0, 0, .null)] (by decide +kernel) [(0, .ref 20), (1, .int a1), (2, .int a2), (3, .int a3), (4, .int a4), (5, .int a5)] [.int (σ.1 23 a5.toNatClampNeg)] σ rfl rfl ⟨trivial, trivial, trivial, g2, trivial⟩ rfl ?_
        refine aw_if_eq (off := 6) hC 50 Iff.rfl (by decide +kernel) (by decide) (fun h => ?_) (fun h => ?_)
        · have hF := (if_pos h).symm.trans hF
          refine aw_run (pc' := 58) hC [(.aload_n 0, 1, 0, 0, .null), (.getfield 13, 3, 7, 3, .null), (.iload 5, 2, 0, 0, .null), (.iaload, 1, 0, 0, .null), (.iload_n 1, 1, 0, 0, .null)] (by decide +kernel) [(0, .ref 20), (1, .int a1), (2, .int a2), (3, .int a3), (4, .int a4), (5, .int a5)] [.int a1, .int (σ.1 22 a5.toNatClampNeg)] σ rfl rfl ⟨trivial, trivial, trivial, g2, trivial, trivial⟩ rfl ?_
          refine aw_icmp_ne (off := 25) hC 83 (by decide +kernel) (by decide) (fun h => ?_) (fun h => ?_)
          · have hF := (if_neg h).symm.trans hF
            refine aw_run (pc' := 86) hC [(.iconst 0, 1, 0, 0, .int 0), (.istore 6, 2, 0, 0, .null)] (by decide +kernel) [(0, .ref 20), (1, .int a1), (2, .int a2), (3, .int a3), (4, .int a4), (5, .int a5), (6, .int 0)] [] σ rfl rfl ⟨trivial, trivial, trivial⟩ rfl ?_
            exact Jc86 (f_mo_layReach_c28 N n) ih N a1 a2 a3 a4 a5 0 σ hF
          · have hF := (if_pos h).symm.trans hF
            refine aw_run (pc' := 66) hC [(.aload_n 0, 1, 0, 0, .null), (.aload_n 0, 1, 0, 0, .null), (.iload 5, 2, 0, 0, .null), (.iload_n 3, 1, 0, 0, .null)] (by decide +kernel) [(0, .ref 20), (1, .int a1), (2, .int a2), (3, .int a3), (4, .int a4), (5, .int a5)] [.int a3, .int a5, .ref 20, .ref 20] σ rfl rfl ⟨trivial, trivial, trivial, trivial, trivial⟩ rfl ?_
            obtain ⟨q9, eq9, hF⟩ := bd hF
            refine aw_callV hC hA (rest := [.ref 20]) (c_mo_bound σ a5 a3 q9 eq9) mt_X7_bound ln_7_118 (by decide +kernel) ⟨_, rfl⟩ rfl rfl (Nat.le_of_ble_eq_true rfl) ⟨⟨rfl, rfl⟩, Nat.le_of_ble_eq_true rfl, Nat.le_of_ble_eq_true rfl⟩ ⟨Nat.zero_le _, Nat.zero_le _⟩ rfl ?_
            refine aw_run (pc' := 72) hC [(.i2l, 1, 0, 0, .null), (.lconst 1, 1, 0, 0, .long 1), (.iload_n 2, 1, 0, 0, .null)] (by decide +kernel) [(0, .ref 20), (1, .int a1), (2, .int a2), (3, .int a3), (4, .int a4), (5, .int a5)] [.int a2, .long 1, .long q9.toInt64, .ref 20] σ rfl rfl ⟨trivial, trivial, trivial, trivial⟩ rfl ?_
            refine aw_if_ne (off := 7) hC 79 Iff.rfl (by decide +kernel) (by decide) (fun h => ?_) (fun h => ?_)
            · have hF := (if_neg h).symm.trans hF
              refine aw_run (pc' := 80) hC [(.iconst 0, 1, 0, 0, .int 0)] (by decide +kernel) [(0, .ref 20), (1, .int a1), (2, .int a2), (3, .int a3), (4, .int a4), (5, .int a5)] [.int 0, .long 1, .long q9.toInt64, .ref 20] σ rfl rfl ⟨trivial, trivial⟩ rfl ?_
              obtain ⟨q10, eq10, hF⟩ := nmd hF
              refine aw_callV hC hA (rest := []) (c_mo_look σ q9.toInt64 1 0 q10 eq10) mt_X7_look ln_7_222 (by decide +kernel) ⟨_, rfl⟩ rfl rfl (Nat.le_of_ble_eq_true rfl) ⟨⟨rfl, rfl⟩, Nat.le_of_ble_eq_true rfl, Nat.le_of_ble_eq_true rfl⟩ ⟨Nat.zero_le _, Nat.zero_le _⟩ rfl ?_
              refine aw_run (pc' := 86) hC [(.iconst 0, 1, 0, 0, .int 0), (.istore 6, 2, 0, 0, .null)] (by decide +kernel) [(0, .ref 20), (1, .int a1), (2, .int a2), (3, .int a3), (4, .int a4), (5, .int a5), (6, .int 0)] [] q10 rfl rfl ⟨trivial, trivial, trivial⟩ rfl ?_
              exact Jc86 (f_mo_layReach_c28 N n) ih N a1 a2 a3 a4 a5 0 q10 hF
            · have hF := (if_pos h).symm.trans hF
              refine aw_run (pc' := 76) hC [(.iconst 1, 1, 0, 0, .int 1)] (by decide +kernel) [(0, .ref 20), (1, .int a1), (2, .int a2), (3, .int a3), (4, .int a4), (5, .int a5)] [.int 1, .long 1, .long q9.toInt64, .ref 20] σ rfl rfl ⟨trivial, trivial⟩ rfl ?_
              refine aw_goto (off := 4) hC 80 (by decide +kernel) (by decide) ?_
              obtain ⟨q11, eq11, hF⟩ := nmd hF
              refine aw_callV hC hA (rest := []) (c_mo_look σ q9.toInt64 1 1 q11 eq11) mt_X7_look ln_7_222 (by decide +kernel) ⟨_, rfl⟩ rfl rfl (Nat.le_of_ble_eq_true rfl) ⟨⟨rfl, rfl⟩, Nat.le_of_ble_eq_true rfl, Nat.le_of_ble_eq_true rfl⟩ ⟨Nat.zero_le _, Nat.zero_le _⟩ rfl ?_
              refine aw_run (pc' := 86) hC [(.iconst 0, 1, 0, 0, .int 0), (.istore 6, 2, 0, 0, .null)] (by decide +kernel) [(0, .ref 20), (1, .int a1), (2, .int a2), (3, .int a3), (4, .int a4), (5, .int a5), (6, .int 0)] [] q11 rfl rfl ⟨trivial, trivial, trivial⟩ rfl ?_
              exact Jc86 (f_mo_layReach_c28 N n) ih N a1 a2 a3 a4 a5 0 q11 hF
        · have hF := (if_neg h).symm.trans hF
          refine aw_goto (off := 151) hC 198 (by decide +kernel) (by decide) ?_
          refine aw_run (pc' := 201) hC [(.iinc 5 1, 3, 0, 0, .int 1)] (by decide +kernel) [(0, .ref 20), (1, .int a1), (2, .int a2), (3, .int a3), (4, .int a4), (5, .int (a5 + 1))] [] σ rfl rfl ⟨trivial, trivial⟩ rfl ?_
          refine aw_goto (off := -173) hC 28 (by decide +kernel) (by decide) ?_
          exact ih a1 a2 a3 a4 (a5 + 1) σ hF
  have Jc13 : ∀ (a1 : Int32) (a2 : Int32) (t0 : Int32) (σ : Sg), f_mo_layReach_c13 N a1 a2 t0 σ = some z → AW p l e rm_mo_layReach s m args below meth c D ad tc 11 A s.heap 0 0 (MQ below (Qr none D ad tc z A) args s 0 0 A) 13 [(0, .ref 20), (1, .int a1), (2, .int a2)] [.int t0] σ := by
    intro a1 a2 t0 σ hF
    unfold f_mo_layReach_c13 at hF
    refine aw_run (pc' := 15) hC [(.istore_n 3, 1, 0, 0, .null), (.iload_n 2, 1, 0, 0, .null)] (by decide +kernel) [(0, .ref 20), (1, .int a1), (2, .int a2), (3, .int t0)] [.int a2] σ rfl rfl ⟨trivial, trivial, trivial⟩ rfl ?_
    refine aw_if_ne (off := 7) hC 22 Iff.rfl (by decide +kernel) (by decide) (fun h => ?_) (fun h => ?_)
    · have hF := (if_neg h).symm.trans hF
      refine aw_run (pc' := 28) hC [(.iconst 2, 1, 0, 0, .int 2), (.istore 4, 2, 0, 0, .null), (.iconst 0, 1, 0, 0, .int 0), (.istore 5, 2, 0, 0, .null)] (by decide +kernel) [(0, .ref 20), (1, .int a1), (2, .int a2), (3, .int t0), (4, .int 2), (5, .int 0)] [] σ rfl rfl ⟨trivial, trivial, trivial, trivial, trivial⟩ rfl ?_
      exact Jc28 N a1 a2 t0 2 0 σ hF
    · have hF := (if_pos h).symm.trans hF
      refine aw_run (pc' := 19) hC [(.iconst 1, 1, 0, 0, .int 1)] (by decide +kernel) [(0, .ref 20), (1, .int a1), (2, .int a2), (3, .int t0)] [.int 1] σ rfl rfl ⟨trivial, trivial⟩ rfl ?_
      refine aw_goto (off := 4) hC 23 (by decide +kernel) (by decide) ?_
      refine aw_run (pc' := 28) hC [(.istore 4, 2, 0, 0, .null), (.iconst 0, 1, 0, 0, .int 0), (.istore 5, 2, 0, 0, .null)] (by decide +kernel) [(0, .ref 20), (1, .int a1), (2, .int a2), (3, .int t0), (4, .int 1), (5, .int 0)] [] σ rfl rfl ⟨trivial, trivial, trivial, trivial⟩ rfl ?_
      exact Jc28 N a1 a2 t0 1 0 σ hF
  unfold f_mo_layReach at hF
  refine aw_run (pc' := 1) hC [(.aload_n 0, 1, 0, 0, .null)] (by decide +kernel) [(0, .ref 20), (1, .int a1), (2, .int a2)] [.ref 20] σ rfl rfl ⟨trivial, trivial⟩ rfl ?_
  obtain ⟨q1, eq1, hF⟩ := nmd hF
  refine aw_callV hC hA (rest := []) (c_mo_begins σ q1 eq1) mt_X7_begins ln_7_219 (by decide +kernel) ⟨_, rfl⟩ rfl rfl (Nat.le_of_ble_eq_true rfl) ⟨⟨rfl, rfl⟩, Nat.le_of_ble_eq_true rfl, Nat.le_of_ble_eq_true rfl⟩ ⟨Nat.zero_le _, Nat.zero_le _⟩ rfl ?_
  refine aw_run (pc' := 5) hC [(.iload_n 2, 1, 0, 0, .null)] (by decide +kernel) [(0, .ref 20), (1, .int a1), (2, .int a2)] [.int a2] q1 rfl rfl ⟨trivial, trivial⟩ rfl ?_
  refine aw_if_ne (off := 7) hC 12 Iff.rfl (by decide +kernel) (by decide) (fun h => ?_) (fun h => ?_)
  · have hF := (if_neg h).symm.trans hF
    refine aw_run (pc' := 13) hC [(.iconst 3, 1, 0, 0, .int 3)] (by decide +kernel) [(0, .ref 20), (1, .int a1), (2, .int a2)] [.int 3] q1 rfl rfl ⟨trivial, trivial⟩ rfl ?_
    exact Jc13 a1 a2 3 q1 hF
  · have hF := (if_pos h).symm.trans hF
    refine aw_run (pc' := 9) hC [(.iconst 0, 1, 0, 0, .int 0)] (by decide +kernel) [(0, .ref 20), (1, .int a1), (2, .int a2)] [.int 0] q1 rfl rfl ⟨trivial, trivial⟩ rfl ?_
    refine aw_goto (off := 4) hC 13 (by decide +kernel) (by decide) ?_
    exact Jc13 a1 a2 0 q1 hF
def f_mo_leaves (N : Nat) (σ : Sg) (a1 : Int32) : Option (Int32 × Sg) := (f_mo_layReach N σ a1 0).bind fun q1 => (f_mo_layReach N q1 a1 1).bind fun q2 => if (q1.1 20 21) = 0 then (some (1, q2)) else (if (q2.1 20 21) = 0 then (some (1, q2)) else (if ((q2.2 20 22) * (q1.2 20 23)) < ((q1.2 20 22) * (q2.2 20 23)) then (some (0, q2)) else (some (1, q2))))
def rm_mo_leaves : Room := { frames := 2, cells := 0, slots := 0, locals := 61 }
set_option maxHeartbeats 4000000 in
set_option maxRecDepth 100000 in
theorem c_mo_leaves (N : Nat) (σ : Sg) (a1 : Int32) (z : Int32 × Sg) (hF : f_mo_leaves N σ a1 = some z) : Ctr yX7_leaves cX7_leaves 7 (some .boolean) rm_mo_leaves [.ref 20, .int a1] σ (some (.int z.1)) z.2 := by
  refine ct_start 7 (by decide) rfl (fun ad => Nat.le_of_ble_eq_true rfl) [(0, .ref 20), (1, .int a1)] (fun ad => rfl) ?_
  intro p l e s m args below meth c D ad tc A hC hA hr
  unfold f_mo_leaves at hF
  refine aw_run (pc' := 3) hC [(.aload_n 0, 1, 0, 0, .null), (.iload_n 1, 1, 0, 0, .null), (.iconst 0, 1, 0, 0, .int 0)] (by decide +kernel) [(0, .ref 20), (1, .int a1)] [.int 0, .int a1, .ref 20] σ rfl rfl ⟨trivial, trivial, trivial, trivial⟩ rfl ?_
  obtain ⟨q1, eq1, hF⟩ := bd hF
  refine aw_callV hC hA (rest := []) (c_mo_layReach N σ a1 0 q1 eq1) mt_X7_layReach ln_7_241 (by decide +kernel) ⟨_, rfl⟩ rfl rfl (Nat.le_of_ble_eq_true rfl) ⟨⟨rfl, rfl⟩, Nat.le_of_ble_eq_true rfl, Nat.le_of_ble_eq_true rfl⟩ ⟨Nat.zero_le _, Nat.zero_le _⟩ rfl ?_
  refine aw_run (pc' := 25) hC [(.aload_n 0, 1, 0, 0, .null), (.getfield 205, 3, 7, 21, .null), (.istore_n 2, 1, 0, 0, .null), (.aload_n 0, 1, 0, 0, .null), (.getfield 208, 3, 7, 22, .null), (.lstore_n 3, 1, 0, 0, .null), (.aload_n 0, 1, 0, 0, .null), (.getfield 212, 3, 7, 23, .null), (.lstore 5, 2, 0, 0, .null), (.aload_n 0, 1, 0, 0, .null), (.iload_n 1, 1, 0, 0, .null), (.iconst 1, 1, 0, 0, .int 1)] (by decide +kernel) [(0, .ref 20), (1, .int a1), (2, .int (q1.1 20 21)), (3, .long (q1.2 20 22)), (5, .long (q1.2 20 23))] [.int 1, .int a1, .ref 20] q1 rfl rfl ⟨trivial, trivial, trivial, trivial, trivial, trivial, trivial, trivial, trivial, trivial, trivial, trivial, trivial⟩ rfl ?_
  obtain ⟨q2, eq2, hF⟩ := bd hF
  refine aw_callV hC hA (rest := []) (c_mo_layReach N q1 a1 1 q2 eq2) mt_X7_layReach ln_7_241 (by decide +kernel) ⟨_, rfl⟩ rfl rfl (Nat.le_of_ble_eq_true rfl) ⟨⟨rfl, rfl⟩, Nat.le_of_ble_eq_true rfl, Nat.le_of_ble_eq_true rfl⟩ ⟨Nat.zero_le _, Nat.zero_le _⟩ rfl ?_
  refine aw_run (pc' := 29) hC [(.iload_n 2, 1, 0, 0, .null)] (by decide +kernel) [(0, .ref 20), (1, .int a1), (2, .int (q1.1 20 21)), (3, .long (q1.2 20 22)), (5, .long (q1.2 20 23))] [.int (q1.1 20 21)] q2 rfl rfl ⟨trivial, trivial⟩ rfl ?_
  refine aw_if_eq (off := 27) hC 56 Iff.rfl (by decide +kernel) (by decide) (fun h => ?_) (fun h => ?_)
  · have hF := (if_pos h).symm.trans hF
    refine aw_run (pc' := 57) hC [(.iconst 1, 1, 0, 0, .int 1)] (by decide +kernel) [(0, .ref 20), (1, .int a1), (2, .int (q1.1 20 21)), (3, .long (q1.2 20 22)), (5, .long (q1.2 20 23))] [.int 1] q2 rfl rfl ⟨trivial, trivial⟩ rfl ?_
    refine aw_goto (off := 4) hC 61 (by decide +kernel) (by decide) ?_
    exact aw_zret hC hr (Or.inr rfl) (by decide +kernel) (pS1 hF) (pS2 hF)
  · have hF := (if_neg h).symm.trans hF
    refine aw_run (pc' := 36) hC [(.aload_n 0, 1, 0, 0, .null), (.getfield 205, 3, 7, 21, .null)] (by decide +kernel) [(0, .ref 20), (1, .int a1), (2, .int (q1.1 20 21)), (3, .long (q1.2 20 22)), (5, .long (q1.2 20 23))] [.int (q2.1 20 21)] q2 rfl rfl ⟨trivial, trivial, trivial⟩ rfl ?_
    refine aw_if_eq (off := 20) hC 56 Iff.rfl (by decide +kernel) (by decide) (fun h => ?_) (fun h => ?_)
    · have hF := (if_pos h).symm.trans hF
      refine aw_run (pc' := 57) hC [(.iconst 1, 1, 0, 0, .int 1)] (by decide +kernel) [(0, .ref 20), (1, .int a1), (2, .int (q1.1 20 21)), (3, .long (q1.2 20 22)), (5, .long (q1.2 20 23))] [.int 1] q2 rfl rfl ⟨trivial, trivial⟩ rfl ?_
      refine aw_goto (off := 4) hC 61 (by decide +kernel) (by decide) ?_
      exact aw_zret hC hr (Or.inr rfl) (by decide +kernel) (pS1 hF) (pS2 hF)
    · have hF := (if_neg h).symm.trans hF
      refine aw_run (pc' := 53) hC [(.lload_n 3, 1, 0, 0, .null), (.aload_n 0, 1, 0, 0, .null), (.getfield 212, 3, 7, 23, .null), (.lmul, 1, 0, 0, .null), (.aload_n 0, 1, 0, 0, .null), (.getfield 208, 3, 7, 22, .null), (.lload 5, 2, 0, 0, .null), (.lmul, 1, 0, 0, .null), (.lcmp, 1, 0, 0, .null)] (by decide +kernel) [(0, .ref 20), (1, .int a1), (2, .int (q1.1 20 21)), (3, .long (q1.2 20 22)), (5, .long (q1.2 20 23))] [.int (lg_cmp ((q1.2 20 22) * (q2.2 20 23)) ((q2.2 20 22) * (q1.2 20 23)))] q2 rfl rfl ⟨trivial, trivial, trivial, trivial, trivial, trivial, trivial, trivial, trivial, trivial⟩ rfl ?_
      refine aw_if_gt (off := 7) hC 60 (lc_gt _ _) (by decide +kernel) (by decide) (fun h => ?_) (fun h => ?_)
      · have hF := (if_pos h).symm.trans hF
        refine aw_run (pc' := 61) hC [(.iconst 0, 1, 0, 0, .int 0)] (by decide +kernel) [(0, .ref 20), (1, .int a1), (2, .int (q1.1 20 21)), (3, .long (q1.2 20 22)), (5, .long (q1.2 20 23))] [.int 0] q2 rfl rfl ⟨trivial, trivial⟩ rfl ?_
        exact aw_zret hC hr (Or.inl rfl) (by decide +kernel) (pS1 hF) (pS2 hF)
      · have hF := (if_neg h).symm.trans hF
        refine aw_run (pc' := 57) hC [(.iconst 1, 1, 0, 0, .int 1)] (by decide +kernel) [(0, .ref 20), (1, .int a1), (2, .int (q1.1 20 21)), (3, .long (q1.2 20 22)), (5, .long (q1.2 20 23))] [.int 1] q2 rfl rfl ⟨trivial, trivial⟩ rfl ?_
        refine aw_goto (off := 4) hC 61 (by decide +kernel) (by decide) ?_
        exact aw_zret hC hr (Or.inr rfl) (by decide +kernel) (pS1 hF) (pS2 hF)
def f_mo_isOut (N : Nat) (σ : Sg) (a1 : Int32) : Option (Int32 × Sg) := (f_mo_isBarred N σ a1).bind fun q1 => if q1 = 0 then ((f_mo_leaves N σ a1).bind fun q2 => if q2.1 = 0 then (some (1, q2.2)) else (some (0, q2.2))) else (some (1, σ))
def rm_mo_isOut : Room := { frames := 3, cells := 0, slots := 0, locals := 87 }
set_option maxHeartbeats 4000000 in
set_option maxRecDepth 100000 in
theorem c_mo_isOut (N : Nat) (σ : Sg) (a1 : Int32) (z : Int32 × Sg) (hF : f_mo_isOut N σ a1 = some z) : Ctr yX7_isOut cX7_isOut 2 (some .boolean) rm_mo_isOut [.ref 20, .int a1] σ (some (.int z.1)) z.2 := by
  refine ct_start 7 (by decide) rfl (fun ad => Nat.le_of_ble_eq_true rfl) [(0, .ref 20), (1, .int a1)] (fun ad => rfl) ?_
  intro p l e s m args below meth c D ad tc A hC hA hr
  unfold f_mo_isOut at hF
  refine aw_run (pc' := 2) hC [(.aload_n 0, 1, 0, 0, .null), (.iload_n 1, 1, 0, 0, .null)] (by decide +kernel) [(0, .ref 20), (1, .int a1)] [.int a1, .ref 20] σ rfl rfl ⟨trivial, trivial, trivial⟩ rfl ?_
  obtain ⟨q1, eq1, hF⟩ := bd hF
  refine aw_callV hC hA (rest := []) (c_mo_isBarred N σ a1 q1 eq1) mt_X7_isBarred ln_7_244 (by decide +kernel) ⟨_, rfl⟩ rfl rfl (Nat.le_of_ble_eq_true rfl) ⟨⟨rfl, rfl⟩, Nat.le_of_ble_eq_true rfl, Nat.le_of_ble_eq_true rfl⟩ ⟨Nat.zero_le _, Nat.zero_le _⟩ rfl ?_
  refine aw_if_ne (off := 11) hC 16 Iff.rfl (by decide +kernel) (by decide) (fun h => ?_) (fun h => ?_)
  · have hF := (if_neg h).symm.trans hF
    refine aw_run (pc' := 17) hC [(.iconst 1, 1, 0, 0, .int 1)] (by decide +kernel) [(0, .ref 20), (1, .int a1)] [.int 1] σ rfl rfl ⟨trivial, trivial⟩ rfl ?_
    refine aw_goto (off := 4) hC 21 (by decide +kernel) (by decide) ?_
    exact aw_zret hC hr (Or.inr rfl) (by decide +kernel) (pS1 hF) (pS2 hF)
  · have hF := (if_pos h).symm.trans hF
    refine aw_run (pc' := 10) hC [(.aload_n 0, 1, 0, 0, .null), (.iload_n 1, 1, 0, 0, .null)] (by decide +kernel) [(0, .ref 20), (1, .int a1)] [.int a1, .ref 20] σ rfl rfl ⟨trivial, trivial, trivial⟩ rfl ?_
    obtain ⟨q2, eq2, hF⟩ := bd hF
    refine aw_callV hC hA (rest := []) (c_mo_leaves N σ a1 q2 eq2) mt_X7_leaves ln_7_247 (by decide +kernel) ⟨_, rfl⟩ rfl rfl (Nat.le_of_ble_eq_true rfl) ⟨⟨rfl, rfl⟩, Nat.le_of_ble_eq_true rfl, Nat.le_of_ble_eq_true rfl⟩ ⟨Nat.zero_le _, Nat.zero_le _⟩ rfl ?_
    refine aw_if_ne (off := 7) hC 20 Iff.rfl (by decide +kernel) (by decide) (fun h => ?_) (fun h => ?_)
    · have hF := (if_neg h).symm.trans hF
      refine aw_run (pc' := 21) hC [(.iconst 0, 1, 0, 0, .int 0)] (by decide +kernel) [(0, .ref 20), (1, .int a1)] [.int 0] q2.2 rfl rfl ⟨trivial, trivial⟩ rfl ?_
      exact aw_zret hC hr (Or.inl rfl) (by decide +kernel) (pS1 hF) (pS2 hF)
    · have hF := (if_pos h).symm.trans hF
      refine aw_run (pc' := 17) hC [(.iconst 1, 1, 0, 0, .int 1)] (by decide +kernel) [(0, .ref 20), (1, .int a1)] [.int 1] q2.2 rfl rfl ⟨trivial, trivial⟩ rfl ?_
      refine aw_goto (off := 4) hC 21 (by decide +kernel) (by decide) ?_
      exact aw_zret hC hr (Or.inr rfl) (by decide +kernel) (pS1 hF) (pS2 hF)
def f_mo_reachNow (N : Nat) (σ : Sg) (a1 : Int32) (a2 : Int32) (a3 : Int32) : Option (Int32 × Sg) := (f_mo_isOut N σ a1).bind fun q1 => if q1.1 = 0 then ((f_mo_layReach N q1.2 a1 a2).bind fun q2 => if (q2.1 20 21) = 0 then (some (-100000001, q2)) else ((f_mo_told N q2 a3).bind fun q3 => some (q3, q2))) else (some (-100000006, q1.2))
def rm_mo_reachNow : Room := { frames := 4, cells := 0, slots := 0, locals := 108 }
set_option maxHeartbeats 4000000 in
set_option maxRecDepth 100000 in
theorem c_mo_reachNow (N : Nat) (σ : Sg) (a1 : Int32) (a2 : Int32) (a3 : Int32) (z : Int32 × Sg) (hF : f_mo_reachNow N σ a1 a2 a3 = some z) : Ctr yX7_reachNow cX7_reachNow 4 (some .int) rm_mo_reachNow [.ref 20, .int a1, .int a2, .int a3] σ (some (.int z.1)) z.2 := by
  refine ct_start 7 (by decide) rfl (fun ad => Nat.le_of_ble_eq_true rfl) [(0, .ref 20), (1, .int a1), (2, .int a2), (3, .int a3)] (fun ad => rfl) ?_
  intro p l e s m args below meth c D ad tc A hC hA hr
  unfold f_mo_reachNow at hF
  refine aw_run (pc' := 2) hC [(.aload_n 0, 1, 0, 0, .null), (.iload_n 1, 1, 0, 0, .null)] (by decide +kernel) [(0, .ref 20), (1, .int a1), (2, .int a2), (3, .int a3)] [.int a1, .ref 20] σ rfl rfl ⟨trivial, trivial, trivial⟩ rfl ?_
  obtain ⟨q1, eq1, hF⟩ := bd hF
  refine aw_callV hC hA (rest := []) (c_mo_isOut N σ a1 q1 eq1) mt_X7_isOut ln_7_250 (by decide +kernel) ⟨_, rfl⟩ rfl rfl (Nat.le_of_ble_eq_true rfl) ⟨⟨rfl, rfl⟩, Nat.le_of_ble_eq_true rfl, Nat.le_of_ble_eq_true rfl⟩ ⟨Nat.zero_le _, Nat.zero_le _⟩ rfl ?_
  refine aw_if_eq (off := 6) hC 11 Iff.rfl (by decide +kernel) (by decide) (fun h => ?_) (fun h => ?_)
  · have hF := (if_pos h).symm.trans hF
    refine aw_run (pc' := 14) hC [(.aload_n 0, 1, 0, 0, .null), (.iload_n 1, 1, 0, 0, .null), (.iload_n 2, 1, 0, 0, .null)] (by decide +kernel) [(0, .ref 20), (1, .int a1), (2, .int a2), (3, .int a3)] [.int a2, .int a1, .ref 20] q1.2 rfl rfl ⟨trivial, trivial, trivial, trivial⟩ rfl ?_
    obtain ⟨q2, eq2, hF⟩ := bd hF
    refine aw_callV hC hA (rest := []) (c_mo_layReach N q1.2 a1 a2 q2 eq2) mt_X7_layReach ln_7_241 (by decide +kernel) ⟨_, rfl⟩ rfl rfl (Nat.le_of_ble_eq_true rfl) ⟨⟨rfl, rfl⟩, Nat.le_of_ble_eq_true rfl, Nat.le_of_ble_eq_true rfl⟩ ⟨Nat.zero_le _, Nat.zero_le _⟩ rfl ?_
    refine aw_run (pc' := 21) hC [(.aload_n 0, 1, 0, 0, .null), (.getfield 205, 3, 7, 21, .null)] (by decide +kernel) [(0, .ref 20), (1, .int a1), (2, .int a2), (3, .int a3)] [.int (q2.1 20 21)] q2 rfl rfl ⟨trivial, trivial, trivial⟩ rfl ?_
    refine aw_if_eq (off := 11) hC 32 Iff.rfl (by decide +kernel) (by decide) (fun h => ?_) (fun h => ?_)
    · have hF := (if_pos h).symm.trans hF
      refine aw_run (pc' := 34) hC [(.ldc 97, 2, 0, 0, .int (-100000001))] (by decide +kernel) [(0, .ref 20), (1, .int a1), (2, .int a2), (3, .int a3)] [.int (-100000001)] q2 rfl rfl ⟨trivial, trivial⟩ rfl ?_
      exact aw_iret hC hr (by decide +kernel) (pS1 hF) (pS2 hF)
    · have hF := (if_neg h).symm.trans hF
      refine aw_run (pc' := 26) hC [(.aload_n 0, 1, 0, 0, .null), (.iload_n 3, 1, 0, 0, .null)] (by decide +kernel) [(0, .ref 20), (1, .int a1), (2, .int a2), (3, .int a3)] [.int a3, .ref 20] q2 rfl rfl ⟨trivial, trivial, trivial⟩ rfl ?_
      obtain ⟨q3, eq3, hF⟩ := bd hF
      refine aw_callV hC hA (rest := []) (c_mo_told N q2 a3 q3 eq3) mt_X7_told ln_7_230 (by decide +kernel) ⟨_, rfl⟩ rfl rfl (Nat.le_of_ble_eq_true rfl) ⟨⟨rfl, rfl⟩, Nat.le_of_ble_eq_true rfl, Nat.le_of_ble_eq_true rfl⟩ ⟨Nat.zero_le _, Nat.zero_le _⟩ rfl ?_
      refine aw_goto (off := 5) hC 34 (by decide +kernel) (by decide) ?_
      exact aw_iret hC hr (by decide +kernel) (pS1 hF) (pS2 hF)
  · have hF := (if_neg h).symm.trans hF
    refine aw_run (pc' := 10) hC [(.ldc 233, 2, 0, 0, .int (-100000006))] (by decide +kernel) [(0, .ref 20), (1, .int a1), (2, .int a2), (3, .int a3)] [.int (-100000006)] q1.2 rfl rfl ⟨trivial, trivial⟩ rfl ?_
    exact aw_iret hC hr (by decide +kernel) (pS1 hF) (pS2 hF)
def f_mo_reach (N : Nat) (σ : Sg) (a1 : Int32) (a2 : Int32) (a3 : Int32) : Option (Int32 × Sg) := if (f_mo_isAsk a1 a2 a3) = 0 then (some (-100000003, σ)) else ((f_mo_canReach N σ).bind fun q1 => if q1 = 0 then (some (-100000004, σ)) else ((f_mo_reachNow N σ a1 a2 a3).bind fun q2 => some (q2.1, q2.2)))
def rm_mo_reach : Room := { frames := 5, cells := 0, slots := 0, locals := 131 }
set_option maxHeartbeats 4000000 in
set_option maxRecDepth 100000 in
theorem c_mo_reach (N : Nat) (σ : Sg) (a1 : Int32) (a2 : Int32) (a3 : Int32) (z : Int32 × Sg) (hF : f_mo_reach N σ a1 a2 a3 = some z) : Ctr yX7_reach cX7_reach 4 (some .int) rm_mo_reach [.ref 20, .int a1, .int a2, .int a3] σ (some (.int z.1)) z.2 := by
  refine ct_start 7 (by decide) rfl (fun ad => Nat.le_of_ble_eq_true rfl) [(0, .ref 20), (1, .int a1), (2, .int a2), (3, .int a3)] (fun ad => rfl) ?_
  intro p l e s m args below meth c D ad tc A hC hA hr
  unfold f_mo_reach at hF
  refine aw_run (pc' := 3) hC [(.iload_n 1, 1, 0, 0, .null), (.iload_n 2, 1, 0, 0, .null), (.iload_n 3, 1, 0, 0, .null)] (by decide +kernel) [(0, .ref 20), (1, .int a1), (2, .int a2), (3, .int a3)] [.int a3, .int a2, .int a1] σ rfl rfl ⟨trivial, trivial, trivial, trivial⟩ rfl ?_
  refine aw_callS hC hA (rest := []) (c_mo_isAsk σ a1 a2 a3 _ rfl) mt_X7_isAsk ln_7_234 (by decide +kernel) rfl rfl (Nat.le_of_ble_eq_true rfl) ⟨⟨rfl, rfl⟩, Nat.le_of_ble_eq_true rfl, Nat.le_of_ble_eq_true rfl⟩ ⟨Nat.zero_le _, Nat.zero_le _⟩ rfl ?_
  refine aw_if_ne (off := 6) hC 12 Iff.rfl (by decide +kernel) (by decide) (fun h => ?_) (fun h => ?_)
  · have hF := (if_neg h).symm.trans hF
    refine aw_run (pc' := 13) hC [(.aload_n 0, 1, 0, 0, .null)] (by decide +kernel) [(0, .ref 20), (1, .int a1), (2, .int a2), (3, .int a3)] [.ref 20] σ rfl rfl ⟨trivial, trivial⟩ rfl ?_
    obtain ⟨q1, eq1, hF⟩ := bd hF
    refine aw_callV hC hA (rest := []) (c_mo_canReach N σ q1 eq1) mt_X7_canReach ln_7_256 (by decide +kernel) ⟨_, rfl⟩ rfl rfl (Nat.le_of_ble_eq_true rfl) ⟨⟨rfl, rfl⟩, Nat.le_of_ble_eq_true rfl, Nat.le_of_ble_eq_true rfl⟩ ⟨Nat.zero_le _, Nat.zero_le _⟩ rfl ?_
    refine aw_if_eq (off := 13) hC 29 Iff.rfl (by decide +kernel) (by decide) (fun h => ?_) (fun h => ?_)
    · have hF := (if_pos h).symm.trans hF
      refine aw_run (pc' := 31) hC [(.ldc 105, 2, 0, 0, .int (-100000004))] (by decide +kernel) [(0, .ref 20), (1, .int a1), (2, .int a2), (3, .int a3)] [.int (-100000004)] σ rfl rfl ⟨trivial, trivial⟩ rfl ?_
      exact aw_iret hC hr (by decide +kernel) (pS1 hF) (pS2 hF)
    · have hF := (if_neg h).symm.trans hF
      refine aw_run (pc' := 23) hC [(.aload_n 0, 1, 0, 0, .null), (.iload_n 1, 1, 0, 0, .null), (.iload_n 2, 1, 0, 0, .null), (.iload_n 3, 1, 0, 0, .null)] (by decide +kernel) [(0, .ref 20), (1, .int a1), (2, .int a2), (3, .int a3)] [.int a3, .int a2, .int a1, .ref 20] σ rfl rfl ⟨trivial, trivial, trivial, trivial, trivial⟩ rfl ?_
      obtain ⟨q2, eq2, hF⟩ := bd hF
      refine aw_callV hC hA (rest := []) (c_mo_reachNow N σ a1 a2 a3 q2 eq2) mt_X7_reachNow ln_7_259 (by decide +kernel) ⟨_, rfl⟩ rfl rfl (Nat.le_of_ble_eq_true rfl) ⟨⟨rfl, rfl⟩, Nat.le_of_ble_eq_true rfl, Nat.le_of_ble_eq_true rfl⟩ ⟨Nat.zero_le _, Nat.zero_le _⟩ rfl ?_
      refine aw_goto (off := 5) hC 31 (by decide +kernel) (by decide) ?_
      exact aw_iret hC hr (by decide +kernel) (pS1 hF) (pS2 hF)
  · have hF := (if_pos h).symm.trans hF
    refine aw_run (pc' := 11) hC [(.ldc 54, 2, 0, 0, .int (-100000003))] (by decide +kernel) [(0, .ref 20), (1, .int a1), (2, .int a2), (3, .int a3)] [.int (-100000003)] σ rfl rfl ⟨trivial, trivial⟩ rfl ?_
    exact aw_iret hC hr (by decide +kernel) (pS1 hF) (pS2 hF)
def f_mo_mostNow (N : Nat) (σ : Sg) (a1 : Int32) : Option (Int32 × Sg) := (f_mo_isOut N σ a1).bind fun q1 => if q1.1 = 0 then ((f_mo_layReach N q1.2 a1 0).bind fun q2 => (f_mo_layReach N q2 a1 1).bind fun q3 => if (q2.1 20 21) = 0 then (some (-100000001, q3)) else (if (q3.1 20 21) = 0 then (some (-100000001, q3)) else (if ¬ (((q3.2 20 23) * (q2.2 20 23)) * (q3.1 20 8).toInt64) = 0 then some (((((((q3.2 20 22) * (q2.2 20 23)) - ((q2.2 20 22) * (q3.2 20 23))) + (((q3.2 20 23) * (q2.2 20 23)) * (q3.1 20 8).toInt64)) - 1) / (((q3.2 20 23) * (q2.2 20 23)) * (q3.1 20 8).toInt64)).toInt32, q3) else none))) else (some (0, q1.2))
def rm_mo_mostNow : Room := { frames := 4, cells := 0, slots := 0, locals := 108 }
set_option maxHeartbeats 4000000 in
set_option maxRecDepth 100000 in
theorem c_mo_mostNow (N : Nat) (σ : Sg) (a1 : Int32) (z : Int32 × Sg) (hF : f_mo_mostNow N σ a1 = some z) : Ctr yX7_mostNow cX7_mostNow 9 (some .int) rm_mo_mostNow [.ref 20, .int a1] σ (some (.int z.1)) z.2 := by
  refine ct_start 7 (by decide) rfl (fun ad => Nat.le_of_ble_eq_true rfl) [(0, .ref 20), (1, .int a1)] (fun ad => rfl) ?_
  intro p l e s m args below meth c D ad tc A hC hA hr
  unfold f_mo_mostNow at hF
  refine aw_run (pc' := 2) hC [(.aload_n 0, 1, 0, 0, .null), (.iload_n 1, 1, 0, 0, .null)] (by decide +kernel) [(0, .ref 20), (1, .int a1)] [.int a1, .ref 20] σ rfl rfl ⟨trivial, trivial, trivial⟩ rfl ?_
  obtain ⟨q1, eq1, hF⟩ := bd hF
  refine aw_callV hC hA (rest := []) (c_mo_isOut N σ a1 q1 eq1) mt_X7_isOut ln_7_250 (by decide +kernel) ⟨_, rfl⟩ rfl rfl (Nat.le_of_ble_eq_true rfl) ⟨⟨rfl, rfl⟩, Nat.le_of_ble_eq_true rfl, Nat.le_of_ble_eq_true rfl⟩ ⟨Nat.zero_le _, Nat.zero_le _⟩ rfl ?_
  refine aw_if_eq (off := 5) hC 10 Iff.rfl (by decide +kernel) (by decide) (fun h => ?_) (fun h => ?_)
  · have hF := (if_pos h).symm.trans hF
    refine aw_run (pc' := 13) hC [(.aload_n 0, 1, 0, 0, .null), (.iload_n 1, 1, 0, 0, .null), (.iconst 0, 1, 0, 0, .int 0)] (by decide +kernel) [(0, .ref 20), (1, .int a1)] [.int 0, .int a1, .ref 20] q1.2 rfl rfl ⟨trivial, trivial, trivial, trivial⟩ rfl ?_
    obtain ⟨q2, eq2, hF⟩ := bd hF
    refine aw_callV hC hA (rest := []) (c_mo_layReach N q1.2 a1 0 q2 eq2) mt_X7_layReach ln_7_241 (by decide +kernel) ⟨_, rfl⟩ rfl rfl (Nat.le_of_ble_eq_true rfl) ⟨⟨rfl, rfl⟩, Nat.le_of_ble_eq_true rfl, Nat.le_of_ble_eq_true rfl⟩ ⟨Nat.zero_le _, Nat.zero_le _⟩ rfl ?_
    refine aw_run (pc' := 35) hC [(.aload_n 0, 1, 0, 0, .null), (.getfield 205, 3, 7, 21, .null), (.istore_n 2, 1, 0, 0, .null), (.aload_n 0, 1, 0, 0, .null), (.getfield 208, 3, 7, 22, .null), (.lstore_n 3, 1, 0, 0, .null), (.aload_n 0, 1, 0, 0, .null), (.getfield 212, 3, 7, 23, .null), (.lstore 5, 2, 0, 0, .null), (.aload_n 0, 1, 0, 0, .null), (.iload_n 1, 1, 0, 0, .null), (.iconst 1, 1, 0, 0, .int 1)] (by decide +kernel) [(0, .ref 20), (1, .int a1), (2, .int (q2.1 20 21)), (3, .long (q2.2 20 22)), (5, .long (q2.2 20 23))] [.int 1, .int a1, .ref 20] q2 rfl rfl ⟨trivial, trivial, trivial, trivial, trivial, trivial, trivial, trivial, trivial, trivial, trivial, trivial, trivial⟩ rfl ?_
    obtain ⟨q3, eq3, hF⟩ := bd hF
    refine aw_callV hC hA (rest := []) (c_mo_layReach N q2 a1 1 q3 eq3) mt_X7_layReach ln_7_241 (by decide +kernel) ⟨_, rfl⟩ rfl rfl (Nat.le_of_ble_eq_true rfl) ⟨⟨rfl, rfl⟩, Nat.le_of_ble_eq_true rfl, Nat.le_of_ble_eq_true rfl⟩ ⟨Nat.zero_le _, Nat.zero_le _⟩ rfl ?_
    refine aw_run (pc' := 39) hC [(.iload_n 2, 1, 0, 0, .null)] (by decide +kernel) [(0, .ref 20), (1, .int a1), (2, .int (q2.1 20 21)), (3, .long (q2.2 20 22)), (5, .long (q2.2 20 23))] [.int (q2.1 20 21)] q3 rfl rfl ⟨trivial, trivial⟩ rfl ?_
    refine aw_if_eq (off := 10) hC 49 Iff.rfl (by decide +kernel) (by decide) (fun h => ?_) (fun h => ?_)
    · have hF := (if_pos h).symm.trans hF
      refine aw_run (pc' := 51) hC [(.ldc 97, 2, 0, 0, .int (-100000001))] (by decide +kernel) [(0, .ref 20), (1, .int a1), (2, .int (q2.1 20 21)), (3, .long (q2.2 20 22)), (5, .long (q2.2 20 23))] [.int (-100000001)] q3 rfl rfl ⟨trivial, trivial⟩ rfl ?_
      exact aw_iret hC hr (by decide +kernel) (pS1 hF) (pS2 hF)
    · have hF := (if_neg h).symm.trans hF
      refine aw_run (pc' := 46) hC [(.aload_n 0, 1, 0, 0, .null), (.getfield 205, 3, 7, 21, .null)] (by decide +kernel) [(0, .ref 20), (1, .int a1), (2, .int (q2.1 20 21)), (3, .long (q2.2 20 22)), (5, .long (q2.2 20 23))] [.int (q3.1 20 21)] q3 rfl rfl ⟨trivial, trivial, trivial⟩ rfl ?_
      refine aw_if_ne (off := 6) hC 52 Iff.rfl (by decide +kernel) (by decide) (fun h => ?_) (fun h => ?_)
      · have hF := (if_neg h).symm.trans hF
        obtain ⟨g4, hF⟩ := gd hF
        refine aw_run (pc' := 90) hC [(.aload_n 0, 1, 0, 0, .null), (.getfield 212, 3, 7, 23, .null), (.lload 5, 2, 0, 0, .null), (.lmul, 1, 0, 0, .null), (.aload_n 0, 1, 0, 0, .null), (.getfield 29, 3, 7, 8, .null), (.i2l, 1, 0, 0, .null), (.lmul, 1, 0, 0, .null), (.lstore 7, 2, 0, 0, .null), (.aload_n 0, 1, 0, 0, .null), (.getfield 208, 3, 7, 22, .null), (.lload 5, 2, 0, 0, .null), (.lmul, 1, 0, 0, .null), (.lload_n 3, 1, 0, 0, .null), (.aload_n 0, 1, 0, 0, .null), (.getfield 212, 3, 7, 23, .null), (.lmul, 1, 0, 0, .null), (.lsub, 1, 0, 0, .null), (.lload 7, 2, 0, 0, .null), (.ladd, 1, 0, 0, .null), (.lconst 1, 1, 0, 0, .long 1), (.lsub, 1, 0, 0, .null), (.lload 7, 2, 0, 0, .null), (.ldiv, 1, 0, 0, .null), (.l2i, 1, 0, 0, .null)] (by decide +kernel) [(0, .ref 20), (1, .int a1), (2, .int (q2.1 20 21)), (3, .long (q2.2 20 22)), (5, .long (q2.2 20 23)), (7, .long (((q3.2 20 23) * (q2.2 20 23)) * (q3.1 20 8).toInt64))] [.int ((((((q3.2 20 22) * (q2.2 20 23)) - ((q2.2 20 22) * (q3.2 20 23))) + (((q3.2 20 23) * (q2.2 20 23)) * (q3.1 20 8).toInt64)) - 1) / (((q3.2 20 23) * (q2.2 20 23)) * (q3.1 20 8).toInt64)).toInt32] q3 rfl rfl ⟨trivial, trivial, trivial, trivial, trivial, trivial, trivial, trivial, trivial, trivial, trivial, trivial, trivial, trivial, trivial, trivial, trivial, trivial, trivial, trivial, trivial, trivial, trivial, g4, trivial, trivial⟩ rfl ?_
        exact aw_iret hC hr (by decide +kernel) (pS1 hF) (pS2 hF)
      · have hF := (if_pos h).symm.trans hF
        refine aw_run (pc' := 51) hC [(.ldc 97, 2, 0, 0, .int (-100000001))] (by decide +kernel) [(0, .ref 20), (1, .int a1), (2, .int (q2.1 20 21)), (3, .long (q2.2 20 22)), (5, .long (q2.2 20 23))] [.int (-100000001)] q3 rfl rfl ⟨trivial, trivial⟩ rfl ?_
        exact aw_iret hC hr (by decide +kernel) (pS1 hF) (pS2 hF)
  · have hF := (if_neg h).symm.trans hF
    refine aw_run (pc' := 9) hC [(.iconst 0, 1, 0, 0, .int 0)] (by decide +kernel) [(0, .ref 20), (1, .int a1)] [.int 0] q1.2 rfl rfl ⟨trivial, trivial⟩ rfl ?_
    exact aw_iret hC hr (by decide +kernel) (pS1 hF) (pS2 hF)
def f_mo_sureNow (N : Nat) (σ : Sg) (a1 : Int32) : Option (Int32 × Sg) := (f_mo_layHeld N σ a1 0).bind fun q1 => if (q1.1 20 21) = 0 then (some (0, q1)) else ((f_mo_layHeld N q1 a1 1).bind fun q2 => if ¬ (((q2.2 20 23) * (q1.2 20 23)) * (q2.1 20 8).toInt64) = 0 then some (((((q2.2 20 22) * (q1.2 20 23)) - ((q1.2 20 22) * (q2.2 20 23))) / (((q2.2 20 23) * (q1.2 20 23)) * (q2.1 20 8).toInt64)).toInt32, q2) else none)
def rm_mo_sureNow : Room := { frames := 2, cells := 0, slots := 0, locals := 59 }
set_option maxHeartbeats 4000000 in
set_option maxRecDepth 100000 in
theorem c_mo_sureNow (N : Nat) (σ : Sg) (a1 : Int32) (z : Int32 × Sg) (hF : f_mo_sureNow N σ a1 = some z) : Ctr yX7_sureNow cX7_sureNow 6 (some .int) rm_mo_sureNow [.ref 20, .int a1] σ (some (.int z.1)) z.2 := by
  refine ct_start 7 (by decide) rfl (fun ad => Nat.le_of_ble_eq_true rfl) [(0, .ref 20), (1, .int a1)] (fun ad => rfl) ?_
  intro p l e s m args below meth c D ad tc A hC hA hr
  unfold f_mo_sureNow at hF
  refine aw_run (pc' := 3) hC [(.aload_n 0, 1, 0, 0, .null), (.iload_n 1, 1, 0, 0, .null), (.iconst 0, 1, 0, 0, .int 0)] (by decide +kernel) [(0, .ref 20), (1, .int a1)] [.int 0, .int a1, .ref 20] σ rfl rfl ⟨trivial, trivial, trivial, trivial⟩ rfl ?_
  obtain ⟨q1, eq1, hF⟩ := bd hF
  refine aw_callV hC hA (rest := []) (c_mo_layHeld N σ a1 0 q1 eq1) mt_X7_layHeld ln_7_226 (by decide +kernel) ⟨_, rfl⟩ rfl rfl (Nat.le_of_ble_eq_true rfl) ⟨⟨rfl, rfl⟩, Nat.le_of_ble_eq_true rfl, Nat.le_of_ble_eq_true rfl⟩ ⟨Nat.zero_le _, Nat.zero_le _⟩ rfl ?_
  refine aw_run (pc' := 10) hC [(.aload_n 0, 1, 0, 0, .null), (.getfield 205, 3, 7, 21, .null)] (by decide +kernel) [(0, .ref 20), (1, .int a1)] [.int (q1.1 20 21)] q1 rfl rfl ⟨trivial, trivial, trivial⟩ rfl ?_
  refine aw_if_ne (off := 5) hC 15 Iff.rfl (by decide +kernel) (by decide) (fun h => ?_) (fun h => ?_)
  · have hF := (if_neg h).symm.trans hF
    refine aw_run (pc' := 29) hC [(.aload_n 0, 1, 0, 0, .null), (.getfield 208, 3, 7, 22, .null), (.lstore_n 2, 1, 0, 0, .null), (.aload_n 0, 1, 0, 0, .null), (.getfield 212, 3, 7, 23, .null), (.lstore 4, 2, 0, 0, .null), (.aload_n 0, 1, 0, 0, .null), (.iload_n 1, 1, 0, 0, .null), (.iconst 1, 1, 0, 0, .int 1)] (by decide +kernel) [(0, .ref 20), (1, .int a1), (2, .long (q1.2 20 22)), (4, .long (q1.2 20 23))] [.int 1, .int a1, .ref 20] q1 rfl rfl ⟨trivial, trivial, trivial, trivial, trivial, trivial, trivial, trivial, trivial, trivial⟩ rfl ?_
    obtain ⟨q2, eq2, hF⟩ := bd hF
    refine aw_callV hC hA (rest := []) (c_mo_layHeld N q1 a1 1 q2 eq2) mt_X7_layHeld ln_7_226 (by decide +kernel) ⟨_, rfl⟩ rfl rfl (Nat.le_of_ble_eq_true rfl) ⟨⟨rfl, rfl⟩, Nat.le_of_ble_eq_true rfl, Nat.le_of_ble_eq_true rfl⟩ ⟨Nat.zero_le _, Nat.zero_le _⟩ rfl ?_
    obtain ⟨g3, hF⟩ := gd hF
    refine aw_run (pc' := 61) hC [(.aload_n 0, 1, 0, 0, .null), (.getfield 208, 3, 7, 22, .null), (.lload 4, 2, 0, 0, .null), (.lmul, 1, 0, 0, .null), (.lload_n 2, 1, 0, 0, .null), (.aload_n 0, 1, 0, 0, .null), (.getfield 212, 3, 7, 23, .null), (.lmul, 1, 0, 0, .null), (.lsub, 1, 0, 0, .null), (.aload_n 0, 1, 0, 0, .null), (.getfield 212, 3, 7, 23, .null), (.lload 4, 2, 0, 0, .null), (.lmul, 1, 0, 0, .null), (.aload_n 0, 1, 0, 0, .null), (.getfield 29, 3, 7, 8, .null), (.i2l, 1, 0, 0, .null), (.lmul, 1, 0, 0, .null), (.ldiv, 1, 0, 0, .null), (.l2i, 1, 0, 0, .null)] (by decide +kernel) [(0, .ref 20), (1, .int a1), (2, .long (q1.2 20 22)), (4, .long (q1.2 20 23))] [.int ((((q2.2 20 22) * (q1.2 20 23)) - ((q1.2 20 22) * (q2.2 20 23))) / (((q2.2 20 23) * (q1.2 20 23)) * (q2.1 20 8).toInt64)).toInt32] q2 rfl rfl ⟨trivial, trivial, trivial, trivial, trivial, trivial, trivial, trivial, trivial, trivial, trivial, trivial, trivial, trivial, trivial, trivial, trivial, g3, trivial, trivial⟩ rfl ?_
    exact aw_iret hC hr (by decide +kernel) (pS1 hF) (pS2 hF)
  · have hF := (if_pos h).symm.trans hF
    refine aw_run (pc' := 14) hC [(.iconst 0, 1, 0, 0, .int 0)] (by decide +kernel) [(0, .ref 20), (1, .int a1)] [.int 0] q1 rfl rfl ⟨trivial, trivial⟩ rfl ?_
    exact aw_iret hC hr (by decide +kernel) (pS1 hF) (pS2 hF)
def f_mo_lasts (N : Nat) (σ : Sg) (a1 : Int32) (a2 : Int32) : Option (Int32 × Sg) := if (f_mo_within a1.toInt64 (-200) 200) = 0 then (some (-100000003, σ)) else (if (f_mo_within a2.toInt64 0 1) = 0 then (some (-100000003, σ)) else ((f_mo_canReach N σ).bind fun q1 => if q1 = 0 then (some (-100000004, σ)) else (if a2 = 0 then ((f_mo_sureNow N σ a1).bind fun q3 => some (q3.1, q3.2)) else ((f_mo_mostNow N σ a1).bind fun q2 => some (q2.1, q2.2)))))
def rm_mo_lasts : Room := { frames := 5, cells := 0, slots := 0, locals := 136 }
set_option maxHeartbeats 4000000 in
set_option maxRecDepth 100000 in
theorem c_mo_lasts (N : Nat) (σ : Sg) (a1 : Int32) (a2 : Int32) (z : Int32 × Sg) (hF : f_mo_lasts N σ a1 a2 = some z) : Ctr yX7_lasts cX7_lasts 3 (some .int) rm_mo_lasts [.ref 20, .int a1, .int a2] σ (some (.int z.1)) z.2 := by
  refine ct_start 7 (by decide) rfl (fun ad => Nat.le_of_ble_eq_true rfl) [(0, .ref 20), (1, .int a1), (2, .int a2)] (fun ad => rfl) ?_
  intro p l e s m args below meth c D ad tc A hC hA hr
  unfold f_mo_lasts at hF
  refine aw_run (pc' := 8) hC [(.iload_n 1, 1, 0, 0, .null), (.i2l, 1, 0, 0, .null), (.ldc2_w 127, 3, 0, 0, .long (-200)), (.ldc2_w 129, 3, 0, 0, .long 200)] (by decide +kernel) [(0, .ref 20), (1, .int a1), (2, .int a2)] [.long 200, .long (-200), .long a1.toInt64] σ rfl rfl ⟨trivial, trivial, trivial, trivial, trivial⟩ rfl ?_
  refine aw_callS hC hA (rest := []) (c_mo_within σ a1.toInt64 (-200) 200 _ rfl) mt_X7_within ln_7_50 (by decide +kernel) rfl rfl (Nat.le_of_ble_eq_true rfl) ⟨⟨rfl, rfl⟩, Nat.le_of_ble_eq_true rfl, Nat.le_of_ble_eq_true rfl⟩ ⟨Nat.zero_le _, Nat.zero_le _⟩ rfl ?_
  refine aw_if_eq (off := 13) hC 24 Iff.rfl (by decide +kernel) (by decide) (fun h => ?_) (fun h => ?_)
  · have hF := (if_pos h).symm.trans hF
    refine aw_run (pc' := 26) hC [(.ldc 54, 2, 0, 0, .int (-100000003))] (by decide +kernel) [(0, .ref 20), (1, .int a1), (2, .int a2)] [.int (-100000003)] σ rfl rfl ⟨trivial, trivial⟩ rfl ?_
    exact aw_iret hC hr (by decide +kernel) (pS1 hF) (pS2 hF)
  · have hF := (if_neg h).symm.trans hF
    refine aw_run (pc' := 18) hC [(.iload_n 2, 1, 0, 0, .null), (.i2l, 1, 0, 0, .null), (.lconst 0, 1, 0, 0, .long 0), (.lconst 1, 1, 0, 0, .long 1)] (by decide +kernel) [(0, .ref 20), (1, .int a1), (2, .int a2)] [.long 1, .long 0, .long a2.toInt64] σ rfl rfl ⟨trivial, trivial, trivial, trivial, trivial⟩ rfl ?_
    refine aw_callS hC hA (rest := []) (c_mo_within σ a2.toInt64 0 1 _ rfl) mt_X7_within ln_7_50 (by decide +kernel) rfl rfl (Nat.le_of_ble_eq_true rfl) ⟨⟨rfl, rfl⟩, Nat.le_of_ble_eq_true rfl, Nat.le_of_ble_eq_true rfl⟩ ⟨Nat.zero_le _, Nat.zero_le _⟩ rfl ?_
    refine aw_if_ne (off := 6) hC 27 Iff.rfl (by decide +kernel) (by decide) (fun h => ?_) (fun h => ?_)
    · have hF := (if_neg h).symm.trans hF
      refine aw_run (pc' := 28) hC [(.aload_n 0, 1, 0, 0, .null)] (by decide +kernel) [(0, .ref 20), (1, .int a1), (2, .int a2)] [.ref 20] σ rfl rfl ⟨trivial, trivial⟩ rfl ?_
      obtain ⟨q1, eq1, hF⟩ := bd hF
      refine aw_callV hC hA (rest := []) (c_mo_canReach N σ q1 eq1) mt_X7_canReach ln_7_256 (by decide +kernel) ⟨_, rfl⟩ rfl rfl (Nat.le_of_ble_eq_true rfl) ⟨⟨rfl, rfl⟩, Nat.le_of_ble_eq_true rfl, Nat.le_of_ble_eq_true rfl⟩ ⟨Nat.zero_le _, Nat.zero_le _⟩ rfl ?_
      refine aw_if_ne (off := 6) hC 37 Iff.rfl (by decide +kernel) (by decide) (fun h => ?_) (fun h => ?_)
      · have hF := (if_neg h).symm.trans hF
        refine aw_run (pc' := 38) hC [(.iload_n 2, 1, 0, 0, .null)] (by decide +kernel) [(0, .ref 20), (1, .int a1), (2, .int a2)] [.int a2] σ rfl rfl ⟨trivial, trivial⟩ rfl ?_
        refine aw_if_ne (off := 11) hC 49 Iff.rfl (by decide +kernel) (by decide) (fun h => ?_) (fun h => ?_)
        · have hF := (if_neg h).symm.trans hF
          refine aw_run (pc' := 51) hC [(.aload_n 0, 1, 0, 0, .null), (.iload_n 1, 1, 0, 0, .null)] (by decide +kernel) [(0, .ref 20), (1, .int a1), (2, .int a2)] [.int a1, .ref 20] σ rfl rfl ⟨trivial, trivial, trivial⟩ rfl ?_
          obtain ⟨q2, eq2, hF⟩ := bd hF
          refine aw_callV hC hA (rest := []) (c_mo_mostNow N σ a1 q2 eq2) mt_X7_mostNow ln_7_265 (by decide +kernel) ⟨_, rfl⟩ rfl rfl (Nat.le_of_ble_eq_true rfl) ⟨⟨rfl, rfl⟩, Nat.le_of_ble_eq_true rfl, Nat.le_of_ble_eq_true rfl⟩ ⟨Nat.zero_le _, Nat.zero_le _⟩ rfl ?_
          exact aw_iret hC hr (by decide +kernel) (pS1 hF) (pS2 hF)
        · have hF := (if_pos h).symm.trans hF
          refine aw_run (pc' := 43) hC [(.aload_n 0, 1, 0, 0, .null), (.iload_n 1, 1, 0, 0, .null)] (by decide +kernel) [(0, .ref 20), (1, .int a1), (2, .int a2)] [.int a1, .ref 20] σ rfl rfl ⟨trivial, trivial, trivial⟩ rfl ?_
          obtain ⟨q3, eq3, hF⟩ := bd hF
          refine aw_callV hC hA (rest := []) (c_mo_sureNow N σ a1 q3 eq3) mt_X7_sureNow ln_7_262 (by decide +kernel) ⟨_, rfl⟩ rfl rfl (Nat.le_of_ble_eq_true rfl) ⟨⟨rfl, rfl⟩, Nat.le_of_ble_eq_true rfl, Nat.le_of_ble_eq_true rfl⟩ ⟨Nat.zero_le _, Nat.zero_le _⟩ rfl ?_
          refine aw_goto (off := 8) hC 54 (by decide +kernel) (by decide) ?_
          exact aw_iret hC hr (by decide +kernel) (pS1 hF) (pS2 hF)
      · have hF := (if_pos h).symm.trans hF
        refine aw_run (pc' := 36) hC [(.ldc 105, 2, 0, 0, .int (-100000004))] (by decide +kernel) [(0, .ref 20), (1, .int a1), (2, .int a2)] [.int (-100000004)] σ rfl rfl ⟨trivial, trivial⟩ rfl ?_
        exact aw_iret hC hr (by decide +kernel) (pS1 hF) (pS2 hF)
    · have hF := (if_pos h).symm.trans hF
      refine aw_run (pc' := 26) hC [(.ldc 54, 2, 0, 0, .int (-100000003))] (by decide +kernel) [(0, .ref 20), (1, .int a1), (2, .int a2)] [.int (-100000003)] σ rfl rfl ⟨trivial, trivial⟩ rfl ?_
      exact aw_iret hC hr (by decide +kernel) (pS1 hF) (pS2 hF)
def f_mo_howMany (N : Nat) (σ : Sg) (a1 : Int32) : Option Int32 := if a1 = 0 then (some (σ.1 20 2)) else (if a1 = 1 then ((f_mo_hits N σ).bind fun q1 => some ((σ.1 20 2) - q1)) else (if a1 = 2 then (some (σ.1 20 0)) else (if a1 = 3 then (some (σ.1 20 8)) else (if a1 = 4 then (some (σ.1 20 9)) else (if a1 = 5 then (some (σ.1 20 10)) else (some (-100000003)))))))
def rm_mo_howMany : Room := { frames := 1, cells := 0, slots := 0, locals := 22 }
set_option maxHeartbeats 4000000 in
set_option maxRecDepth 100000 in
theorem c_mo_howMany (N : Nat) (σ : Sg) (a1 : Int32) (z : Int32) (hF : f_mo_howMany N σ a1 = some z) : Ctr yX7_howMany cX7_howMany 2 (some .int) rm_mo_howMany [.ref 20, .int a1] σ (some (.int z)) σ := by
  refine ct_start 7 (by decide) rfl (fun ad => Nat.le_of_ble_eq_true rfl) [(0, .ref 20), (1, .int a1)] (fun ad => rfl) ?_
  intro p l e s m args below meth c D ad tc A hC hA hr
  unfold f_mo_howMany at hF
  refine aw_run (pc' := 1) hC [(.iload_n 1, 1, 0, 0, .null)] (by decide +kernel) [(0, .ref 20), (1, .int a1)] [.int a1] σ rfl rfl ⟨trivial, trivial⟩ rfl ?_
  by_cases h1_0 : a1 = 0
  · have hF := (if_pos h1_0).symm.trans hF
    refine aw_tabIn (dflt := 74) (lo := 0) (hi := 5) (offs := #[39, 44, 54, 59, 64, 69]) (len := 39) hC 39 40 h1_0 (by decide +kernel) (by decide) (by decide) (by decide) (by decide) ?_
    refine aw_run (pc' := 44) hC [(.aload_n 0, 1, 0, 0, .null), (.getfield 98, 3, 7, 2, .null)] (by decide +kernel) [(0, .ref 20), (1, .int a1)] [.int (σ.1 20 2)] σ rfl rfl ⟨trivial, trivial, trivial⟩ rfl ?_
    exact aw_iret hC hr (by decide +kernel) (Option.some.inj hF) rfl
  · have hF := (if_neg h1_0).symm.trans hF
    by_cases h1_1 : a1 = 1
    · have hF := (if_pos h1_1).symm.trans hF
      refine aw_tabIn (dflt := 74) (lo := 0) (hi := 5) (offs := #[39, 44, 54, 59, 64, 69]) (len := 39) hC 44 45 h1_1 (by decide +kernel) (by decide) (by decide) (by decide) (by decide) ?_
      refine aw_run (pc' := 50) hC [(.aload_n 0, 1, 0, 0, .null), (.getfield 98, 3, 7, 2, .null), (.aload_n 0, 1, 0, 0, .null)] (by decide +kernel) [(0, .ref 20), (1, .int a1)] [.ref 20, .int (σ.1 20 2)] σ rfl rfl ⟨trivial, trivial, trivial, trivial⟩ rfl ?_
      obtain ⟨q1, eq1, hF⟩ := bd hF
      refine aw_callV hC hA (rest := [.int (σ.1 20 2)]) (c_mo_hits N σ q1 eq1) mt_X7_hits ln_7_253 (by decide +kernel) ⟨_, rfl⟩ rfl rfl (Nat.le_of_ble_eq_true rfl) ⟨⟨rfl, rfl⟩, Nat.le_of_ble_eq_true rfl, Nat.le_of_ble_eq_true rfl⟩ ⟨Nat.zero_le _, Nat.zero_le _⟩ rfl ?_
      refine aw_run (pc' := 54) hC [(.isub, 1, 0, 0, .null)] (by decide +kernel) [(0, .ref 20), (1, .int a1)] [.int ((σ.1 20 2) - q1)] σ rfl rfl ⟨trivial, trivial⟩ rfl ?_
      exact aw_iret hC hr (by decide +kernel) (Option.some.inj hF) rfl
    · have hF := (if_neg h1_1).symm.trans hF
      by_cases h1_2 : a1 = 2
      · have hF := (if_pos h1_2).symm.trans hF
        refine aw_tabIn (dflt := 74) (lo := 0) (hi := 5) (offs := #[39, 44, 54, 59, 64, 69]) (len := 39) hC 54 55 h1_2 (by decide +kernel) (by decide) (by decide) (by decide) (by decide) ?_
        refine aw_run (pc' := 59) hC [(.aload_n 0, 1, 0, 0, .null), (.getfield 55, 3, 7, 0, .null)] (by decide +kernel) [(0, .ref 20), (1, .int a1)] [.int (σ.1 20 0)] σ rfl rfl ⟨trivial, trivial, trivial⟩ rfl ?_
        exact aw_iret hC hr (by decide +kernel) (Option.some.inj hF) rfl
      · have hF := (if_neg h1_2).symm.trans hF
        by_cases h1_3 : a1 = 3
        · have hF := (if_pos h1_3).symm.trans hF
          refine aw_tabIn (dflt := 74) (lo := 0) (hi := 5) (offs := #[39, 44, 54, 59, 64, 69]) (len := 39) hC 59 60 h1_3 (by decide +kernel) (by decide) (by decide) (by decide) (by decide) ?_
          refine aw_run (pc' := 64) hC [(.aload_n 0, 1, 0, 0, .null), (.getfield 29, 3, 7, 8, .null)] (by decide +kernel) [(0, .ref 20), (1, .int a1)] [.int (σ.1 20 8)] σ rfl rfl ⟨trivial, trivial, trivial⟩ rfl ?_
          exact aw_iret hC hr (by decide +kernel) (Option.some.inj hF) rfl
        · have hF := (if_neg h1_3).symm.trans hF
          by_cases h1_4 : a1 = 4
          · have hF := (if_pos h1_4).symm.trans hF
            refine aw_tabIn (dflt := 74) (lo := 0) (hi := 5) (offs := #[39, 44, 54, 59, 64, 69]) (len := 39) hC 64 65 h1_4 (by decide +kernel) (by decide) (by decide) (by decide) (by decide) ?_
            refine aw_run (pc' := 69) hC [(.aload_n 0, 1, 0, 0, .null), (.getfield 106, 3, 7, 9, .null)] (by decide +kernel) [(0, .ref 20), (1, .int a1)] [.int (σ.1 20 9)] σ rfl rfl ⟨trivial, trivial, trivial⟩ rfl ?_
            exact aw_iret hC hr (by decide +kernel) (Option.some.inj hF) rfl
          · have hF := (if_neg h1_4).symm.trans hF
            by_cases h1_5 : a1 = 5
            · have hF := (if_pos h1_5).symm.trans hF
              refine aw_tabIn (dflt := 74) (lo := 0) (hi := 5) (offs := #[39, 44, 54, 59, 64, 69]) (len := 39) hC 69 70 h1_5 (by decide +kernel) (by decide) (by decide) (by decide) (by decide) ?_
              refine aw_run (pc' := 74) hC [(.aload_n 0, 1, 0, 0, .null), (.getfield 113, 3, 7, 10, .null)] (by decide +kernel) [(0, .ref 20), (1, .int a1)] [.int (σ.1 20 10)] σ rfl rfl ⟨trivial, trivial, trivial⟩ rfl ?_
              exact aw_iret hC hr (by decide +kernel) (Option.some.inj hF) rfl
            · have hF := (if_neg h1_5).symm.trans hF
              refine aw_tabOut (dflt := 74) (lo := 0) (hi := 5) (offs := #[39, 44, 54, 59, 64, 69]) (len := 39) hC 75 (by decide +kernel) (by have q0 := tn h1_0 (k := 0) (by decide); have q1 := tn h1_1 (k := 1) (by decide); have q2 := tn h1_2 (k := 2) (by decide); have q3 := tn h1_3 (k := 3) (by decide); have q4 := tn h1_4 (k := 4) (by decide); have q5 := tn h1_5 (k := 5) (by decide); omega) (by decide) ?_
              refine aw_run (pc' := 77) hC [(.ldc 54, 2, 0, 0, .int (-100000003))] (by decide +kernel) [(0, .ref 20), (1, .int a1)] [.int (-100000003)] σ rfl rfl ⟨trivial, trivial⟩ rfl ?_
              exact aw_iret hC hr (by decide +kernel) (Option.some.inj hF) rfl
