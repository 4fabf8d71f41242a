def f_jm_max_f86c9 (a0 : Int64) (a2 : Int64) : Int64 := if a0 < a2 then a2 else a0
def rm_jm_max_f86c9 : Room := { frames := 0, cells := 0, slots := 0, locals := 0 }
set_option maxHeartbeats 4000000 in
set_option maxRecDepth 100000 in
theorem c_jm_max_f86c9 (σ : Sg) (a0 : Int64) (a2 : Int64) (z : Int64) (hF : f_jm_max_f86c9 a0 a2 = z) : Ctr yJ9_max_f86c9 cJ9_max_f86c9 4 (some .long) rm_jm_max_f86c9 [.long a0, .long a2] σ (some (.long z)) σ := by
  refine ct_startJ 9 pf_J9_max_f86c9 rfl (fun ad => Nat.le_of_ble_eq_true rfl) [(0, .long a0), (2, .long a2)] (fun ad => rfl) ?_
  intro p l e s m args below meth c D ad tc A hC hA hr
  unfold f_jm_max_f86c9 at hF
  refine aw_run (pc' := 3) hC [(.lload_n 0, 1, 0, 0, .null), (.lload_n 2, 1, 0, 0, .null), (.lcmp, 1, 0, 0, .null)] (by decide +kernel) [(0, .long a0), (2, .long a2)] [.int (lg_cmp a0 a2)] σ rfl rfl ⟨trivial, trivial, trivial, trivial⟩ rfl ?_
  refine aw_if_lt (off := 7) hC 10 (lc_lt _ _) (by decide +kernel) (by decide) (fun h => ?_) (fun h => ?_)
  · have hF := (if_pos h).symm.trans hF
    refine aw_run (pc' := 11) hC [(.lload_n 2, 1, 0, 0, .null)] (by decide +kernel) [(0, .long a0), (2, .long a2)] [.long a2] σ rfl rfl ⟨trivial, trivial⟩ rfl ?_
    exact aw_lret hC hr (by decide +kernel) hF rfl
  · have hF := (if_neg h).symm.trans hF
    refine aw_run (pc' := 7) hC [(.lload_n 0, 1, 0, 0, .null)] (by decide +kernel) [(0, .long a0), (2, .long a2)] [.long a0] σ rfl rfl ⟨trivial, trivial⟩ rfl ?_
    refine aw_goto (off := 4) hC 11 (by decide +kernel) (by decide) ?_
    exact aw_lret hC hr (by decide +kernel) hF rfl
def f_hu_widthSquare_c41_s (N : Nat) (kc41 : Int32 → Int32 → Int32 → Int64 → Int32 → Sg → Option Int64) (a1 : Int32) (a3 : Int32) (a4 : Int32) (a5 : Int64) (a7 : Int32) (σ : Sg) : Option Int64 := if (σ.1 12 5) ≤ a7 then (if 0 < (f_hu_square a3 a4) then (if ¬ (f_hu_square a3 a4).toInt64 = 0 then some ((a5 * a5) / (f_hu_square a3 a4).toInt64) else none) else (some 0)) else (if ib a7 16 then if ib a1 16 then kc41 a1 a3 a4 (f_jm_max_f86c9 a5 ((a3.toInt64 * ((σ.1 16 a7.toNatClampNeg) - (σ.1 16 a1.toNatClampNeg)).toInt64) - (a4.toInt64 * ((σ.1 15 a7.toNatClampNeg) - (σ.1 15 a1.toNatClampNeg)).toInt64))) (a7 + 1) σ else none else none)
def f_hu_widthSquare_c41 (N : Nat) : Nat → Int32 → Int32 → Int32 → Int64 → Int32 → Sg → Option Int64
  | 0 => fun _ _ _ _ _ _ => none
  | n + 1 => f_hu_widthSquare_c41_s N (f_hu_widthSquare_c41 N n)
def f_hu_widthSquare (N : Nat) (σ : Sg) (a1 : Int32) : Option Int64 := if ib (f_hu_after σ a1) 16 then if ib a1 16 then f_hu_widthSquare_c41 N N a1 ((σ.1 15 (f_hu_after σ a1).toNatClampNeg) - (σ.1 15 a1.toNatClampNeg)) ((σ.1 16 (f_hu_after σ a1).toNatClampNeg) - (σ.1 16 a1.toNatClampNeg)) 0 0 σ else none else none
def rm_hu_widthSquare : Room := { frames := 1, cells := 0, slots := 0, locals := 23 }
set_option maxHeartbeats 4000000 in
set_option maxRecDepth 100000 in
theorem c_hu_widthSquare (N : Nat) (σ : Sg) (a1 : Int32) (z : Int64) (hF : f_hu_widthSquare N σ a1 = some z) : Ctr yX1_widthSquare cX1_widthSquare 8 (some .long) rm_hu_widthSquare [.ref 12, .int a1] σ (some (.long z)) σ := by
  refine ct_start 1 (by decide) rfl (fun ad => Nat.le_of_ble_eq_true rfl) [(0, .ref 12), (1, .int a1)] (fun ad => rfl) ?_
  intro p l e s m args below meth c D ad tc A hC hA hr
  have Jc41 : ∀ (n : Nat) (a1 : Int32) (a3 : Int32) (a4 : Int32) (a5 : Int64) (a7 : Int32), f_hu_widthSquare_c41 N n a1 a3 a4 a5 a7 σ = some z → AW p l e rm_hu_widthSquare s m args below meth c D ad tc 8 A s.heap 0 0 (MQ below (Qr (some (.long z)) D ad tc σ A) args s 0 0 A) 41 [(0, .ref 12), (1, .int a1), (3, .int a3), (4, .int a4), (5, .long a5), (7, .int a7)] [] σ := by
    intro n
    induction n with
    | zero =>
      intro a1 a3 a4 a5 a7 hF
      cases hF
    | succ n ih =>
      intro a1 a3 a4 a5 a7 hF
      have hF : f_hu_widthSquare_c41_s N (f_hu_widthSquare_c41 N n) a1 a3 a4 a5 a7 σ = some z := hF
      unfold f_hu_widthSquare_c41_s at hF
      refine aw_run (pc' := 47) hC [(.iload 7, 2, 0, 0, .null), (.aload_n 0, 1, 0, 0, .null), (.getfield 28, 3, 1, 5, .null)] (by decide +kernel) [(0, .ref 12), (1, .int a1), (3, .int a3), (4, .int a4), (5, .long a5), (7, .int a7)] [.int (σ.1 12 5), .int a7] σ rfl rfl ⟨trivial, trivial, trivial, trivial⟩ rfl ?_
      refine aw_icmp_ge (off := 54) hC 101 (by decide +kernel) (by decide) (fun h => ?_) (fun h => ?_)
      · have hF := (if_pos h).symm.trans hF
        refine aw_run (pc' := 104) hC [(.iload_n 3, 1, 0, 0, .null), (.iload 4, 2, 0, 0, .null)] (by decide +kernel) [(0, .ref 12), (1, .int a1), (3, .int a3), (4, .int a4), (5, .long a5), (7, .int a7)] [.int a4, .int a3] σ rfl rfl ⟨trivial, trivial, trivial⟩ rfl ?_
        refine aw_callS hC hA (rest := []) (c_hu_square σ a3 a4 _ rfl) mt_X1_square ln_1_46 (by decide +kernel) rfl rfl (Nat.le_of_ble_eq_true rfl) ⟨⟨rfl, rfl⟩, Nat.le_of_ble_eq_true rfl, Nat.le_of_ble_eq_true rfl⟩ ⟨Nat.zero_le _, Nat.zero_le _⟩ rfl ?_
        refine aw_run (pc' := 111) hC [(.istore 7, 2, 0, 0, .null), (.iload 7, 2, 0, 0, .null)] (by decide +kernel) [(0, .ref 12), (1, .int a1), (3, .int a3), (4, .int a4), (5, .long a5), (7, .int (f_hu_square a3 a4))] [.int (f_hu_square a3 a4)] σ rfl rfl ⟨trivial, trivial, trivial⟩ rfl ?_
        refine aw_if_gt (off := 7) hC 118 Iff.rfl (by decide +kernel) (by decide) (fun h => ?_) (fun h => ?_)
        · have hF := (if_pos h).symm.trans hF
          obtain ⟨g3, hF⟩ := gd hF
          refine aw_run (pc' := 127) hC [(.lload 5, 2, 0, 0, .null), (.lload 5, 2, 0, 0, .null), (.lmul, 1, 0, 0, .null), (.iload 7, 2, 0, 0, .null), (.i2l, 1, 0, 0, .null), (.ldiv, 1, 0, 0, .null)] (by decide +kernel) [(0, .ref 12), (1, .int a1), (3, .int a3), (4, .int a4), (5, .long a5), (7, .int (f_hu_square a3 a4))] [.long ((a5 * a5) / (f_hu_square a3 a4).toInt64)] σ rfl rfl ⟨trivial, trivial, trivial, trivial, trivial, g3, trivial⟩ rfl ?_
          exact aw_lret hC hr (by decide +kernel) (Option.some.inj hF) rfl
        · have hF := (if_neg h).symm.trans hF
          refine aw_run (pc' := 115) hC [(.lconst 0, 1, 0, 0, .long 0)] (by decide +kernel) [(0, .ref 12), (1, .int a1), (3, .int a3), (4, .int a4), (5, .long a5), (7, .int (f_hu_square a3 a4))] [.long 0] σ rfl rfl ⟨trivial, trivial⟩ rfl ?_
          refine aw_goto (off := 12) hC 127 (by decide +kernel) (by decide) ?_
          exact aw_lret hC hr (by decide +kernel) (Option.some.inj hF) rfl
      · have hF := (if_neg h).symm.trans hF
        obtain ⟨g4, hF⟩ := gd hF
        obtain ⟨g5, hF⟩ := gd hF
        refine aw_run (pc' := 90) hC [(.lload 5, 2, 0, 0, .null), (.iload_n 3, 1, 0, 0, .null), (.i2l, 1, 0, 0, .null), (.aload_n 0, 1, 0, 0, .null), (.getfield 21, 3, 1, 4, .null), (.iload 7, 2, 0, 0, .null), (.iaload, 1, 0, 0, .null), (.aload_n 0, 1, 0, 0, .null), (.getfield 21, 3, 1, 4, .null), (.iload_n 1, 1, 0, 0, .null), (.iaload, 1, 0, 0, .null), (.isub, 1, 0, 0, .null), (.i2l, 1, 0, 0, .null), (.lmul, 1, 0, 0, .null), (.iload 4, 2, 0, 0, .null), (.i2l, 1, 0, 0, .null), (.aload_n 0, 1, 0, 0, .null), (.getfield 18, 3, 1, 3, .null), (.iload 7, 2, 0, 0, .null), (.iaload, 1, 0, 0, .null), (.aload_n 0, 1, 0, 0, .null), (.getfield 18, 3, 1, 3, .null), (.iload_n 1, 1, 0, 0, .null), (.iaload, 1, 0, 0, .null), (.isub, 1, 0, 0, .null), (.i2l, 1, 0, 0, .null), (.lmul, 1, 0, 0, .null), (.lsub, 1, 0, 0, .null)] (by decide +kernel) [(0, .ref 12), (1, .int a1), (3, .int a3), (4, .int a4), (5, .long a5), (7, .int a7)] [.long ((a3.toInt64 * ((σ.1 16 a7.toNatClampNeg) - (σ.1 16 a1.toNatClampNeg)).toInt64) - (a4.toInt64 * ((σ.1 15 a7.toNatClampNeg) - (σ.1 15 a1.toNatClampNeg)).toInt64)), .long a5] σ rfl rfl ⟨trivial, trivial, trivial, trivial, trivial, trivial, g4, trivial, trivial, trivial, g5, trivial, trivial, trivial, trivial, trivial, trivial, trivial, trivial, g4, trivial, trivial, trivial, g5, trivial, trivial, trivial, trivial, trivial⟩ rfl ?_
        refine aw_callS hC hA (rest := []) (c_jm_max_f86c9 σ a5 ((a3.toInt64 * ((σ.1 16 a7.toNatClampNeg) - (σ.1 16 a1.toNatClampNeg)).toInt64) - (a4.toInt64 * ((σ.1 15 a7.toNatClampNeg) - (σ.1 15 a1.toNatClampNeg)).toInt64)) _ rfl) mt_J9_max_f86c9 ln_1_84 (by decide +kernel) rfl rfl (Nat.le_of_ble_eq_true rfl) ⟨⟨rfl, rfl⟩, Nat.le_of_ble_eq_true rfl, Nat.le_of_ble_eq_true rfl⟩ ⟨Nat.zero_le _, Nat.zero_le _⟩ rfl ?_
        refine aw_run (pc' := 98) hC [(.lstore 5, 2, 0, 0, .null), (.iinc 7 1, 3, 0, 0, .int 1)] (by decide +kernel) [(0, .ref 12), (1, .int a1), (3, .int a3), (4, .int a4), (5, .long (f_jm_max_f86c9 a5 ((a3.toInt64 * ((σ.1 16 a7.toNatClampNeg) - (σ.1 16 a1.toNatClampNeg)).toInt64) - (a4.toInt64 * ((σ.1 15 a7.toNatClampNeg) - (σ.1 15 a1.toNatClampNeg)).toInt64)))), (7, .int (a7 + 1))] [] σ rfl rfl ⟨trivial, trivial, trivial⟩ rfl ?_
        refine aw_goto (off := -57) hC 41 (by decide +kernel) (by decide) ?_
        exact ih a1 a3 a4 (f_jm_max_f86c9 a5 ((a3.toInt64 * ((σ.1 16 a7.toNatClampNeg) - (σ.1 16 a1.toNatClampNeg)).toInt64) - (a4.toInt64 * ((σ.1 15 a7.toNatClampNeg) - (σ.1 15 a1.toNatClampNeg)).toInt64))) (a7 + 1) hF
  unfold f_hu_widthSquare at hF
  refine aw_run (pc' := 2) hC [(.aload_n 0, 1, 0, 0, .null), (.iload_n 1, 1, 0, 0, .null)] (by decide +kernel) [(0, .ref 12), (1, .int a1)] [.int a1, .ref 12] σ rfl rfl ⟨trivial, trivial, trivial⟩ rfl ?_
  refine aw_callV hC hA (rest := []) (c_hu_after σ a1 _ rfl) mt_X1_after ln_1_43 (by decide +kernel) ⟨_, rfl⟩ rfl rfl (Nat.le_of_ble_eq_true rfl) ⟨⟨rfl, rfl⟩, Nat.le_of_ble_eq_true rfl, Nat.le_of_ble_eq_true rfl⟩ ⟨Nat.zero_le _, Nat.zero_le _⟩ rfl ?_
  obtain ⟨g1, hF⟩ := gd hF
  obtain ⟨g2, hF⟩ := gd hF
  refine aw_run (pc' := 41) hC [(.istore_n 2, 1, 0, 0, .null), (.aload_n 0, 1, 0, 0, .null), (.getfield 18, 3, 1, 3, .null), (.iload_n 2, 1, 0, 0, .null), (.iaload, 1, 0, 0, .null), (.aload_n 0, 1, 0, 0, .null), (.getfield 18, 3, 1, 3, .null), (.iload_n 1, 1, 0, 0, .null), (.iaload, 1, 0, 0, .null), (.isub, 1, 0, 0, .null), (.istore_n 3, 1, 0, 0, .null), (.aload_n 0, 1, 0, 0, .null), (.getfield 21, 3, 1, 4, .null), (.iload_n 2, 1, 0, 0, .null), (.iaload, 1, 0, 0, .null), (.aload_n 0, 1, 0, 0, .null), (.getfield 21, 3, 1, 4, .null), (.iload_n 1, 1, 0, 0, .null), (.iaload, 1, 0, 0, .null), (.isub, 1, 0, 0, .null), (.istore 4, 2, 0, 0, .null), (.lconst 0, 1, 0, 0, .long 0), (.lstore 5, 2, 0, 0, .null), (.iconst 0, 1, 0, 0, .int 0), (.istore 7, 2, 0, 0, .null)] (by decide +kernel) [(0, .ref 12), (1, .int a1), (2, .int (f_hu_after σ a1)), (3, .int ((σ.1 15 (f_hu_after σ a1).toNatClampNeg) - (σ.1 15 a1.toNatClampNeg))), (4, .int ((σ.1 16 (f_hu_after σ a1).toNatClampNeg) - (σ.1 16 a1.toNatClampNeg))), (5, .long 0), (7, .int 0)] [] σ rfl rfl ⟨trivial, trivial, trivial, trivial, g1, trivial, trivial, trivial, g2, trivial, trivial, trivial, trivial, trivial, g1, trivial, trivial, trivial, g2, trivial, trivial, trivial, trivial, trivial, trivial, trivial⟩ rfl ?_
  refine aw_pick [0, 1, 3, 4, 5, 6] [(0, .ref 12), (1, .int a1), (3, .int ((σ.1 15 (f_hu_after σ a1).toNatClampNeg) - (σ.1 15 a1.toNatClampNeg))), (4, .int ((σ.1 16 (f_hu_after σ a1).toNatClampNeg) - (σ.1 16 a1.toNatClampNeg))), (5, .long 0), (7, .int 0)] rfl ?_
  exact Jc41 N a1 ((σ.1 15 (f_hu_after σ a1).toNatClampNeg) - (σ.1 15 a1.toNatClampNeg)) ((σ.1 16 (f_hu_after σ a1).toNatClampNeg) - (σ.1 16 a1.toNatClampNeg)) 0 0 hF
def f_jm_min_f86c9 (a0 : Int64) (a2 : Int64) : Int64 := if a2 < a0 then a2 else a0
def rm_jm_min_f86c9 : Room := { frames := 0, cells := 0, slots := 0, locals := 0 }
set_option maxHeartbeats 4000000 in
set_option maxRecDepth 100000 in
theorem c_jm_min_f86c9 (σ : Sg) (a0 : Int64) (a2 : Int64) (z : Int64) (hF : f_jm_min_f86c9 a0 a2 = z) : Ctr yJ9_min_f86c9 cJ9_min_f86c9 4 (some .long) rm_jm_min_f86c9 [.long a0, .long a2] σ (some (.long z)) σ := by
  refine ct_startJ 9 pf_J9_min_f86c9 rfl (fun ad => Nat.le_of_ble_eq_true rfl) [(0, .long a0), (2, .long a2)] (fun ad => rfl) ?_
  intro p l e s m args below meth c D ad tc A hC hA hr
  unfold f_jm_min_f86c9 at hF
  refine aw_run (pc' := 3) hC [(.lload_n 0, 1, 0, 0, .null), (.lload_n 2, 1, 0, 0, .null), (.lcmp, 1, 0, 0, .null)] (by decide +kernel) [(0, .long a0), (2, .long a2)] [.int (lg_cmp a0 a2)] σ rfl rfl ⟨trivial, trivial, trivial, trivial⟩ rfl ?_
  refine aw_if_gt (off := 7) hC 10 (lc_gt _ _) (by decide +kernel) (by decide) (fun h => ?_) (fun h => ?_)
  · have hF := (if_pos h).symm.trans hF
    refine aw_run (pc' := 11) hC [(.lload_n 2, 1, 0, 0, .null)] (by decide +kernel) [(0, .long a0), (2, .long a2)] [.long a2] σ rfl rfl ⟨trivial, trivial⟩ rfl ?_
    exact aw_lret hC hr (by decide +kernel) hF rfl
  · have hF := (if_neg h).symm.trans hF
    refine aw_run (pc' := 7) hC [(.lload_n 0, 1, 0, 0, .null)] (by decide +kernel) [(0, .long a0), (2, .long a2)] [.long a0] σ rfl rfl ⟨trivial, trivial⟩ rfl ?_
    refine aw_goto (off := 4) hC 11 (by decide +kernel) (by decide) ?_
    exact aw_lret hC hr (by decide +kernel) hF rfl
def f_hu_leastWidthSquare_c18_s (N : Nat) (kc18 : Int64 → Int32 → Sg → Option Int32) (a1 : Int64) (a3 : Int32) (σ : Sg) : Option Int32 := if (σ.1 12 5) ≤ a3 then (some a1.toInt32) else ((f_hu_widthSquare N σ a3).bind fun q2 => kc18 (f_jm_min_f86c9 a1 q2) (a3 + 1) σ)
def f_hu_leastWidthSquare_c18 (N : Nat) : Nat → Int64 → Int32 → Sg → Option Int32
  | 0 => fun _ _ _ => none
  | n + 1 => f_hu_leastWidthSquare_c18_s N (f_hu_leastWidthSquare_c18 N n)
def f_hu_leastWidthSquare (N : Nat) (σ : Sg) : Option Int32 := if (3 : Int32) ≤ (σ.1 12 5) then ((f_hu_widthSquare N σ 0).bind fun q1 => f_hu_leastWidthSquare_c18 N N q1 1 σ) else (some 0)
def rm_hu_leastWidthSquare : Room := { frames := 2, cells := 0, slots := 0, locals := 50 }
set_option maxHeartbeats 4000000 in
set_option maxRecDepth 100000 in
theorem c_hu_leastWidthSquare (N : Nat) (σ : Sg) (z : Int32) (hF : f_hu_leastWidthSquare N σ = some z) : Ctr yX1_leastWidthSquare cX1_leastWidthSquare 4 (some .int) rm_hu_leastWidthSquare [.ref 12] σ (some (.int z)) σ := by
  refine ct_start 1 (by decide) rfl (fun ad => Nat.le_of_ble_eq_true rfl) [(0, .ref 12)] (fun ad => rfl) ?_
  intro p l e s m args below meth c D ad tc A hC hA hr
  have Jc18 : ∀ (n : Nat) (a1 : Int64) (a3 : Int32), f_hu_leastWidthSquare_c18 N n a1 a3 σ = some z → AW p l e rm_hu_leastWidthSquare s m args below meth c D ad tc 4 A s.heap 0 0 (MQ below (Qr (some (.int z)) D ad tc σ A) args s 0 0 A) 18 [(0, .ref 12), (1, .long a1), (3, .int a3)] [] σ := by
    intro n
    induction n with
    | zero =>
      intro a1 a3 hF
      cases hF
    | succ n ih =>
      intro a1 a3 hF
      have hF : f_hu_leastWidthSquare_c18_s N (f_hu_leastWidthSquare_c18 N n) a1 a3 σ = some z := hF
      unfold f_hu_leastWidthSquare_c18_s at hF
      refine aw_run (pc' := 23) hC [(.iload_n 3, 1, 0, 0, .null), (.aload_n 0, 1, 0, 0, .null), (.getfield 28, 3, 1, 5, .null)] (by decide +kernel) [(0, .ref 12), (1, .long a1), (3, .int a3)] [.int (σ.1 12 5), .int a3] σ rfl rfl ⟨trivial, trivial, trivial, trivial⟩ rfl ?_
      refine aw_icmp_ge (off := 19) hC 42 (by decide +kernel) (by decide) (fun h => ?_) (fun h => ?_)
      · have hF := (if_pos h).symm.trans hF
        refine aw_run (pc' := 44) hC [(.lload_n 1, 1, 0, 0, .null), (.l2i, 1, 0, 0, .null)] (by decide +kernel) [(0, .ref 12), (1, .long a1), (3, .int a3)] [.int a1.toInt32] σ rfl rfl ⟨trivial, trivial, trivial⟩ rfl ?_
        exact aw_iret hC hr (by decide +kernel) (Option.some.inj hF) rfl
      · have hF := (if_neg h).symm.trans hF
        refine aw_run (pc' := 29) hC [(.lload_n 1, 1, 0, 0, .null), (.aload_n 0, 1, 0, 0, .null), (.iload_n 3, 1, 0, 0, .null)] (by decide +kernel) [(0, .ref 12), (1, .long a1), (3, .int a3)] [.int a3, .ref 12, .long a1] σ rfl rfl ⟨trivial, trivial, trivial, trivial⟩ rfl ?_
        obtain ⟨q2, eq2, hF⟩ := bd hF
        refine aw_callV hC hA (rest := [.long a1]) (c_hu_widthSquare N σ a3 q2 eq2) mt_X1_widthSquare ln_1_55 (by decide +kernel) ⟨_, rfl⟩ rfl rfl (Nat.le_of_ble_eq_true rfl) ⟨⟨rfl, rfl⟩, Nat.le_of_ble_eq_true rfl, Nat.le_of_ble_eq_true rfl⟩ ⟨Nat.zero_le _, Nat.zero_le _⟩ rfl ?_
        refine aw_callS hC hA (rest := []) (c_jm_min_f86c9 σ a1 q2 _ rfl) mt_J9_min_f86c9 ln_1_59 (by decide +kernel) rfl rfl (Nat.le_of_ble_eq_true rfl) ⟨⟨rfl, rfl⟩, Nat.le_of_ble_eq_true rfl, Nat.le_of_ble_eq_true rfl⟩ ⟨Nat.zero_le _, Nat.zero_le _⟩ rfl ?_
        refine aw_run (pc' := 39) hC [(.lstore_n 1, 1, 0, 0, .null), (.iinc 3 1, 3, 0, 0, .int 1)] (by decide +kernel) [(0, .ref 12), (1, .long (f_jm_min_f86c9 a1 q2)), (3, .int (a3 + 1))] [] σ rfl rfl ⟨trivial, trivial, trivial⟩ rfl ?_
        refine aw_goto (off := -21) hC 18 (by decide +kernel) (by decide) ?_
        exact ih (f_jm_min_f86c9 a1 q2) (a3 + 1) hF
  unfold f_hu_leastWidthSquare at hF
  refine aw_run (pc' := 5) hC [(.aload_n 0, 1, 0, 0, .null), (.getfield 28, 3, 1, 5, .null), (.iconst 3, 1, 0, 0, .int 3)] (by decide +kernel) [(0, .ref 12)] [.int 3, .int (σ.1 12 5)] σ rfl rfl ⟨trivial, trivial, trivial, trivial⟩ rfl ?_
  refine aw_icmp_ge (off := 5) hC 10 (by decide +kernel) (by decide) (fun h => ?_) (fun h => ?_)
  · have hF := (if_pos h).symm.trans hF
    refine aw_run (pc' := 12) hC [(.aload_n 0, 1, 0, 0, .null), (.iconst 0, 1, 0, 0, .int 0)] (by decide +kernel) [(0, .ref 12)] [.int 0, .ref 12] σ rfl rfl ⟨trivial, trivial, trivial⟩ rfl ?_
    obtain ⟨q1, eq1, hF⟩ := bd hF
    refine aw_callV hC hA (rest := []) (c_hu_widthSquare N σ 0 q1 eq1) mt_X1_widthSquare ln_1_55 (by decide +kernel) ⟨_, rfl⟩ rfl rfl (Nat.le_of_ble_eq_true rfl) ⟨⟨rfl, rfl⟩, Nat.le_of_ble_eq_true rfl, Nat.le_of_ble_eq_true rfl⟩ ⟨Nat.zero_le _, Nat.zero_le _⟩ rfl ?_
    refine aw_run (pc' := 18) hC [(.lstore_n 1, 1, 0, 0, .null), (.iconst 1, 1, 0, 0, .int 1), (.istore_n 3, 1, 0, 0, .null)] (by decide +kernel) [(0, .ref 12), (1, .long q1), (3, .int 1)] [] σ rfl rfl ⟨trivial, trivial, trivial, trivial⟩ rfl ?_
    exact Jc18 N q1 1 hF
  · have hF := (if_neg h).symm.trans hF
    refine aw_run (pc' := 9) hC [(.iconst 0, 1, 0, 0, .int 0)] (by decide +kernel) [(0, .ref 12)] [.int 0] σ rfl rfl ⟨trivial, trivial⟩ rfl ?_
    exact aw_iret hC hr (by decide +kernel) (Option.some.inj hF) rfl
def f_ss_kernel (N : Nat) (σ : Sg) (a1 : Int32) : Option Int32 := if a1 < 0 then (some (-100000003)) else (if a1 ≤ 3 then (if (f_ss_allFit σ) = 0 then (some (-100000004)) else (if a1 = 0 then (some (σ.1 12 5)) else (if a1 = 1 then ((f_hu_doubleArea N σ).bind fun q1 => some q1) else (if a1 = 2 then ((f_hu_longestSquare N σ).bind fun q2 => some q2) else ((f_hu_leastWidthSquare N σ).bind fun q3 => some q3))))) else (some (-100000003)))
def rm_ss_kernel : Room := { frames := 3, cells := 0, slots := 0, locals := 73 }
set_option maxHeartbeats 4000000 in
set_option maxRecDepth 100000 in
theorem c_ss_kernel (N : Nat) (σ : Sg) (a1 : Int32) (z : Int32) (hF : f_ss_kernel N σ a1 = some z) : Ctr yX6_kernel cX6_kernel 2 (some .int) rm_ss_kernel [.ref 0, .int a1] σ (some (.int z)) σ := by
  refine ct_start 6 (by decide) rfl (fun ad => Nat.le_of_ble_eq_true rfl) [(0, .ref 0), (1, .int a1)] (fun ad => rfl) ?_
  intro p l e s m args below meth c D ad tc A hC hA hr
  unfold f_ss_kernel at hF
  refine aw_run (pc' := 1) hC [(.iload_n 1, 1, 0, 0, .null)] (by decide +kernel) [(0, .ref 0), (1, .int a1)] [.int a1] σ rfl rfl ⟨trivial, trivial⟩ rfl ?_
  refine aw_if_lt (off := 8) hC 9 Iff.rfl (by decide +kernel) (by decide) (fun h => ?_) (fun h => ?_)
  · have hF := (if_pos h).symm.trans hF
    refine aw_run (pc' := 11) hC [(.ldc 48, 2, 0, 0, .int (-100000003))] (by decide +kernel) [(0, .ref 0), (1, .int a1)] [.int (-100000003)] σ rfl rfl ⟨trivial, trivial⟩ rfl ?_
    exact aw_iret hC hr (by decide +kernel) (Option.some.inj hF) rfl
  · have hF := (if_neg h).symm.trans hF
    refine aw_run (pc' := 6) hC [(.iload_n 1, 1, 0, 0, .null), (.iconst 3, 1, 0, 0, .int 3)] (by decide +kernel) [(0, .ref 0), (1, .int a1)] [.int 3, .int a1] σ rfl rfl ⟨trivial, trivial, trivial⟩ rfl ?_
    refine aw_icmp_le (off := 6) hC 12 (by decide +kernel) (by decide) (fun h => ?_) (fun h => ?_)
    · have hF := (if_pos h).symm.trans hF
      refine aw_run (pc' := 13) hC [(.aload_n 0, 1, 0, 0, .null)] (by decide +kernel) [(0, .ref 0), (1, .int a1)] [.ref 0] σ rfl rfl ⟨trivial, trivial⟩ rfl ?_
      refine aw_callV hC hA (rest := []) (c_ss_allFit σ _ rfl) mt_X6_allFit ln_6_132 (by decide +kernel) ⟨_, rfl⟩ rfl rfl (Nat.le_of_ble_eq_true rfl) ⟨⟨rfl, rfl⟩, Nat.le_of_ble_eq_true rfl, Nat.le_of_ble_eq_true rfl⟩ ⟨Nat.zero_le _, Nat.zero_le _⟩ rfl ?_
      refine aw_if_ne (off := 6) hC 22 Iff.rfl (by decide +kernel) (by decide) (fun h => ?_) (fun h => ?_)
      · have hF := (if_neg h).symm.trans hF
        refine aw_run (pc' := 23) hC [(.iload_n 1, 1, 0, 0, .null)] (by decide +kernel) [(0, .ref 0), (1, .int a1)] [.int a1] σ rfl rfl ⟨trivial, trivial⟩ rfl ?_
        by_cases h23_0 : a1 = 0
        · have hF := (if_pos h23_0).symm.trans hF
          refine aw_tabIn (dflt := 49) (lo := 0) (hi := 2) (offs := #[25, 33, 41]) (len := 25) hC 25 48 h23_0 (by decide +kernel) (by decide) (by decide) (by decide) (by decide) ?_
          refine aw_run (pc' := 55) hC [(.aload_n 0, 1, 0, 0, .null), (.getfield 37, 3, 6, 4, .null), (.getfield 138, 3, 1, 5, .null)] (by decide +kernel) [(0, .ref 0), (1, .int a1)] [.int (σ.1 12 5)] σ rfl rfl ⟨trivial, trivial, trivial, trivial⟩ rfl ?_
          exact aw_iret hC hr (by decide +kernel) (Option.some.inj hF) rfl
        · have hF := (if_neg h23_0).symm.trans hF
          by_cases h23_1 : a1 = 1
          · have hF := (if_pos h23_1).symm.trans hF
            refine aw_tabIn (dflt := 49) (lo := 0) (hi := 2) (offs := #[25, 33, 41]) (len := 25) hC 33 56 h23_1 (by decide +kernel) (by decide) (by decide) (by decide) (by decide) ?_
            refine aw_run (pc' := 60) hC [(.aload_n 0, 1, 0, 0, .null), (.getfield 37, 3, 6, 4, .null)] (by decide +kernel) [(0, .ref 0), (1, .int a1)] [.ref 12] σ rfl rfl ⟨trivial, trivial, trivial⟩ rfl ?_
            obtain ⟨q1, eq1, hF⟩ := bd hF
            refine aw_callV hC hA (rest := []) (c_hu_doubleArea N σ q1 eq1) mt_X1_doubleArea ln_6_139 (by decide +kernel) ⟨_, rfl⟩ rfl rfl (Nat.le_of_ble_eq_true rfl) ⟨⟨rfl, rfl⟩, Nat.le_of_ble_eq_true rfl, Nat.le_of_ble_eq_true rfl⟩ ⟨Nat.zero_le _, Nat.zero_le _⟩ rfl ?_
            exact aw_iret hC hr (by decide +kernel) (Option.some.inj hF) rfl
          · have hF := (if_neg h23_1).symm.trans hF
            by_cases h23_2 : a1 = 2
            · have hF := (if_pos h23_2).symm.trans hF
              refine aw_tabIn (dflt := 49) (lo := 0) (hi := 2) (offs := #[25, 33, 41]) (len := 25) hC 41 64 h23_2 (by decide +kernel) (by decide) (by decide) (by decide) (by decide) ?_
              refine aw_run (pc' := 68) hC [(.aload_n 0, 1, 0, 0, .null), (.getfield 37, 3, 6, 4, .null)] (by decide +kernel) [(0, .ref 0), (1, .int a1)] [.ref 12] σ rfl rfl ⟨trivial, trivial, trivial⟩ rfl ?_
              obtain ⟨q2, eq2, hF⟩ := bd hF
              refine aw_callV hC hA (rest := []) (c_hu_longestSquare N σ q2 eq2) mt_X1_longestSquare ln_6_142 (by decide +kernel) ⟨_, rfl⟩ rfl rfl (Nat.le_of_ble_eq_true rfl) ⟨⟨rfl, rfl⟩, Nat.le_of_ble_eq_true rfl, Nat.le_of_ble_eq_true rfl⟩ ⟨Nat.zero_le _, Nat.zero_le _⟩ rfl ?_
              exact aw_iret hC hr (by decide +kernel) (Option.some.inj hF) rfl
            · have hF := (if_neg h23_2).symm.trans hF
              refine aw_tabOut (dflt := 49) (lo := 0) (hi := 2) (offs := #[25, 33, 41]) (len := 25) hC 72 (by decide +kernel) (by have q0 := tn h23_0 (k := 0) (by decide); have q1 := tn h23_1 (k := 1) (by decide); have q2 := tn h23_2 (k := 2) (by decide); omega) (by decide) ?_
              refine aw_run (pc' := 76) hC [(.aload_n 0, 1, 0, 0, .null), (.getfield 37, 3, 6, 4, .null)] (by decide +kernel) [(0, .ref 0), (1, .int a1)] [.ref 12] σ rfl rfl ⟨trivial, trivial, trivial⟩ rfl ?_
              obtain ⟨q3, eq3, hF⟩ := bd hF
              refine aw_callV hC hA (rest := []) (c_hu_leastWidthSquare N σ q3 eq3) mt_X1_leastWidthSquare ln_6_145 (by decide +kernel) ⟨_, rfl⟩ rfl rfl (Nat.le_of_ble_eq_true rfl) ⟨⟨rfl, rfl⟩, Nat.le_of_ble_eq_true rfl, Nat.le_of_ble_eq_true rfl⟩ ⟨Nat.zero_le _, Nat.zero_le _⟩ rfl ?_
              exact aw_iret hC hr (by decide +kernel) (Option.some.inj hF) rfl
      · have hF := (if_pos h).symm.trans hF
        refine aw_run (pc' := 21) hC [(.ldc 72, 2, 0, 0, .int (-100000004))] (by decide +kernel) [(0, .ref 0), (1, .int a1)] [.int (-100000004)] σ rfl rfl ⟨trivial, trivial⟩ rfl ?_
        exact aw_iret hC hr (by decide +kernel) (Option.some.inj hF) rfl
    · have hF := (if_neg h).symm.trans hF
      refine aw_run (pc' := 11) hC [(.ldc 48, 2, 0, 0, .int (-100000003))] (by decide +kernel) [(0, .ref 0), (1, .int a1)] [.int (-100000003)] σ rfl rfl ⟨trivial, trivial⟩ rfl ?_
      exact aw_iret hC hr (by decide +kernel) (Option.some.inj hF) rfl
def f_ss_isBit (a0 : Int32) : Int32 := if a0 = 0 then 1 else (if a0 = 1 then 1 else 0)
def rm_ss_isBit : Room := { frames := 0, cells := 0, slots := 0, locals := 0 }
set_option maxHeartbeats 4000000 in
set_option maxRecDepth 100000 in
theorem c_ss_isBit (σ : Sg) (a0 : Int32) (z : Int32) (hF : f_ss_isBit a0 = z) : Ctr yX6_isBit cX6_isBit 1 (some .boolean) rm_ss_isBit [.int a0] σ (some (.int z)) σ := by
  refine ct_start 6 (by decide) rfl (fun ad => Nat.le_of_ble_eq_true rfl) [(0, .int a0)] (fun ad => rfl) ?_
  intro p l e s m args below meth c D ad tc A hC hA hr
  unfold f_ss_isBit at hF
  refine aw_run (pc' := 1) hC [(.iload_n 0, 1, 0, 0, .null)] (by decide +kernel) [(0, .int a0)] [.int a0] σ rfl rfl ⟨trivial, trivial⟩ rfl ?_
  refine aw_if_eq (off := 8) hC 9 Iff.rfl (by decide +kernel) (by decide) (fun h => ?_) (fun h => ?_)
  · have hF := (if_pos h).symm.trans hF
    refine aw_run (pc' := 10) hC [(.iconst 1, 1, 0, 0, .int 1)] (by decide +kernel) [(0, .int a0)] [.int 1] σ rfl rfl ⟨trivial, trivial⟩ rfl ?_
    refine aw_goto (off := 4) hC 14 (by decide +kernel) (by decide) ?_
    exact aw_zret hC hr (Or.inr rfl) (by decide +kernel) hF rfl
  · have hF := (if_neg h).symm.trans hF
    refine aw_run (pc' := 6) hC [(.iload_n 0, 1, 0, 0, .null), (.iconst 1, 1, 0, 0, .int 1)] (by decide +kernel) [(0, .int a0)] [.int 1, .int a0] σ rfl rfl ⟨trivial, trivial, trivial⟩ rfl ?_
    refine aw_icmp_ne (off := 7) hC 13 (by decide +kernel) (by decide) (fun h => ?_) (fun h => ?_)
    · have hF := (if_neg h).symm.trans hF
      refine aw_run (pc' := 14) hC [(.iconst 0, 1, 0, 0, .int 0)] (by decide +kernel) [(0, .int a0)] [.int 0] σ rfl rfl ⟨trivial, trivial⟩ rfl ?_
      exact aw_zret hC hr (Or.inl rfl) (by decide +kernel) hF rfl
    · have hF := (if_pos h).symm.trans hF
      refine aw_run (pc' := 10) hC [(.iconst 1, 1, 0, 0, .int 1)] (by decide +kernel) [(0, .int a0)] [.int 1] σ rfl rfl ⟨trivial, trivial⟩ rfl ?_
      refine aw_goto (off := 4) hC 14 (by decide +kernel) (by decide) ?_
      exact aw_zret hC hr (Or.inr rfl) (by decide +kernel) hF rfl
def f_ss_corner (σ : Sg) (a1 : Int32) (a2 : Int32) : Option Int32 := if (f_ss_isBit a2) = 0 then (some (-100000003)) else (if (f_ss_allFit σ) = 0 then (some (-100000004)) else (if a1 < 0 then (some (-100000002)) else (if a1 < (σ.1 12 5) then (if a2 = 0 then (if ib a1 16 then some (σ.1 15 a1.toNatClampNeg) else none) else (if ib a1 16 then some (σ.1 16 a1.toNatClampNeg) else none)) else (some (-100000002)))))
def rm_ss_corner : Room := { frames := 1, cells := 0, slots := 0, locals := 20 }
set_option maxHeartbeats 4000000 in
set_option maxRecDepth 100000 in
theorem c_ss_corner (σ : Sg) (a1 : Int32) (a2 : Int32) (z : Int32) (hF : f_ss_corner σ a1 a2 = some z) : Ctr yX6_corner cX6_corner 3 (some .int) rm_ss_corner [.ref 0, .int a1, .int a2] σ (some (.int z)) σ := by
  refine ct_start 6 (by decide) rfl (fun ad => Nat.le_of_ble_eq_true rfl) [(0, .ref 0), (1, .int a1), (2, .int a2)] (fun ad => rfl) ?_
  intro p l e s m args below meth c D ad tc A hC hA hr
  unfold f_ss_corner at hF
  refine aw_run (pc' := 1) hC [(.iload_n 2, 1, 0, 0, .null)] (by decide +kernel) [(0, .ref 0), (1, .int a1), (2, .int a2)] [.int a2] σ rfl rfl ⟨trivial, trivial⟩ rfl ?_
  refine aw_callS hC hA (rest := []) (c_ss_isBit σ a2 _ rfl) mt_X6_isBit ln_6_148 (by decide +kernel) rfl rfl (Nat.le_of_ble_eq_true rfl) ⟨⟨rfl, rfl⟩, Nat.le_of_ble_eq_true rfl, Nat.le_of_ble_eq_true rfl⟩ ⟨Nat.zero_le _, Nat.zero_le _⟩ rfl ?_
  refine aw_if_ne (off := 6) hC 10 Iff.rfl (by decide +kernel) (by decide) (fun h => ?_) (fun h => ?_)
  · have hF := (if_neg h).symm.trans hF
    refine aw_run (pc' := 11) hC [(.aload_n 0, 1, 0, 0, .null)] (by decide +kernel) [(0, .ref 0), (1, .int a1), (2, .int a2)] [.ref 0] σ rfl rfl ⟨trivial, trivial⟩ rfl ?_
    refine aw_callV hC hA (rest := []) (c_ss_allFit σ _ rfl) mt_X6_allFit ln_6_132 (by decide +kernel) ⟨_, rfl⟩ rfl rfl (Nat.le_of_ble_eq_true rfl) ⟨⟨rfl, rfl⟩, Nat.le_of_ble_eq_true rfl, Nat.le_of_ble_eq_true rfl⟩ ⟨Nat.zero_le _, Nat.zero_le _⟩ rfl ?_
    refine aw_if_ne (off := 6) hC 20 Iff.rfl (by decide +kernel) (by decide) (fun h => ?_) (fun h => ?_)
    · have hF := (if_neg h).symm.trans hF
      refine aw_run (pc' := 21) hC [(.iload_n 1, 1, 0, 0, .null)] (by decide +kernel) [(0, .ref 0), (1, .int a1), (2, .int a2)] [.int a1] σ rfl rfl ⟨trivial, trivial⟩ rfl ?_
      refine aw_if_lt (off := 14) hC 35 Iff.rfl (by decide +kernel) (by decide) (fun h => ?_) (fun h => ?_)
      · have hF := (if_pos h).symm.trans hF
        refine aw_run (pc' := 37) hC [(.ldc 93, 2, 0, 0, .int (-100000002))] (by decide +kernel) [(0, .ref 0), (1, .int a1), (2, .int a2)] [.int (-100000002)] σ rfl rfl ⟨trivial, trivial⟩ rfl ?_
        exact aw_iret hC hr (by decide +kernel) (Option.some.inj hF) rfl
      · have hF := (if_neg h).symm.trans hF
        refine aw_run (pc' := 32) hC [(.iload_n 1, 1, 0, 0, .null), (.aload_n 0, 1, 0, 0, .null), (.getfield 37, 3, 6, 4, .null), (.getfield 138, 3, 1, 5, .null)] (by decide +kernel) [(0, .ref 0), (1, .int a1), (2, .int a2)] [.int (σ.1 12 5), .int a1] σ rfl rfl ⟨trivial, trivial, trivial, trivial, trivial⟩ rfl ?_
        refine aw_icmp_lt (off := 6) hC 38 (by decide +kernel) (by decide) (fun h => ?_) (fun h => ?_)
        · have hF := (if_pos h).symm.trans hF
          refine aw_run (pc' := 39) hC [(.iload_n 2, 1, 0, 0, .null)] (by decide +kernel) [(0, .ref 0), (1, .int a1), (2, .int a2)] [.int a2] σ rfl rfl ⟨trivial, trivial⟩ rfl ?_
          refine aw_if_ne (off := 15) hC 54 Iff.rfl (by decide +kernel) (by decide) (fun h => ?_) (fun h => ?_)
          · have hF := (if_neg h).symm.trans hF
            obtain ⟨g1, hF⟩ := gd hF
            refine aw_run (pc' := 63) hC [(.aload_n 0, 1, 0, 0, .null), (.getfield 37, 3, 6, 4, .null), (.getfield 154, 3, 1, 4, .null), (.iload_n 1, 1, 0, 0, .null), (.iaload, 1, 0, 0, .null)] (by decide +kernel) [(0, .ref 0), (1, .int a1), (2, .int a2)] [.int (σ.1 16 a1.toNatClampNeg)] σ rfl rfl ⟨trivial, trivial, trivial, trivial, g1, trivial⟩ rfl ?_
            exact aw_iret hC hr (by decide +kernel) (Option.some.inj hF) rfl
          · have hF := (if_pos h).symm.trans hF
            obtain ⟨g2, hF⟩ := gd hF
            refine aw_run (pc' := 51) hC [(.aload_n 0, 1, 0, 0, .null), (.getfield 37, 3, 6, 4, .null), (.getfield 151, 3, 1, 3, .null), (.iload_n 1, 1, 0, 0, .null), (.iaload, 1, 0, 0, .null)] (by decide +kernel) [(0, .ref 0), (1, .int a1), (2, .int a2)] [.int (σ.1 15 a1.toNatClampNeg)] σ rfl rfl ⟨trivial, trivial, trivial, trivial, g2, trivial⟩ rfl ?_
            refine aw_goto (off := 12) hC 63 (by decide +kernel) (by decide) ?_
            exact aw_iret hC hr (by decide +kernel) (Option.some.inj hF) rfl
        · have hF := (if_neg h).symm.trans hF
          refine aw_run (pc' := 37) hC [(.ldc 93, 2, 0, 0, .int (-100000002))] (by decide +kernel) [(0, .ref 0), (1, .int a1), (2, .int a2)] [.int (-100000002)] σ rfl rfl ⟨trivial, trivial⟩ rfl ?_
          exact aw_iret hC hr (by decide +kernel) (Option.some.inj hF) rfl
    · have hF := (if_pos h).symm.trans hF
      refine aw_run (pc' := 19) hC [(.ldc 72, 2, 0, 0, .int (-100000004))] (by decide +kernel) [(0, .ref 0), (1, .int a1), (2, .int a2)] [.int (-100000004)] σ rfl rfl ⟨trivial, trivial⟩ rfl ?_
      exact aw_iret hC hr (by decide +kernel) (Option.some.inj hF) rfl
  · have hF := (if_pos h).symm.trans hF
    refine aw_run (pc' := 9) hC [(.ldc 48, 2, 0, 0, .int (-100000003))] (by decide +kernel) [(0, .ref 0), (1, .int a1), (2, .int a2)] [.int (-100000003)] σ rfl rfl ⟨trivial, trivial⟩ rfl ?_
    exact aw_iret hC hr (by decide +kernel) (Option.some.inj hF) rfl
def f_bo_release_18 (σ : Sg) : Sg := nm (uI σ 18 0 1) fun σ1 => nm (uJ σ1 18 1 0) fun σ2 => nm (uJ σ2 18 2 1) fun σ3 => σ3
def rm_bo_release_18 : Room := { frames := 0, cells := 0, slots := 0, locals := 0 }
set_option maxHeartbeats 4000000 in
set_option maxRecDepth 100000 in
theorem c_bo_release_18 (σ : Sg) (z : Sg) (hF : f_bo_release_18 σ = z) : Ctr yX0_release cX0_release 1 none rm_bo_release_18 [.ref 18] σ none z := by
  refine ct_start 0 (by decide) rfl (fun ad => Nat.le_of_ble_eq_true rfl) [(0, .ref 18)] (fun ad => rfl) ?_
  intro p l e s m args below meth c D ad tc A hC hA hr
  unfold f_bo_release_18 at hF
  obtain ⟨σ1, hσ1, hF⟩ := nmd hF
  refine aw_run (pc' := 5) hC [(.aload_n 0, 1, 0, 0, .null), (.iconst 1, 1, 0, 0, .int 1), (.putfield 7, 3, 0, 0, .null)] (by decide +kernel) [(0, .ref 18)] [] (uI σ 18 0 1) rfl rfl ⟨trivial, trivial, (Or.inr rfl), trivial⟩ hσ1 ?_
  obtain ⟨σ2, hσ2, hF⟩ := nmd hF
  refine aw_run (pc' := 10) hC [(.aload_n 0, 1, 0, 0, .null), (.lconst 0, 1, 0, 0, .long 0), (.putfield 13, 3, 0, 1, .null)] (by decide +kernel) [(0, .ref 18)] [] (uJ σ1 18 1 0) rfl rfl ⟨trivial, trivial, trivial, trivial⟩ hσ2 ?_
  obtain ⟨σ3, hσ3, hF⟩ := nmd hF
  refine aw_run (pc' := 15) hC [(.aload_n 0, 1, 0, 0, .null), (.lconst 1, 1, 0, 0, .long 1), (.putfield 17, 3, 0, 2, .null)] (by decide +kernel) [(0, .ref 18)] [] (uJ σ2 18 2 1) rfl rfl ⟨trivial, trivial, trivial, trivial⟩ hσ3 ?_
  exact aw_vret hC hr (by decide +kernel)  hF
def f_bo_put_18 (σ : Sg) (a1 : Int64) (a3 : Int64) : Sg := nm (uI σ 18 0 0) fun σ1 => nm (uJ σ1 18 1 a1) fun σ2 => nm (uJ σ2 18 2 a3) fun σ3 => σ3
def rm_bo_put_18 : Room := { frames := 0, cells := 0, slots := 0, locals := 0 }
set_option maxHeartbeats 4000000 in
set_option maxRecDepth 100000 in
theorem c_bo_put_18 (σ : Sg) (a1 : Int64) (a3 : Int64) (z : Sg) (hF : f_bo_put_18 σ a1 a3 = z) : Ctr yX0_put cX0_put 5 none rm_bo_put_18 [.ref 18, .long a1, .long a3] σ none z := by
  refine ct_start 0 (by decide) rfl (fun ad => Nat.le_of_ble_eq_true rfl) [(0, .ref 18), (1, .long a1), (3, .long a3)] (fun ad => rfl) ?_
  intro p l e s m args below meth c D ad tc A hC hA hr
  unfold f_bo_put_18 at hF
  obtain ⟨σ1, hσ1, hF⟩ := nmd hF
  refine aw_run (pc' := 5) hC [(.aload_n 0, 1, 0, 0, .null), (.iconst 0, 1, 0, 0, .int 0), (.putfield 7, 3, 0, 0, .null)] (by decide +kernel) [(0, .ref 18), (1, .long a1), (3, .long a3)] [] (uI σ 18 0 0) rfl rfl ⟨trivial, trivial, (Or.inl rfl), trivial⟩ hσ1 ?_
  obtain ⟨σ2, hσ2, hF⟩ := nmd hF
  refine aw_run (pc' := 10) hC [(.aload_n 0, 1, 0, 0, .null), (.lload_n 1, 1, 0, 0, .null), (.putfield 13, 3, 0, 1, .null)] (by decide +kernel) [(0, .ref 18), (1, .long a1), (3, .long a3)] [] (uJ σ1 18 1 a1) rfl rfl ⟨trivial, trivial, trivial, trivial⟩ hσ2 ?_
  obtain ⟨σ3, hσ3, hF⟩ := nmd hF
  refine aw_run (pc' := 15) hC [(.aload_n 0, 1, 0, 0, .null), (.lload_n 3, 1, 0, 0, .null), (.putfield 17, 3, 0, 2, .null)] (by decide +kernel) [(0, .ref 18), (1, .long a1), (3, .long a3)] [] (uJ σ2 18 2 a3) rfl rfl ⟨trivial, trivial, trivial, trivial⟩ hσ3 ?_
  exact aw_vret hC hr (by decide +kernel)  hF
def f_bo_lower_18 (σ : Sg) (a1 : Int64) (a3 : Int64) : Sg := if a3 ≤ 0 then σ else (if (σ.1 18 0) = 0 then (if ((σ.2 18 1) * a3) ≤ (a1 * (σ.2 18 2)) then σ else (nm (f_bo_put_18 σ a1 a3) fun q2 => q2)) else (nm (f_bo_put_18 σ a1 a3) fun q1 => q1))
def rm_bo_lower_18 : Room := { frames := 1, cells := 0, slots := 0, locals := 24 }
set_option maxHeartbeats 4000000 in
set_option maxRecDepth 100000 in
theorem c_bo_lower_18 (σ : Sg) (a1 : Int64) (a3 : Int64) (z : Sg) (hF : f_bo_lower_18 σ a1 a3 = z) : Ctr yX0_lower cX0_lower 5 none rm_bo_lower_18 [.ref 18, .long a1, .long a3] σ none z := by
  refine ct_start 0 (by decide) rfl (fun ad => Nat.le_of_ble_eq_true rfl) [(0, .ref 18), (1, .long a1), (3, .long a3)] (fun ad => rfl) ?_
  intro p l e s m args below meth c D ad tc A hC hA hr
  unfold f_bo_lower_18 at hF
  refine aw_run (pc' := 3) hC [(.lload_n 3, 1, 0, 0, .null), (.lconst 0, 1, 0, 0, .long 0), (.lcmp, 1, 0, 0, .null)] (by decide +kernel) [(0, .ref 18), (1, .long a1), (3, .long a3)] [.int (lg_cmp a3 0)] σ rfl rfl ⟨trivial, trivial, trivial, trivial⟩ rfl ?_
  refine aw_if_le (off := 32) hC 35 (lc_le _ _) (by decide +kernel) (by decide) (fun h => ?_) (fun h => ?_)
  · have hF := (if_pos h).symm.trans hF
    exact aw_vret hC hr (by decide +kernel)  hF
  · have hF := (if_neg h).symm.trans hF
    refine aw_run (pc' := 10) hC [(.aload_n 0, 1, 0, 0, .null), (.getfield 7, 3, 0, 0, .null)] (by decide +kernel) [(0, .ref 18), (1, .long a1), (3, .long a3)] [.int (σ.1 18 0)] σ rfl rfl ⟨trivial, trivial, trivial⟩ rfl ?_
    refine aw_if_ne (off := 19) hC 29 Iff.rfl (by decide +kernel) (by decide) (fun h => ?_) (fun h => ?_)
    · have hF := (if_neg h).symm.trans hF
      refine aw_run (pc' := 32) hC [(.aload_n 0, 1, 0, 0, .null), (.lload_n 1, 1, 0, 0, .null), (.lload_n 3, 1, 0, 0, .null)] (by decide +kernel) [(0, .ref 18), (1, .long a1), (3, .long a3)] [.long a3, .long a1, .ref 18] σ rfl rfl ⟨trivial, trivial, trivial, trivial⟩ rfl ?_
      obtain ⟨q1, eq1, hF⟩ := nmd hF
      refine aw_callV hC hA (rest := []) (c_bo_put_18 σ a1 a3 q1 eq1) mt_X0_put ln_0_20 (by decide +kernel) ⟨_, rfl⟩ rfl rfl (Nat.le_of_ble_eq_true rfl) ⟨⟨rfl, rfl⟩, Nat.le_of_ble_eq_true rfl, Nat.le_of_ble_eq_true rfl⟩ ⟨Nat.zero_le _, Nat.zero_le _⟩ rfl ?_
      exact aw_vret hC hr (by decide +kernel)  hF
    · have hF := (if_pos h).symm.trans hF
      refine aw_run (pc' := 26) hC [(.lload_n 1, 1, 0, 0, .null), (.aload_n 0, 1, 0, 0, .null), (.getfield 17, 3, 0, 2, .null), (.lmul, 1, 0, 0, .null), (.aload_n 0, 1, 0, 0, .null), (.getfield 13, 3, 0, 1, .null), (.lload_n 3, 1, 0, 0, .null), (.lmul, 1, 0, 0, .null), (.lcmp, 1, 0, 0, .null)] (by decide +kernel) [(0, .ref 18), (1, .long a1), (3, .long a3)] [.int (lg_cmp (a1 * (σ.2 18 2)) ((σ.2 18 1) * a3))] σ rfl rfl ⟨trivial, trivial, trivial, trivial, trivial, trivial, trivial, trivial, trivial, trivial⟩ rfl ?_
      refine aw_if_ge (off := 9) hC 35 (lc_ge _ _) (by decide +kernel) (by decide) (fun h => ?_) (fun h => ?_)
      · have hF := (if_pos h).symm.trans hF
        exact aw_vret hC hr (by decide +kernel)  hF
      · have hF := (if_neg h).symm.trans hF
        refine aw_run (pc' := 32) hC [(.aload_n 0, 1, 0, 0, .null), (.lload_n 1, 1, 0, 0, .null), (.lload_n 3, 1, 0, 0, .null)] (by decide +kernel) [(0, .ref 18), (1, .long a1), (3, .long a3)] [.long a3, .long a1, .ref 18] σ rfl rfl ⟨trivial, trivial, trivial, trivial⟩ rfl ?_
        obtain ⟨q2, eq2, hF⟩ := nmd hF
        refine aw_callV hC hA (rest := []) (c_bo_put_18 σ a1 a3 q2 eq2) mt_X0_put ln_0_20 (by decide +kernel) ⟨_, rfl⟩ rfl rfl (Nat.le_of_ble_eq_true rfl) ⟨⟨rfl, rfl⟩, Nat.le_of_ble_eq_true rfl, Nat.le_of_ble_eq_true rfl⟩ ⟨Nat.zero_le _, Nat.zero_le _⟩ rfl ?_
        exact aw_vret hC hr (by decide +kernel)  hF
def f_sp_hold_18_c67_s (N : Nat) (kc7 : Int32 → Int32 → Int32 → Sg → Option Sg) (kc67 : Int32 → Int32 → Int32 → Int32 → Sg → Option Sg) (a1 : Int32) (a2 : Int32) (a4 : Int32) (a5 : Int32) (σ : Sg) : Option Sg := if (σ.1 4 5) ≤ a5 then (kc7 a1 a2 (a4 + 1) σ) else (if ib a5 8 then if (σ.1 6 a5.toNatClampNeg) = 0 then (if (σ.1 5 a5.toNatClampNeg) ≤ a1 then (kc67 a1 a2 a4 (a5 + 1) σ) else (if ib a4 8 then (f_ro_inner σ a4 a2).bind fun q5 => (f_ro_inner σ a5 a2).bind fun q6 => nm (f_bo_lower_18 σ ((q5 * ((σ.1 5 a5.toNatClampNeg) - a1)) + (q6 * (a1 - (σ.1 5 a4.toNatClampNeg)))).toInt64 (((σ.1 5 a5.toNatClampNeg) - a1) + (a1 - (σ.1 5 a4.toNatClampNeg))).toInt64) fun q7 => kc67 a1 a2 a4 (a5 + 1) q7 else none)) else (kc67 a1 a2 a4 (a5 + 1) σ) else none)
def f_sp_hold_18_c67 (N : Nat) (kc7 : Int32 → Int32 → Int32 → Sg → Option Sg) : Nat → Int32 → Int32 → Int32 → Int32 → Sg → Option Sg
  | 0 => fun _ _ _ _ _ => none
  | n + 1 => f_sp_hold_18_c67_s N kc7 (f_sp_hold_18_c67 N kc7 n)
def f_sp_hold_18_c7_s (N : Nat) (kc7 : Int32 → Int32 → Int32 → Sg → Option Sg) (a1 : Int32) (a2 : Int32) (a4 : Int32) (σ : Sg) : Option Sg := if (σ.1 4 5) ≤ a4 then (some σ) else (if ib a4 8 then if (σ.1 6 a4.toNatClampNeg) = 0 then (if (σ.1 5 a4.toNatClampNeg) ≤ a1 then (if (σ.1 5 a4.toNatClampNeg) = a1 then ((f_ro_inner σ a4 a2).bind fun q8 => nm (f_bo_lower_18 σ q8.toInt64 1) fun q9 => f_sp_hold_18_c67 N kc7 N a1 a2 a4 0 q9) else (f_sp_hold_18_c67 N kc7 N a1 a2 a4 0 σ)) else (kc7 a1 a2 (a4 + 1) σ)) else (kc7 a1 a2 (a4 + 1) σ) else none)
def f_sp_hold_18_c7 (N : Nat) : Nat → Int32 → Int32 → Int32 → Sg → Option Sg
  | 0 => fun _ _ _ _ => none
  | n + 1 => f_sp_hold_18_c7_s N (f_sp_hold_18_c7 N n)
def f_sp_hold_18 (N : Nat) (σ : Sg) (a1 : Int32) (a2 : Int32) : Option Sg := nm (f_bo_release_18 σ) fun q1 => f_sp_hold_18_c7 N N a1 a2 0 q1
def rm_sp_hold_18 : Room := { frames := 2, cells := 0, slots := 0, locals := 48 }
set_option maxHeartbeats 4000000 in
set_option maxRecDepth 100000 in
theorem c_sp_hold_18 (N : Nat) (σ : Sg) (a1 : Int32) (a2 : Int32) (z : Sg) (hF : f_sp_hold_18 N σ a1 a2 = some z) : Ctr yX4_hold cX4_hold 8 none rm_sp_hold_18 [.ref 4, .int a1, .int a2, .ref 18] σ none z := by
  refine ct_start 4 (by decide) rfl (fun ad => Nat.le_of_ble_eq_true rfl) [(0, .ref 4), (1, .int a1), (2, .int a2), (3, .ref 18)] (fun ad => rfl) ?_
  intro p l e s m args below meth c D ad tc A hC hA hr
  have Jc67 : ∀ (kc7 : Int32 → Int32 → Int32 → Sg → Option Sg) (Hc7 : ∀ (a1 : Int32) (a2 : Int32) (a4 : Int32) (σ : Sg), kc7 a1 a2 a4 σ = some z → AW p l e rm_sp_hold_18 s m args below meth c D ad tc 8 A s.heap 0 0 (MQ below (Qr none D ad tc z A) args s 0 0 A) 7 [(0, .ref 4), (1, .int a1), (2, .int a2), (3, .ref 18), (4, .int a4)] [] σ) (n : Nat) (a1 : Int32) (a2 : Int32) (a4 : Int32) (a5 : Int32) (σ : Sg), f_sp_hold_18_c67 N kc7 n a1 a2 a4 a5 σ = some z → AW p l e rm_sp_hold_18 s m args below meth c D ad tc 8 A s.heap 0 0 (MQ below (Qr none D ad tc z A) args s 0 0 A) 67 [(0, .ref 4), (1, .int a1), (2, .int a2), (3, .ref 18), (4, .int a4), (5, .int a5)] [] σ := by
    intro kc7 Hc7 n
    induction n with
    | zero =>
      intro a1 a2 a4 a5 σ hF
      cases hF
    | succ n ih =>
      intro a1 a2 a4 a5 σ hF
      have hF : f_sp_hold_18_c67_s N kc7 (f_sp_hold_18_c67 N kc7 n) a1 a2 a4 a5 σ = some z := hF
      unfold f_sp_hold_18_c67_s at hF
      refine aw_run (pc' := 73) hC [(.iload 5, 2, 0, 0, .null), (.aload_n 0, 1, 0, 0, .null), (.getfield 75, 3, 3, 5, .null)] (by decide +kernel) [(0, .ref 4), (1, .int a1), (2, .int a2), (3, .ref 18), (4, .int a4), (5, .int a5)] [.int (σ.1 4 5), .int a5] σ rfl rfl ⟨trivial, trivial, trivial, trivial⟩ rfl ?_
      refine aw_icmp_ge (off := 84) hC 157 (by decide +kernel) (by decide) (fun h => ?_) (fun h => ?_)
      · have hF := (if_pos h).symm.trans hF
        refine aw_run (pc' := 160) hC [(.iinc 4 1, 3, 0, 0, .int 1)] (by decide +kernel) [(0, .ref 4), (1, .int a1), (2, .int a2), (3, .ref 18), (4, .int (a4 + 1)), (5, .int a5)] [] σ rfl rfl ⟨trivial, trivial⟩ rfl ?_
        refine aw_goto (off := -153) hC 7 (by decide +kernel) (by decide) ?_
        refine aw_pick [0, 1, 2, 3, 4] [(0, .ref 4), (1, .int a1), (2, .int a2), (3, .ref 18), (4, .int (a4 + 1))] rfl ?_
        exact Hc7 a1 a2 (a4 + 1) σ hF
      · have hF := (if_neg h).symm.trans hF
        obtain ⟨g3, hF⟩ := gd hF
        refine aw_run (pc' := 83) hC [(.aload_n 0, 1, 0, 0, .null), (.getfield 81, 3, 3, 1, .null), (.iload 5, 2, 0, 0, .null), (.baload, 1, 0, 0, .null)] (by decide +kernel) [(0, .ref 4), (1, .int a1), (2, .int a2), (3, .ref 18), (4, .int a4), (5, .int a5)] [.int (σ.1 6 a5.toNatClampNeg)] σ rfl rfl ⟨trivial, trivial, trivial, g3, trivial⟩ rfl ?_
        refine aw_if_ne (off := 68) hC 151 Iff.rfl (by decide +kernel) (by decide) (fun h => ?_) (fun h => ?_)
        · have hF := (if_neg h).symm.trans hF
          refine aw_run (pc' := 154) hC [(.iinc 5 1, 3, 0, 0, .int 1)] (by decide +kernel) [(0, .ref 4), (1, .int a1), (2, .int a2), (3, .ref 18), (4, .int a4), (5, .int (a5 + 1))] [] σ rfl rfl ⟨trivial, trivial⟩ rfl ?_
          refine aw_goto (off := -87) hC 67 (by decide +kernel) (by decide) ?_
          exact ih a1 a2 a4 (a5 + 1) σ hF
        · have hF := (if_pos h).symm.trans hF
          refine aw_run (pc' := 94) hC [(.aload_n 0, 1, 0, 0, .null), (.getfield 85, 3, 3, 0, .null), (.iload 5, 2, 0, 0, .null), (.iaload, 1, 0, 0, .null), (.iload_n 1, 1, 0, 0, .null)] (by decide +kernel) [(0, .ref 4), (1, .int a1), (2, .int a2), (3, .ref 18), (4, .int a4), (5, .int a5)] [.int a1, .int (σ.1 5 a5.toNatClampNeg)] σ rfl rfl ⟨trivial, trivial, trivial, g3, trivial, trivial⟩ rfl ?_
          refine aw_icmp_le (off := 57) hC 151 (by decide +kernel) (by decide) (fun h => ?_) (fun h => ?_)
          · have hF := (if_pos h).symm.trans hF
            refine aw_run (pc' := 154) hC [(.iinc 5 1, 3, 0, 0, .int 1)] (by decide +kernel) [(0, .ref 4), (1, .int a1), (2, .int a2), (3, .ref 18), (4, .int a4), (5, .int (a5 + 1))] [] σ rfl rfl ⟨trivial, trivial⟩ rfl ?_
            refine aw_goto (off := -87) hC 67 (by decide +kernel) (by decide) ?_
            exact ih a1 a2 a4 (a5 + 1) σ hF
          · have hF := (if_neg h).symm.trans hF
            obtain ⟨g4, hF⟩ := gd hF
            refine aw_run (pc' := 124) hC [(.aload_n 0, 1, 0, 0, .null), (.getfield 85, 3, 3, 0, .null), (.iload 5, 2, 0, 0, .null), (.iaload, 1, 0, 0, .null), (.iload_n 1, 1, 0, 0, .null), (.isub, 1, 0, 0, .null), (.istore 6, 2, 0, 0, .null), (.iload_n 1, 1, 0, 0, .null), (.aload_n 0, 1, 0, 0, .null), (.getfield 85, 3, 3, 0, .null), (.iload 4, 2, 0, 0, .null), (.iaload, 1, 0, 0, .null), (.isub, 1, 0, 0, .null), (.istore 7, 2, 0, 0, .null), (.aload_n 3, 1, 0, 0, .null), (.aload_n 0, 1, 0, 0, .null), (.iload 4, 2, 0, 0, .null), (.iload_n 2, 1, 0, 0, .null)] (by decide +kernel) [(0, .ref 4), (1, .int a1), (2, .int a2), (3, .ref 18), (4, .int a4), (5, .int a5), (6, .int ((σ.1 5 a5.toNatClampNeg) - a1)), (7, .int (a1 - (σ.1 5 a4.toNatClampNeg)))] [.int a2, .int a4, .ref 4, .ref 18] σ rfl rfl ⟨trivial, trivial, trivial, g3, trivial, trivial, trivial, trivial, trivial, trivial, trivial, g4, trivial, trivial, trivial, trivial, trivial, trivial, trivial⟩ rfl ?_
            obtain ⟨q5, eq5, hF⟩ := bd hF
            refine aw_callV hC hA (rest := [.ref 18]) (c_ro_inner σ a4 a2 q5 eq5) mt_X3_inner ln_4_89 (by decide +kernel) ⟨_, rfl⟩ rfl rfl (Nat.le_of_ble_eq_true rfl) ⟨⟨rfl, rfl⟩, Nat.le_of_ble_eq_true rfl, Nat.le_of_ble_eq_true rfl⟩ ⟨Nat.zero_le _, Nat.zero_le _⟩ rfl ?_
            refine aw_run (pc' := 134) hC [(.iload 6, 2, 0, 0, .null), (.imul, 1, 0, 0, .null), (.aload_n 0, 1, 0, 0, .null), (.iload 5, 2, 0, 0, .null), (.iload_n 2, 1, 0, 0, .null)] (by decide +kernel) [(0, .ref 4), (1, .int a1), (2, .int a2), (3, .ref 18), (4, .int a4), (5, .int a5), (6, .int ((σ.1 5 a5.toNatClampNeg) - a1)), (7, .int (a1 - (σ.1 5 a4.toNatClampNeg)))] [.int a2, .int a5, .ref 4, .int (q5 * ((σ.1 5 a5.toNatClampNeg) - a1)), .ref 18] σ rfl rfl ⟨trivial, trivial, trivial, trivial, trivial, trivial⟩ rfl ?_
            obtain ⟨q6, eq6, hF⟩ := bd hF
            refine aw_callV hC hA (rest := [.int (q5 * ((σ.1 5 a5.toNatClampNeg) - a1)), .ref 18]) (c_ro_inner σ a5 a2 q6 eq6) mt_X3_inner ln_4_89 (by decide +kernel) ⟨_, rfl⟩ rfl rfl (Nat.le_of_ble_eq_true rfl) ⟨⟨rfl, rfl⟩, Nat.le_of_ble_eq_true rfl, Nat.le_of_ble_eq_true rfl⟩ ⟨Nat.zero_le _, Nat.zero_le _⟩ rfl ?_
            refine aw_run (pc' := 148) hC [(.iload 7, 2, 0, 0, .null), (.imul, 1, 0, 0, .null), (.iadd, 1, 0, 0, .null), (.i2l, 1, 0, 0, .null), (.iload 6, 2, 0, 0, .null), (.iload 7, 2, 0, 0, .null), (.iadd, 1, 0, 0, .null), (.i2l, 1, 0, 0, .null)] (by decide +kernel) [(0, .ref 4), (1, .int a1), (2, .int a2), (3, .ref 18), (4, .int a4), (5, .int a5), (6, .int ((σ.1 5 a5.toNatClampNeg) - a1)), (7, .int (a1 - (σ.1 5 a4.toNatClampNeg)))] [.long (((σ.1 5 a5.toNatClampNeg) - a1) + (a1 - (σ.1 5 a4.toNatClampNeg))).toInt64, .long ((q5 * ((σ.1 5 a5.toNatClampNeg) - a1)) + (q6 * (a1 - (σ.1 5 a4.toNatClampNeg)))).toInt64, .ref 18] σ rfl rfl ⟨trivial, trivial, trivial, trivial, trivial, trivial, trivial, trivial, trivial⟩ rfl ?_
            obtain ⟨q7, eq7, hF⟩ := nmd hF
            refine aw_callV hC hA (rest := []) (c_bo_lower_18 σ ((q5 * ((σ.1 5 a5.toNatClampNeg) - a1)) + (q6 * (a1 - (σ.1 5 a4.toNatClampNeg)))).toInt64 (((σ.1 5 a5.toNatClampNeg) - a1) + (a1 - (σ.1 5 a4.toNatClampNeg))).toInt64 q7 eq7) mt_X0_lower ln_4_93 (by decide +kernel) ⟨_, rfl⟩ rfl rfl (Nat.le_of_ble_eq_true rfl) ⟨⟨rfl, rfl⟩, Nat.le_of_ble_eq_true rfl, Nat.le_of_ble_eq_true rfl⟩ ⟨Nat.zero_le _, Nat.zero_le _⟩ rfl ?_
            refine aw_run (pc' := 154) hC [(.iinc 5 1, 3, 0, 0, .int 1)] (by decide +kernel) [(0, .ref 4), (1, .int a1), (2, .int a2), (3, .ref 18), (4, .int a4), (5, .int (a5 + 1)), (6, .int ((σ.1 5 a5.toNatClampNeg) - a1)), (7, .int (a1 - (σ.1 5 a4.toNatClampNeg)))] [] q7 rfl rfl ⟨trivial, trivial⟩ rfl ?_
            refine aw_goto (off := -87) hC 67 (by decide +kernel) (by decide) ?_
            refine aw_pick [0, 1, 2, 3, 4, 5] [(0, .ref 4), (1, .int a1), (2, .int a2), (3, .ref 18), (4, .int a4), (5, .int (a5 + 1))] rfl ?_
            exact ih a1 a2 a4 (a5 + 1) q7 hF
  have Jc7 : ∀ (n : Nat) (a1 : Int32) (a2 : Int32) (a4 : Int32) (σ : Sg), f_sp_hold_18_c7 N n a1 a2 a4 σ = some z → AW p l e rm_sp_hold_18 s m args below meth c D ad tc 8 A s.heap 0 0 (MQ below (Qr none D ad tc z A) args s 0 0 A) 7 [(0, .ref 4), (1, .int a1), (2, .int a2), (3, .ref 18), (4, .int a4)] [] σ := by
    intro n
    induction n with
    | zero =>
      intro a1 a2 a4 σ hF
      cases hF
    | succ n ih =>
      intro a1 a2 a4 σ hF
      have hF : f_sp_hold_18_c7_s N (f_sp_hold_18_c7 N n) a1 a2 a4 σ = some z := hF
      unfold f_sp_hold_18_c7_s at hF
      refine aw_run (pc' := 13) hC [(.iload 4, 2, 0, 0, .null), (.aload_n 0, 1, 0, 0, .null), (.getfield 75, 3, 3, 5, .null)] (by decide +kernel) [(0, .ref 4), (1, .int a1), (2, .int a2), (3, .ref 18), (4, .int a4)] [.int (σ.1 4 5), .int a4] σ rfl rfl ⟨trivial, trivial, trivial, trivial⟩ rfl ?_
      refine aw_icmp_ge (off := 150) hC 163 (by decide +kernel) (by decide) (fun h => ?_) (fun h => ?_)
      · have hF := (if_pos h).symm.trans hF
        exact aw_vret hC hr (by decide +kernel)  (Option.some.inj hF)
      · have hF := (if_neg h).symm.trans hF
        obtain ⟨g2, hF⟩ := gd hF
        refine aw_run (pc' := 23) hC [(.aload_n 0, 1, 0, 0, .null), (.getfield 81, 3, 3, 1, .null), (.iload 4, 2, 0, 0, .null), (.baload, 1, 0, 0, .null)] (by decide +kernel) [(0, .ref 4), (1, .int a1), (2, .int a2), (3, .ref 18), (4, .int a4)] [.int (σ.1 6 a4.toNatClampNeg)] σ rfl rfl ⟨trivial, trivial, trivial, g2, trivial⟩ rfl ?_
        refine aw_if_ne (off := 134) hC 157 Iff.rfl (by decide +kernel) (by decide) (fun h => ?_) (fun h => ?_)
        · have hF := (if_neg h).symm.trans hF
          refine aw_run (pc' := 160) hC [(.iinc 4 1, 3, 0, 0, .int 1)] (by decide +kernel) [(0, .ref 4), (1, .int a1), (2, .int a2), (3, .ref 18), (4, .int (a4 + 1))] [] σ rfl rfl ⟨trivial, trivial⟩ rfl ?_
          refine aw_goto (off := -153) hC 7 (by decide +kernel) (by decide) ?_
          exact ih a1 a2 (a4 + 1) σ hF
        · have hF := (if_pos h).symm.trans hF
          refine aw_run (pc' := 34) hC [(.aload_n 0, 1, 0, 0, .null), (.getfield 85, 3, 3, 0, .null), (.iload 4, 2, 0, 0, .null), (.iaload, 1, 0, 0, .null), (.iload_n 1, 1, 0, 0, .null)] (by decide +kernel) [(0, .ref 4), (1, .int a1), (2, .int a2), (3, .ref 18), (4, .int a4)] [.int a1, .int (σ.1 5 a4.toNatClampNeg)] σ rfl rfl ⟨trivial, trivial, trivial, g2, trivial, trivial⟩ rfl ?_
          refine aw_icmp_le (off := 6) hC 40 (by decide +kernel) (by decide) (fun h => ?_) (fun h => ?_)
          · have hF := (if_pos h).symm.trans hF
            refine aw_run (pc' := 48) hC [(.aload_n 0, 1, 0, 0, .null), (.getfield 85, 3, 3, 0, .null), (.iload 4, 2, 0, 0, .null), (.iaload, 1, 0, 0, .null), (.iload_n 1, 1, 0, 0, .null)] (by decide +kernel) [(0, .ref 4), (1, .int a1), (2, .int a2), (3, .ref 18), (4, .int a4)] [.int a1, .int (σ.1 5 a4.toNatClampNeg)] σ rfl rfl ⟨trivial, trivial, trivial, g2, trivial, trivial⟩ rfl ?_
            refine aw_icmp_ne (off := 16) hC 64 (by decide +kernel) (by decide) (fun h => ?_) (fun h => ?_)
            · have hF := (if_neg h).symm.trans hF
              refine aw_run (pc' := 67) hC [(.iconst 0, 1, 0, 0, .int 0), (.istore 5, 2, 0, 0, .null)] (by decide +kernel) [(0, .ref 4), (1, .int a1), (2, .int a2), (3, .ref 18), (4, .int a4), (5, .int 0)] [] σ rfl rfl ⟨trivial, trivial, trivial⟩ rfl ?_
              exact Jc67 (f_sp_hold_18_c7 N n) ih N a1 a2 a4 0 σ hF
            · have hF := (if_pos h).symm.trans hF
              refine aw_run (pc' := 56) hC [(.aload_n 3, 1, 0, 0, .null), (.aload_n 0, 1, 0, 0, .null), (.iload 4, 2, 0, 0, .null), (.iload_n 2, 1, 0, 0, .null)] (by decide +kernel) [(0, .ref 4), (1, .int a1), (2, .int a2), (3, .ref 18), (4, .int a4)] [.int a2, .int a4, .ref 4, .ref 18] σ rfl rfl ⟨trivial, trivial, trivial, trivial, trivial⟩ rfl ?_
              obtain ⟨q8, eq8, hF⟩ := bd hF
              refine aw_callV hC hA (rest := [.ref 18]) (c_ro_inner σ a4 a2 q8 eq8) mt_X3_inner ln_4_89 (by decide +kernel) ⟨_, rfl⟩ rfl rfl (Nat.le_of_ble_eq_true rfl) ⟨⟨rfl, rfl⟩, Nat.le_of_ble_eq_true rfl, Nat.le_of_ble_eq_true rfl⟩ ⟨Nat.zero_le _, Nat.zero_le _⟩ rfl ?_
              refine aw_run (pc' := 61) hC [(.i2l, 1, 0, 0, .null), (.lconst 1, 1, 0, 0, .long 1)] (by decide +kernel) [(0, .ref 4), (1, .int a1), (2, .int a2), (3, .ref 18), (4, .int a4)] [.long 1, .long q8.toInt64, .ref 18] σ rfl rfl ⟨trivial, trivial, trivial⟩ rfl ?_
              obtain ⟨q9, eq9, hF⟩ := nmd hF
              refine aw_callV hC hA (rest := []) (c_bo_lower_18 σ q8.toInt64 1 q9 eq9) mt_X0_lower ln_4_93 (by decide +kernel) ⟨_, rfl⟩ rfl rfl (Nat.le_of_ble_eq_true rfl) ⟨⟨rfl, rfl⟩, Nat.le_of_ble_eq_true rfl, Nat.le_of_ble_eq_true rfl⟩ ⟨Nat.zero_le _, Nat.zero_le _⟩ rfl ?_
              refine aw_run (pc' := 67) hC [(.iconst 0, 1, 0, 0, .int 0), (.istore 5, 2, 0, 0, .null)] (by decide +kernel) [(0, .ref 4), (1, .int a1), (2, .int a2), (3, .ref 18), (4, .int a4), (5, .int 0)] [] q9 rfl rfl ⟨trivial, trivial, trivial⟩ rfl ?_
              exact Jc67 (f_sp_hold_18_c7 N n) ih N a1 a2 a4 0 q9 hF
          · have hF := (if_neg h).symm.trans hF
            refine aw_goto (off := 120) hC 157 (by decide +kernel) (by decide) ?_
            refine aw_run (pc' := 160) hC [(.iinc 4 1, 3, 0, 0, .int 1)] (by decide +kernel) [(0, .ref 4), (1, .int a1), (2, .int a2), (3, .ref 18), (4, .int (a4 + 1))] [] σ rfl rfl ⟨trivial, trivial⟩ rfl ?_
            refine aw_goto (off := -153) hC 7 (by decide +kernel) (by decide) ?_
            exact ih a1 a2 (a4 + 1) σ hF
  unfold f_sp_hold_18 at hF
  refine aw_run (pc' := 1) hC [(.aload_n 3, 1, 0, 0, .null)] (by decide +kernel) [(0, .ref 4), (1, .int a1), (2, .int a2), (3, .ref 18)] [.ref 18] σ rfl rfl ⟨trivial, trivial⟩ rfl ?_
  obtain ⟨q1, eq1, hF⟩ := nmd hF
  refine aw_callV hC hA (rest := []) (c_bo_release_18 σ q1 eq1) mt_X0_release ln_4_72 (by decide +kernel) ⟨_, rfl⟩ rfl rfl (Nat.le_of_ble_eq_true rfl) ⟨⟨rfl, rfl⟩, Nat.le_of_ble_eq_true rfl, Nat.le_of_ble_eq_true rfl⟩ ⟨Nat.zero_le _, Nat.zero_le _⟩ rfl ?_
  refine aw_run (pc' := 7) hC [(.iconst 0, 1, 0, 0, .int 0), (.istore 4, 2, 0, 0, .null)] (by decide +kernel) [(0, .ref 4), (1, .int a1), (2, .int a2), (3, .ref 18), (4, .int 0)] [] q1 rfl rfl ⟨trivial, trivial, trivial⟩ rfl ?_
  exact Jc7 N a1 a2 0 q1 hF
def f_bo_release_19 (σ : Sg) : Sg := nm (uI σ 19 0 1) fun σ1 => nm (uJ σ1 19 1 0) fun σ2 => nm (uJ σ2 19 2 1) fun σ3 => σ3
def rm_bo_release_19 : Room := { frames := 0, cells := 0, slots := 0, locals := 0 }
set_option maxHeartbeats 4000000 in
set_option maxRecDepth 100000 in
theorem c_bo_release_19 (σ : Sg) (z : Sg) (hF : f_bo_release_19 σ = z) : Ctr yX0_release cX0_release 1 none rm_bo_release_19 [.ref 19] σ none z := by
  refine ct_start 0 (by decide) rfl (fun ad => Nat.le_of_ble_eq_true rfl) [(0, .ref 19)] (fun ad => rfl) ?_
  intro p l e s m args below meth c D ad tc A hC hA hr
  unfold f_bo_release_19 at hF
  obtain ⟨σ1, hσ1, hF⟩ := nmd hF
  refine aw_run (pc' := 5) hC [(.aload_n 0, 1, 0, 0, .null), (.iconst 1, 1, 0, 0, .int 1), (.putfield 7, 3, 0, 0, .null)] (by decide +kernel) [(0, .ref 19)] [] (uI σ 19 0 1) rfl rfl ⟨trivial, trivial, (Or.inr rfl), trivial⟩ hσ1 ?_
  obtain ⟨σ2, hσ2, hF⟩ := nmd hF
  refine aw_run (pc' := 10) hC [(.aload_n 0, 1, 0, 0, .null), (.lconst 0, 1, 0, 0, .long 0), (.putfield 13, 3, 0, 1, .null)] (by decide +kernel) [(0, .ref 19)] [] (uJ σ1 19 1 0) rfl rfl ⟨trivial, trivial, trivial, trivial⟩ hσ2 ?_
  obtain ⟨σ3, hσ3, hF⟩ := nmd hF
  refine aw_run (pc' := 15) hC [(.aload_n 0, 1, 0, 0, .null), (.lconst 1, 1, 0, 0, .long 1), (.putfield 17, 3, 0, 2, .null)] (by decide +kernel) [(0, .ref 19)] [] (uJ σ2 19 2 1) rfl rfl ⟨trivial, trivial, trivial, trivial⟩ hσ3 ?_
  exact aw_vret hC hr (by decide +kernel)  hF
def f_bo_put_19 (σ : Sg) (a1 : Int64) (a3 : Int64) : Sg := nm (uI σ 19 0 0) fun σ1 => nm (uJ σ1 19 1 a1) fun σ2 => nm (uJ σ2 19 2 a3) fun σ3 => σ3
def rm_bo_put_19 : Room := { frames := 0, cells := 0, slots := 0, locals := 0 }
set_option maxHeartbeats 4000000 in
set_option maxRecDepth 100000 in
theorem c_bo_put_19 (σ : Sg) (a1 : Int64) (a3 : Int64) (z : Sg) (hF : f_bo_put_19 σ a1 a3 = z) : Ctr yX0_put cX0_put 5 none rm_bo_put_19 [.ref 19, .long a1, .long a3] σ none z := by
  refine ct_start 0 (by decide) rfl (fun ad => Nat.le_of_ble_eq_true rfl) [(0, .ref 19), (1, .long a1), (3, .long a3)] (fun ad => rfl) ?_
  intro p l e s m args below meth c D ad tc A hC hA hr
  unfold f_bo_put_19 at hF
  obtain ⟨σ1, hσ1, hF⟩ := nmd hF
  refine aw_run (pc' := 5) hC [(.aload_n 0, 1, 0, 0, .null), (.iconst 0, 1, 0, 0, .int 0), (.putfield 7, 3, 0, 0, .null)] (by decide +kernel) [(0, .ref 19), (1, .long a1), (3, .long a3)] [] (uI σ 19 0 0) rfl rfl ⟨trivial, trivial, (Or.inl rfl), trivial⟩ hσ1 ?_
  obtain ⟨σ2, hσ2, hF⟩ := nmd hF
  refine aw_run (pc' := 10) hC [(.aload_n 0, 1, 0, 0, .null), (.lload_n 1, 1, 0, 0, .null), (.putfield 13, 3, 0, 1, .null)] (by decide +kernel) [(0, .ref 19), (1, .long a1), (3, .long a3)] [] (uJ σ1 19 1 a1) rfl rfl ⟨trivial, trivial, trivial, trivial⟩ hσ2 ?_
  obtain ⟨σ3, hσ3, hF⟩ := nmd hF
  refine aw_run (pc' := 15) hC [(.aload_n 0, 1, 0, 0, .null), (.lload_n 3, 1, 0, 0, .null), (.putfield 17, 3, 0, 2, .null)] (by decide +kernel) [(0, .ref 19), (1, .long a1), (3, .long a3)] [] (uJ σ2 19 2 a3) rfl rfl ⟨trivial, trivial, trivial, trivial⟩ hσ3 ?_
  exact aw_vret hC hr (by decide +kernel)  hF
def f_bo_lower_19 (σ : Sg) (a1 : Int64) (a3 : Int64) : Sg := if a3 ≤ 0 then σ else (if (σ.1 19 0) = 0 then (if ((σ.2 19 1) * a3) ≤ (a1 * (σ.2 19 2)) then σ else (nm (f_bo_put_19 σ a1 a3) fun q2 => q2)) else (nm (f_bo_put_19 σ a1 a3) fun q1 => q1))
def rm_bo_lower_19 : Room := { frames := 1, cells := 0, slots := 0, locals := 24 }
set_option maxHeartbeats 4000000 in
set_option maxRecDepth 100000 in
theorem c_bo_lower_19 (σ : Sg) (a1 : Int64) (a3 : Int64) (z : Sg) (hF : f_bo_lower_19 σ a1 a3 = z) : Ctr yX0_lower cX0_lower 5 none rm_bo_lower_19 [.ref 19, .long a1, .long a3] σ none z := by
  refine ct_start 0 (by decide) rfl (fun ad => Nat.le_of_ble_eq_true rfl) [(0, .ref 19), (1, .long a1), (3, .long a3)] (fun ad => rfl) ?_
  intro p l e s m args below meth c D ad tc A hC hA hr
  unfold f_bo_lower_19 at hF
  refine aw_run (pc' := 3) hC [(.lload_n 3, 1, 0, 0, .null), (.lconst 0, 1, 0, 0, .long 0), (.lcmp, 1, 0, 0, .null)] (by decide +kernel) [(0, .ref 19), (1, .long a1), (3, .long a3)] [.int (lg_cmp a3 0)] σ rfl rfl ⟨trivial, trivial, trivial, trivial⟩ rfl ?_
  refine aw_if_le (off := 32) hC 35 (lc_le _ _) (by decide +kernel) (by decide) (fun h => ?_) (fun h => ?_)
  · have hF := (if_pos h).symm.trans hF
    exact aw_vret hC hr (by decide +kernel)  hF
  · have hF := (if_neg h).symm.trans hF
    refine aw_run (pc' := 10) hC [(.aload_n 0, 1, 0, 0, .null), (.getfield 7, 3, 0, 0, .null)] (by decide +kernel) [(0, .ref 19), (1, .long a1), (3, .long a3)] [.int (σ.1 19 0)] σ rfl rfl ⟨trivial, trivial, trivial⟩ rfl ?_
    refine aw_if_ne (off := 19) hC 29 Iff.rfl (by decide +kernel) (by decide) (fun h => ?_) (fun h => ?_)
    · have hF := (if_neg h).symm.trans hF
      refine aw_run (pc' := 32) hC [(.aload_n 0, 1, 0, 0, .null), (.lload_n 1, 1, 0, 0, .null), (.lload_n 3, 1, 0, 0, .null)] (by decide +kernel) [(0, .ref 19), (1, .long a1), (3, .long a3)] [.long a3, .long a1, .ref 19] σ rfl rfl ⟨trivial, trivial, trivial, trivial⟩ rfl ?_
      obtain ⟨q1, eq1, hF⟩ := nmd hF
      refine aw_callV hC hA (rest := []) (c_bo_put_19 σ a1 a3 q1 eq1) mt_X0_put ln_0_20 (by decide +kernel) ⟨_, rfl⟩ rfl rfl (Nat.le_of_ble_eq_true rfl) ⟨⟨rfl, rfl⟩, Nat.le_of_ble_eq_true rfl, Nat.le_of_ble_eq_true rfl⟩ ⟨Nat.zero_le _, Nat.zero_le _⟩ rfl ?_
      exact aw_vret hC hr (by decide +kernel)  hF
    · have hF := (if_pos h).symm.trans hF
      refine aw_run (pc' := 26) hC [(.lload_n 1, 1, 0, 0, .null), (.aload_n 0, 1, 0, 0, .null), (.getfield 17, 3, 0, 2, .null), (.lmul, 1, 0, 0, .null), (.aload_n 0, 1, 0, 0, .null), (.getfield 13, 3, 0, 1, .null), (.lload_n 3, 1, 0, 0, .null), (.lmul, 1, 0, 0, .null), (.lcmp, 1, 0, 0, .null)] (by decide +kernel) [(0, .ref 19), (1, .long a1), (3, .long a3)] [.int (lg_cmp (a1 * (σ.2 19 2)) ((σ.2 19 1) * a3))] σ rfl rfl ⟨trivial, trivial, trivial, trivial, trivial, trivial, trivial, trivial, trivial, trivial⟩ rfl ?_
      refine aw_if_ge (off := 9) hC 35 (lc_ge _ _) (by decide +kernel) (by decide) (fun h => ?_) (fun h => ?_)
      · have hF := (if_pos h).symm.trans hF
        exact aw_vret hC hr (by decide +kernel)  hF
      · have hF := (if_neg h).symm.trans hF
        refine aw_run (pc' := 32) hC [(.aload_n 0, 1, 0, 0, .null), (.lload_n 1, 1, 0, 0, .null), (.lload_n 3, 1, 0, 0, .null)] (by decide +kernel) [(0, .ref 19), (1, .long a1), (3, .long a3)] [.long a3, .long a1, .ref 19] σ rfl rfl ⟨trivial, trivial, trivial, trivial⟩ rfl ?_
        obtain ⟨q2, eq2, hF⟩ := nmd hF
        refine aw_callV hC hA (rest := []) (c_bo_put_19 σ a1 a3 q2 eq2) mt_X0_put ln_0_20 (by decide +kernel) ⟨_, rfl⟩ rfl rfl (Nat.le_of_ble_eq_true rfl) ⟨⟨rfl, rfl⟩, Nat.le_of_ble_eq_true rfl, Nat.le_of_ble_eq_true rfl⟩ ⟨Nat.zero_le _, Nat.zero_le _⟩ rfl ?_
        exact aw_vret hC hr (by decide +kernel)  hF
