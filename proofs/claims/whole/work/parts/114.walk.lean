def f_mo_count (N : Nat) (σ : Sg) (a1 : Int32) : Option Int32 := (f_mo_howMany N σ a1).bind fun q1 => some q1
def rm_mo_count : Room := { frames := 2, cells := 0, slots := 0, locals := 43 }
set_option maxHeartbeats 4000000 in
set_option maxRecDepth 100000 in
theorem c_mo_count (N : Nat) (σ : Sg) (a1 : Int32) (z : Int32) (hF : f_mo_count N σ a1 = some z) : Ctr yX7_count cX7_count 2 (some .int) rm_mo_count [.ref 20, .int a1] σ (some (.int z)) σ := by
  refine ct_start 7 (by decide) rfl (fun ad => Nat.le_of_ble_eq_true rfl) [(0, .ref 20), (1, .int a1)] (fun ad => rfl) ?_
  intro p l e s m args below meth c D ad tc A hC hA hr
  unfold f_mo_count at hF
  refine aw_run (pc' := 2) hC [(.aload_n 0, 1, 0, 0, .null), (.iload_n 1, 1, 0, 0, .null)] (by decide +kernel) [(0, .ref 20), (1, .int a1)] [.int a1, .ref 20] σ rfl rfl ⟨trivial, trivial, trivial⟩ rfl ?_
  obtain ⟨q1, eq1, hF⟩ := bd hF
  refine aw_callV hC hA (rest := []) (c_mo_howMany N σ a1 q1 eq1) mt_X7_howMany ln_7_268 (by decide +kernel) ⟨_, rfl⟩ rfl rfl (Nat.le_of_ble_eq_true rfl) ⟨⟨rfl, rfl⟩, Nat.le_of_ble_eq_true rfl, Nat.le_of_ble_eq_true rfl⟩ ⟨Nat.zero_le _, Nat.zero_le _⟩ rfl ?_
  exact aw_iret hC hr (by decide +kernel) (Option.some.inj hF) rfl
def f_mo_mix (σ : Sg) (a1 : Int64) : Sg := nm (uJ σ 20 24 ((31 * (σ.2 20 24)) + a1)) fun σ1 => σ1
def rm_mo_mix : Room := { frames := 0, cells := 0, slots := 0, locals := 0 }
set_option maxHeartbeats 4000000 in
set_option maxRecDepth 100000 in
theorem c_mo_mix (σ : Sg) (a1 : Int64) (z : Sg) (hF : f_mo_mix σ a1 = z) : Ctr yX7_mix cX7_mix 3 none rm_mo_mix [.ref 20, .long a1] σ none z := by
  refine ct_start 7 (by decide) rfl (fun ad => Nat.le_of_ble_eq_true rfl) [(0, .ref 20), (1, .long a1)] (fun ad => rfl) ?_
  intro p l e s m args below meth c D ad tc A hC hA hr
  unfold f_mo_mix at hF
  obtain ⟨σ1, hσ1, hF⟩ := nmd hF
  refine aw_run (pc' := 14) hC [(.aload_n 0, 1, 0, 0, .null), (.ldc2_w 271, 3, 0, 0, .long 31), (.aload_n 0, 1, 0, 0, .null), (.getfield 273, 3, 7, 24, .null), (.lmul, 1, 0, 0, .null), (.lload_n 1, 1, 0, 0, .null), (.ladd, 1, 0, 0, .null), (.putfield 273, 3, 7, 24, .null)] (by decide +kernel) [(0, .ref 20), (1, .long a1)] [] (uJ σ 20 24 ((31 * (σ.2 20 24)) + a1)) rfl rfl ⟨trivial, trivial, trivial, trivial, trivial, trivial, trivial, trivial, trivial⟩ hσ1 ?_
  exact aw_vret hC hr (by decide +kernel)  hF
def f_mo_mixReach_c13_s (N : Nat) (kc4 : Int32 → Sg → Option Sg) (kc13 : Int32 → Int32 → Sg → Option Sg) (a1 : Int32) (a2 : Int32) (σ : Sg) : Option Sg := if (4 : Int32) ≤ a2 then (kc4 (a1 + 50) σ) else ((f_mo_reachNow N σ a1 (a2 / 2) (a2 - a2 / 2 * 2)).bind fun q1 => nm (f_mo_mix q1.2 q1.1.toInt64) fun q2 => kc13 a1 (a2 + 1) q2)
def f_mo_mixReach_c13 (N : Nat) (kc4 : Int32 → Sg → Option Sg) : Nat → Int32 → Int32 → Sg → Option Sg
  | 0 => fun _ _ _ => none
  | n + 1 => f_mo_mixReach_c13_s N kc4 (f_mo_mixReach_c13 N kc4 n)
def f_mo_mixReach_c4_s (N : Nat) (kc4 : Int32 → Sg → Option Sg) (a1 : Int32) (σ : Sg) : Option Sg := if (200 : Int32) < a1 then (some σ) else (f_mo_mixReach_c13 N kc4 N a1 0 σ)
def f_mo_mixReach_c4 (N : Nat) : Nat → Int32 → Sg → Option Sg
  | 0 => fun _ _ => none
  | n + 1 => f_mo_mixReach_c4_s N (f_mo_mixReach_c4 N n)
def f_mo_mixReach (N : Nat) (σ : Sg) : Option Sg := f_mo_mixReach_c4 N N (-200) σ
def rm_mo_mixReach : Room := { frames := 5, cells := 0, slots := 0, locals := 131 }
set_option maxHeartbeats 4000000 in
set_option maxRecDepth 100000 in
theorem c_mo_mixReach (N : Nat) (σ : Sg) (z : Sg) (hF : f_mo_mixReach N σ = some z) : Ctr yX7_mixReach cX7_mixReach 3 none rm_mo_mixReach [.ref 20] σ none z := by
  refine ct_start 7 (by decide) rfl (fun ad => Nat.le_of_ble_eq_true rfl) [(0, .ref 20)] (fun ad => rfl) ?_
  intro p l e s m args below meth c D ad tc A hC hA hr
  have Jc13 : ∀ (kc4 : Int32 → Sg → Option Sg) (Hc4 : ∀ (a1 : Int32) (σ : Sg), kc4 a1 σ = some z → AW p l e rm_mo_mixReach s m args below meth c D ad tc 3 A s.heap 0 0 (MQ below (Qr none D ad tc z A) args s 0 0 A) 4 [(0, .ref 20), (1, .int a1)] [] σ) (n : Nat) (a1 : Int32) (a2 : Int32) (σ : Sg), f_mo_mixReach_c13 N kc4 n a1 a2 σ = some z → AW p l e rm_mo_mixReach s m args below meth c D ad tc 3 A s.heap 0 0 (MQ below (Qr none D ad tc z A) args s 0 0 A) 13 [(0, .ref 20), (1, .int a1), (2, .int a2)] [] σ := by
    intro kc4 Hc4 n
    induction n with
    | zero =>
      intro a1 a2 σ hF
      cases hF
    | succ n ih =>
      intro a1 a2 σ hF
      have hF : f_mo_mixReach_c13_s N kc4 (f_mo_mixReach_c13 N kc4 n) a1 a2 σ = some z := hF
      unfold f_mo_mixReach_c13_s at hF
      refine aw_run (pc' := 15) hC [(.iload_n 2, 1, 0, 0, .null), (.iconst 4, 1, 0, 0, .int 4)] (by decide +kernel) [(0, .ref 20), (1, .int a1), (2, .int a2)] [.int 4, .int a2] σ rfl rfl ⟨trivial, trivial, trivial⟩ rfl ?_
      refine aw_icmp_ge (off := 25) hC 40 (by decide +kernel) (by decide) (fun h => ?_) (fun h => ?_)
      · have hF := (if_pos h).symm.trans hF
        refine aw_run (pc' := 43) hC [(.iinc 1 50, 3, 0, 0, .int 50)] (by decide +kernel) [(0, .ref 20), (1, .int (a1 + 50)), (2, .int a2)] [] σ rfl rfl ⟨trivial, trivial⟩ rfl ?_
        refine aw_goto (off := -39) hC 4 (by decide +kernel) (by decide) ?_
        refine aw_pick [0, 1] [(0, .ref 20), (1, .int (a1 + 50))] rfl ?_
        exact Hc4 (a1 + 50) σ hF
      · have hF := (if_neg h).symm.trans hF
        refine aw_run (pc' := 27) hC [(.aload_n 0, 1, 0, 0, .null), (.aload_n 0, 1, 0, 0, .null), (.iload_n 1, 1, 0, 0, .null), (.iload_n 2, 1, 0, 0, .null), (.iconst 2, 1, 0, 0, .int 2), (.idiv, 1, 0, 0, .null), (.iload_n 2, 1, 0, 0, .null), (.iconst 2, 1, 0, 0, .int 2), (.irem, 1, 0, 0, .null)] (by decide +kernel) [(0, .ref 20), (1, .int a1), (2, .int a2)] [.int (a2 - a2 / 2 * 2), .int (a2 / 2), .int a1, .ref 20, .ref 20] σ rfl rfl ⟨trivial, trivial, trivial, trivial, trivial, (show ¬ ((2 : Int32) = 0) by decide), trivial, trivial, (show ¬ ((2 : Int32) = 0) by decide), trivial⟩ rfl ?_
        obtain ⟨q1, eq1, hF⟩ := bd hF
        refine aw_callV hC hA (rest := [.ref 20]) (c_mo_reachNow N σ a1 (a2 / 2) (a2 - a2 / 2 * 2) q1 eq1) mt_X7_reachNow ln_7_259 (by decide +kernel) ⟨_, rfl⟩ rfl rfl (Nat.le_of_ble_eq_true rfl) ⟨⟨rfl, rfl⟩, Nat.le_of_ble_eq_true rfl, Nat.le_of_ble_eq_true rfl⟩ ⟨Nat.zero_le _, Nat.zero_le _⟩ rfl ?_
        refine aw_run (pc' := 31) hC [(.i2l, 1, 0, 0, .null)] (by decide +kernel) [(0, .ref 20), (1, .int a1), (2, .int a2)] [.long q1.1.toInt64, .ref 20] q1.2 rfl rfl ⟨trivial, trivial⟩ rfl ?_
        obtain ⟨q2, eq2, hF⟩ := nmd hF
        refine aw_callV hC hA (rest := []) (c_mo_mix q1.2 q1.1.toInt64 q2 eq2) mt_X7_mix ln_7_276 (by decide +kernel) ⟨_, rfl⟩ rfl rfl (Nat.le_of_ble_eq_true rfl) ⟨⟨rfl, rfl⟩, Nat.le_of_ble_eq_true rfl, Nat.le_of_ble_eq_true rfl⟩ ⟨Nat.zero_le _, Nat.zero_le _⟩ rfl ?_
        refine aw_run (pc' := 37) hC [(.iinc 2 1, 3, 0, 0, .int 1)] (by decide +kernel) [(0, .ref 20), (1, .int a1), (2, .int (a2 + 1))] [] q2 rfl rfl ⟨trivial, trivial⟩ rfl ?_
        refine aw_goto (off := -24) hC 13 (by decide +kernel) (by decide) ?_
        exact ih a1 (a2 + 1) q2 hF
  have Jc4 : ∀ (n : Nat) (a1 : Int32) (σ : Sg), f_mo_mixReach_c4 N n a1 σ = some z → AW p l e rm_mo_mixReach s m args below meth c D ad tc 3 A s.heap 0 0 (MQ below (Qr none D ad tc z A) args s 0 0 A) 4 [(0, .ref 20), (1, .int a1)] [] σ := by
    intro n
    induction n with
    | zero =>
      intro a1 σ hF
      cases hF
    | succ n ih =>
      intro a1 σ hF
      have hF : f_mo_mixReach_c4_s N (f_mo_mixReach_c4 N n) a1 σ = some z := hF
      unfold f_mo_mixReach_c4_s at hF
      refine aw_run (pc' := 8) hC [(.iload_n 1, 1, 0, 0, .null), (.sipush 200, 3, 0, 0, .int 200)] (by decide +kernel) [(0, .ref 20), (1, .int a1)] [.int 200, .int a1] σ rfl rfl ⟨trivial, trivial, trivial⟩ rfl ?_
      refine aw_icmp_gt (off := 38) hC 46 (by decide +kernel) (by decide) (fun h => ?_) (fun h => ?_)
      · have hF := (if_pos h).symm.trans hF
        exact aw_vret hC hr (by decide +kernel)  (Option.some.inj hF)
      · have hF := (if_neg h).symm.trans hF
        refine aw_run (pc' := 13) hC [(.iconst 0, 1, 0, 0, .int 0), (.istore_n 2, 1, 0, 0, .null)] (by decide +kernel) [(0, .ref 20), (1, .int a1), (2, .int 0)] [] σ rfl rfl ⟨trivial, trivial, trivial⟩ rfl ?_
        exact Jc13 (f_mo_mixReach_c4 N n) ih N a1 0 σ hF
  unfold f_mo_mixReach at hF
  refine aw_run (pc' := 4) hC [(.sipush (-200), 3, 0, 0, .int (-200)), (.istore_n 1, 1, 0, 0, .null)] (by decide +kernel) [(0, .ref 20), (1, .int (-200))] [] σ rfl rfl ⟨trivial, trivial, trivial⟩ rfl ?_
  exact Jc4 N (-200) σ hF
def f_mo_mixKernel_c25_s (N : Nat) (kc25 : Int32 → Sg → Option Sg) (a1 : Int32) (σ : Sg) : Option Sg := if (σ.1 20 19) ≤ a1 then (some σ) else (if ib a1 17 then if ib (σ.1 30 a1.toNatClampNeg) 16 then nm (f_mo_mix σ (σ.2 28 (σ.1 30 a1.toNatClampNeg).toNatClampNeg)) fun q3 => if ib (q3.1 30 a1.toNatClampNeg) 16 then nm (f_mo_mix q3 (q3.2 29 (q3.1 30 a1.toNatClampNeg).toNatClampNeg)) fun q5 => kc25 (a1 + 1) q5 else none else none else none)
def f_mo_mixKernel_c25 (N : Nat) : Nat → Int32 → Sg → Option Sg
  | 0 => fun _ _ => none
  | n + 1 => f_mo_mixKernel_c25_s N (f_mo_mixKernel_c25 N n)
def f_mo_mixKernel_c2_s (N : Nat) (kc2 : Int32 → Sg → Option Sg) (a1 : Int32) (σ : Sg) : Option Sg := if (4 : Int32) ≤ a1 then (f_mo_mixKernel_c25 N N 0 σ) else ((f_mo_kernelNow N σ a1).bind fun q6 => nm (f_mo_mix q6.2 q6.1.toInt64) fun q7 => kc2 (a1 + 1) q7)
def f_mo_mixKernel_c2 (N : Nat) : Nat → Int32 → Sg → Option Sg
  | 0 => fun _ _ => none
  | n + 1 => f_mo_mixKernel_c2_s N (f_mo_mixKernel_c2 N n)
def f_mo_mixKernel (N : Nat) (σ : Sg) : Option Sg := f_mo_mixKernel_c2 N N 0 σ
def rm_mo_mixKernel : Room := { frames := 4, cells := 0, slots := 0, locals := 95 }
set_option maxHeartbeats 4000000 in
set_option maxRecDepth 100000 in
theorem c_mo_mixKernel (N : Nat) (σ : Sg) (z : Sg) (hF : f_mo_mixKernel N σ = some z) : Ctr yX7_mixKernel cX7_mixKernel 2 none rm_mo_mixKernel [.ref 20] σ none z := by
  refine ct_start 7 (by decide) rfl (fun ad => Nat.le_of_ble_eq_true rfl) [(0, .ref 20)] (fun ad => rfl) ?_
  intro p l e s m args below meth c D ad tc A hC hA hr
  have Jc25 : ∀ (n : Nat) (a1 : Int32) (σ : Sg), f_mo_mixKernel_c25 N n a1 σ = some z → AW p l e rm_mo_mixKernel s m args below meth c D ad tc 2 A s.heap 0 0 (MQ below (Qr none D ad tc z A) args s 0 0 A) 25 [(0, .ref 20), (1, .int a1)] [] σ := by
    intro n
    induction n with
    | zero =>
      intro a1 σ hF
      cases hF
    | succ n ih =>
      intro a1 σ hF
      have hF : f_mo_mixKernel_c25_s N (f_mo_mixKernel_c25 N n) a1 σ = some z := hF
      unfold f_mo_mixKernel_c25_s at hF
      refine aw_run (pc' := 30) hC [(.iload_n 1, 1, 0, 0, .null), (.aload_n 0, 1, 0, 0, .null), (.getfield 174, 3, 7, 19, .null)] (by decide +kernel) [(0, .ref 20), (1, .int a1)] [.int (σ.1 20 19), .int a1] σ rfl rfl ⟨trivial, trivial, trivial, trivial⟩ rfl ?_
      refine aw_icmp_ge (off := 39) hC 69 (by decide +kernel) (by decide) (fun h => ?_) (fun h => ?_)
      · have hF := (if_pos h).symm.trans hF
        exact aw_vret hC hr (by decide +kernel)  (Option.some.inj hF)
      · have hF := (if_neg h).symm.trans hF
        obtain ⟨g1, hF⟩ := gd hF
        obtain ⟨g2, hF⟩ := gd hF
        refine aw_run (pc' := 45) hC [(.aload_n 0, 1, 0, 0, .null), (.aload_n 0, 1, 0, 0, .null), (.getfield 36, 3, 7, 17, .null), (.aload_n 0, 1, 0, 0, .null), (.getfield 43, 3, 7, 20, .null), (.iload_n 1, 1, 0, 0, .null), (.iaload, 1, 0, 0, .null), (.laload, 1, 0, 0, .null)] (by decide +kernel) [(0, .ref 20), (1, .int a1)] [.long (σ.2 28 (σ.1 30 a1.toNatClampNeg).toNatClampNeg), .ref 20] σ rfl rfl ⟨trivial, trivial, trivial, trivial, trivial, trivial, g1, g2, trivial⟩ rfl ?_
        obtain ⟨q3, eq3, hF⟩ := nmd hF
        refine aw_callV hC hA (rest := []) (c_mo_mix σ (σ.2 28 (σ.1 30 a1.toNatClampNeg).toNatClampNeg) q3 eq3) mt_X7_mix ln_7_276 (by decide +kernel) ⟨_, rfl⟩ rfl rfl (Nat.le_of_ble_eq_true rfl) ⟨⟨rfl, rfl⟩, Nat.le_of_ble_eq_true rfl, Nat.le_of_ble_eq_true rfl⟩ ⟨Nat.zero_le _, Nat.zero_le _⟩ rfl ?_
        obtain ⟨g4, hF⟩ := gd hF
        refine aw_run (pc' := 60) hC [(.aload_n 0, 1, 0, 0, .null), (.aload_n 0, 1, 0, 0, .null), (.getfield 40, 3, 7, 18, .null), (.aload_n 0, 1, 0, 0, .null), (.getfield 43, 3, 7, 20, .null), (.iload_n 1, 1, 0, 0, .null), (.iaload, 1, 0, 0, .null), (.laload, 1, 0, 0, .null)] (by decide +kernel) [(0, .ref 20), (1, .int a1)] [.long (q3.2 29 (q3.1 30 a1.toNatClampNeg).toNatClampNeg), .ref 20] q3 rfl rfl ⟨trivial, trivial, trivial, trivial, trivial, trivial, g1, g4, trivial⟩ rfl ?_
        obtain ⟨q5, eq5, hF⟩ := nmd hF
        refine aw_callV hC hA (rest := []) (c_mo_mix q3 (q3.2 29 (q3.1 30 a1.toNatClampNeg).toNatClampNeg) q5 eq5) mt_X7_mix ln_7_276 (by decide +kernel) ⟨_, rfl⟩ rfl rfl (Nat.le_of_ble_eq_true rfl) ⟨⟨rfl, rfl⟩, Nat.le_of_ble_eq_true rfl, Nat.le_of_ble_eq_true rfl⟩ ⟨Nat.zero_le _, Nat.zero_le _⟩ rfl ?_
        refine aw_run (pc' := 66) hC [(.iinc 1 1, 3, 0, 0, .int 1)] (by decide +kernel) [(0, .ref 20), (1, .int (a1 + 1))] [] q5 rfl rfl ⟨trivial, trivial⟩ rfl ?_
        refine aw_goto (off := -41) hC 25 (by decide +kernel) (by decide) ?_
        exact ih (a1 + 1) q5 hF
  have Jc2 : ∀ (n : Nat) (a1 : Int32) (σ : Sg), f_mo_mixKernel_c2 N n a1 σ = some z → AW p l e rm_mo_mixKernel s m args below meth c D ad tc 2 A s.heap 0 0 (MQ below (Qr none D ad tc z A) args s 0 0 A) 2 [(0, .ref 20), (1, .int a1)] [] σ := by
    intro n
    induction n with
    | zero =>
      intro a1 σ hF
      cases hF
    | succ n ih =>
      intro a1 σ hF
      have hF : f_mo_mixKernel_c2_s N (f_mo_mixKernel_c2 N n) a1 σ = some z := hF
      unfold f_mo_mixKernel_c2_s at hF
      refine aw_run (pc' := 4) hC [(.iload_n 1, 1, 0, 0, .null), (.iconst 4, 1, 0, 0, .int 4)] (by decide +kernel) [(0, .ref 20), (1, .int a1)] [.int 4, .int a1] σ rfl rfl ⟨trivial, trivial, trivial⟩ rfl ?_
      refine aw_icmp_ge (off := 19) hC 23 (by decide +kernel) (by decide) (fun h => ?_) (fun h => ?_)
      · have hF := (if_pos h).symm.trans hF
        refine aw_run (pc' := 25) hC [(.iconst 0, 1, 0, 0, .int 0), (.istore_n 1, 1, 0, 0, .null)] (by decide +kernel) [(0, .ref 20), (1, .int 0)] [] σ rfl rfl ⟨trivial, trivial, trivial⟩ rfl ?_
        exact Jc25 N 0 σ hF
      · have hF := (if_neg h).symm.trans hF
        refine aw_run (pc' := 10) hC [(.aload_n 0, 1, 0, 0, .null), (.aload_n 0, 1, 0, 0, .null), (.iload_n 1, 1, 0, 0, .null)] (by decide +kernel) [(0, .ref 20), (1, .int a1)] [.int a1, .ref 20, .ref 20] σ rfl rfl ⟨trivial, trivial, trivial, trivial⟩ rfl ?_
        obtain ⟨q6, eq6, hF⟩ := bd hF
        refine aw_callV hC hA (rest := [.ref 20]) (c_mo_kernelNow N σ a1 q6 eq6) mt_X7_kernelNow ln_7_199 (by decide +kernel) ⟨_, rfl⟩ rfl rfl (Nat.le_of_ble_eq_true rfl) ⟨⟨rfl, rfl⟩, Nat.le_of_ble_eq_true rfl, Nat.le_of_ble_eq_true rfl⟩ ⟨Nat.zero_le _, Nat.zero_le _⟩ rfl ?_
        refine aw_run (pc' := 14) hC [(.i2l, 1, 0, 0, .null)] (by decide +kernel) [(0, .ref 20), (1, .int a1)] [.long q6.1.toInt64, .ref 20] q6.2 rfl rfl ⟨trivial, trivial⟩ rfl ?_
        obtain ⟨q7, eq7, hF⟩ := nmd hF
        refine aw_callV hC hA (rest := []) (c_mo_mix q6.2 q6.1.toInt64 q7 eq7) mt_X7_mix ln_7_276 (by decide +kernel) ⟨_, rfl⟩ rfl rfl (Nat.le_of_ble_eq_true rfl) ⟨⟨rfl, rfl⟩, Nat.le_of_ble_eq_true rfl, Nat.le_of_ble_eq_true rfl⟩ ⟨Nat.zero_le _, Nat.zero_le _⟩ rfl ?_
        refine aw_run (pc' := 20) hC [(.iinc 1 1, 3, 0, 0, .int 1)] (by decide +kernel) [(0, .ref 20), (1, .int (a1 + 1))] [] q7 rfl rfl ⟨trivial, trivial⟩ rfl ?_
        refine aw_goto (off := -18) hC 2 (by decide +kernel) (by decide) ?_
        exact ih (a1 + 1) q7 hF
  unfold f_mo_mixKernel at hF
  refine aw_run (pc' := 2) hC [(.iconst 0, 1, 0, 0, .int 0), (.istore_n 1, 1, 0, 0, .null)] (by decide +kernel) [(0, .ref 20), (1, .int 0)] [] σ rfl rfl ⟨trivial, trivial, trivial⟩ rfl ?_
  exact Jc2 N 0 σ hF
def f_mo_digest_c112_s (N : Nat) (kc112 : Int32 → Sg → Option (Int64 × Sg)) (a1 : Int32) (σ : Sg) : Option (Int64 × Sg) := if (6 : Int32) ≤ a1 then (some (σ.2 20 24, σ)) else ((f_mo_howMany N σ a1).bind fun q8 => nm (f_mo_mix σ q8.toInt64) fun q9 => kc112 (a1 + 1) q9)
def f_mo_digest_c112 (N : Nat) : Nat → Int32 → Sg → Option (Int64 × Sg)
  | 0 => fun _ _ => none
  | n + 1 => f_mo_digest_c112_s N (f_mo_digest_c112 N n)
def f_mo_digest_c85_s (N : Nat) (kc85 : Int32 → Sg → Option (Int64 × Sg)) (a1 : Int32) (σ : Sg) : Option (Int64 × Sg) := if (σ.1 20 0) ≤ a1 then (f_mo_digest_c112 N N 0 σ) else (if ib a1 24 then nm (f_mo_mix σ (σ.1 21 a1.toNatClampNeg).toInt64) fun q11 => kc85 (a1 + 1) q11 else none)
def f_mo_digest_c85 (N : Nat) : Nat → Int32 → Sg → Option (Int64 × Sg)
  | 0 => fun _ _ => none
  | n + 1 => f_mo_digest_c85_s N (f_mo_digest_c85 N n)
def f_mo_digest_c72 (N : Nat) (σ : Sg) : Option (Int64 × Sg) := (f_mo_canReach N σ).bind fun q7 => if q7 = 0 then (f_mo_digest_c85 N N 0 σ) else ((f_mo_mixReach N σ).bind fun q12 => f_mo_digest_c85 N N 0 q12)
def f_mo_digest_c9_s (N : Nat) (kc9 : Int32 → Sg → Option (Int64 × Sg)) (a1 : Int32) (σ : Sg) : Option (Int64 × Sg) := if (9 * (σ.1 20 2)) ≤ a1 then ((f_mo_fits N σ).bind fun q2 => nm (f_mo_mix σ q2.toInt64) fun q3 => (f_mo_wrongNow N q3).bind fun q4 => nm (f_mo_mix q3 q4.toInt64) fun q5 => (f_mo_fit N q5).bind fun q6 => if q6 = 0 then (f_mo_digest_c72 N q5) else ((f_mo_mixKernel N q5).bind fun q13 => f_mo_digest_c72 N q13)) else ((f_mo_stationNow σ (a1 / 9) (a1 - a1 / 9 * 9)).bind fun q14 => nm (f_mo_mix σ q14.toInt64) fun q15 => kc9 (a1 + 1) q15)
def f_mo_digest_c9 (N : Nat) : Nat → Int32 → Sg → Option (Int64 × Sg)
  | 0 => fun _ _ => none
  | n + 1 => f_mo_digest_c9_s N (f_mo_digest_c9 N n)
def f_mo_digest (N : Nat) (σ : Sg) : Option (Int64 × Sg) := nm (uJ σ 20 24 1613) fun σ1 => f_mo_digest_c9 N N 0 σ1
def rm_mo_digest : Room := { frames := 6, cells := 0, slots := 0, locals := 153 }
set_option maxHeartbeats 4000000 in
set_option maxRecDepth 100000 in
theorem c_mo_digest (N : Nat) (σ : Sg) (z : Int64 × Sg) (hF : f_mo_digest N σ = some z) : Ctr yX7_digest cX7_digest 2 (some .long) rm_mo_digest [.ref 20] σ (some (.long z.1)) z.2 := by
  refine ct_start 7 (by decide) rfl (fun ad => Nat.le_of_ble_eq_true rfl) [(0, .ref 20)] (fun ad => rfl) ?_
  intro p l e s m args below meth c D ad tc A hC hA hr
  have Jc112 : ∀ (n : Nat) (a1 : Int32) (σ : Sg), f_mo_digest_c112 N n a1 σ = some z → AW p l e rm_mo_digest s m args below meth c D ad tc 2 A s.heap 0 0 (MQ below (Qr (some (.long z.1)) D ad tc z.2 A) args s 0 0 A) 112 [(0, .ref 20), (1, .int a1)] [] σ := by
    intro n
    induction n with
    | zero =>
      intro a1 σ hF
      cases hF
    | succ n ih =>
      intro a1 σ hF
      have hF : f_mo_digest_c112_s N (f_mo_digest_c112 N n) a1 σ = some z := hF
      unfold f_mo_digest_c112_s at hF
      refine aw_run (pc' := 115) hC [(.iload_n 1, 1, 0, 0, .null), (.bipush 6, 2, 0, 0, .int 6)] (by decide +kernel) [(0, .ref 20), (1, .int a1)] [.int 6, .int a1] σ rfl rfl ⟨trivial, trivial, trivial⟩ rfl ?_
      refine aw_icmp_ge (off := 19) hC 134 (by decide +kernel) (by decide) (fun h => ?_) (fun h => ?_)
      · have hF := (if_pos h).symm.trans hF
        refine aw_run (pc' := 138) hC [(.aload_n 0, 1, 0, 0, .null), (.getfield 273, 3, 7, 24, .null)] (by decide +kernel) [(0, .ref 20), (1, .int a1)] [.long (σ.2 20 24)] σ rfl rfl ⟨trivial, trivial, trivial⟩ rfl ?_
        exact aw_lret hC hr (by decide +kernel) (pS1 hF) (pS2 hF)
      · have hF := (if_neg h).symm.trans hF
        refine aw_run (pc' := 121) hC [(.aload_n 0, 1, 0, 0, .null), (.aload_n 0, 1, 0, 0, .null), (.iload_n 1, 1, 0, 0, .null)] (by decide +kernel) [(0, .ref 20), (1, .int a1)] [.int a1, .ref 20, .ref 20] σ rfl rfl ⟨trivial, trivial, trivial, trivial⟩ rfl ?_
        obtain ⟨q8, eq8, hF⟩ := bd hF
        refine aw_callV hC hA (rest := [.ref 20]) (c_mo_howMany N σ a1 q8 eq8) mt_X7_howMany ln_7_268 (by decide +kernel) ⟨_, rfl⟩ rfl rfl (Nat.le_of_ble_eq_true rfl) ⟨⟨rfl, rfl⟩, Nat.le_of_ble_eq_true rfl, Nat.le_of_ble_eq_true rfl⟩ ⟨Nat.zero_le _, Nat.zero_le _⟩ rfl ?_
        refine aw_run (pc' := 125) hC [(.i2l, 1, 0, 0, .null)] (by decide +kernel) [(0, .ref 20), (1, .int a1)] [.long q8.toInt64, .ref 20] σ rfl rfl ⟨trivial, trivial⟩ rfl ?_
        obtain ⟨q9, eq9, hF⟩ := nmd hF
        refine aw_callV hC hA (rest := []) (c_mo_mix σ q8.toInt64 q9 eq9) mt_X7_mix ln_7_276 (by decide +kernel) ⟨_, rfl⟩ rfl rfl (Nat.le_of_ble_eq_true rfl) ⟨⟨rfl, rfl⟩, Nat.le_of_ble_eq_true rfl, Nat.le_of_ble_eq_true rfl⟩ ⟨Nat.zero_le _, Nat.zero_le _⟩ rfl ?_
        refine aw_run (pc' := 131) hC [(.iinc 1 1, 3, 0, 0, .int 1)] (by decide +kernel) [(0, .ref 20), (1, .int (a1 + 1))] [] q9 rfl rfl ⟨trivial, trivial⟩ rfl ?_
        refine aw_goto (off := -19) hC 112 (by decide +kernel) (by decide) ?_
        exact ih (a1 + 1) q9 hF
  have Jc85 : ∀ (n : Nat) (a1 : Int32) (σ : Sg), f_mo_digest_c85 N n a1 σ = some z → AW p l e rm_mo_digest s m args below meth c D ad tc 2 A s.heap 0 0 (MQ below (Qr (some (.long z.1)) D ad tc z.2 A) args s 0 0 A) 85 [(0, .ref 20), (1, .int a1)] [] σ := by
    intro n
    induction n with
    | zero =>
      intro a1 σ hF
      cases hF
    | succ n ih =>
      intro a1 σ hF
      have hF : f_mo_digest_c85_s N (f_mo_digest_c85 N n) a1 σ = some z := hF
      unfold f_mo_digest_c85_s at hF
      refine aw_run (pc' := 90) hC [(.iload_n 1, 1, 0, 0, .null), (.aload_n 0, 1, 0, 0, .null), (.getfield 55, 3, 7, 0, .null)] (by decide +kernel) [(0, .ref 20), (1, .int a1)] [.int (σ.1 20 0), .int a1] σ rfl rfl ⟨trivial, trivial, trivial, trivial⟩ rfl ?_
      refine aw_icmp_ge (off := 20) hC 110 (by decide +kernel) (by decide) (fun h => ?_) (fun h => ?_)
      · have hF := (if_pos h).symm.trans hF
        refine aw_run (pc' := 112) hC [(.iconst 0, 1, 0, 0, .int 0), (.istore_n 1, 1, 0, 0, .null)] (by decide +kernel) [(0, .ref 20), (1, .int 0)] [] σ rfl rfl ⟨trivial, trivial, trivial⟩ rfl ?_
        exact Jc112 N 0 σ hF
      · have hF := (if_neg h).symm.trans hF
        obtain ⟨g10, hF⟩ := gd hF
        refine aw_run (pc' := 101) hC [(.aload_n 0, 1, 0, 0, .null), (.aload_n 0, 1, 0, 0, .null), (.getfield 7, 3, 7, 1, .null), (.iload_n 1, 1, 0, 0, .null), (.iaload, 1, 0, 0, .null), (.i2l, 1, 0, 0, .null)] (by decide +kernel) [(0, .ref 20), (1, .int a1)] [.long (σ.1 21 a1.toNatClampNeg).toInt64, .ref 20] σ rfl rfl ⟨trivial, trivial, trivial, trivial, g10, trivial, trivial⟩ rfl ?_
        obtain ⟨q11, eq11, hF⟩ := nmd hF
        refine aw_callV hC hA (rest := []) (c_mo_mix σ (σ.1 21 a1.toNatClampNeg).toInt64 q11 eq11) mt_X7_mix ln_7_276 (by decide +kernel) ⟨_, rfl⟩ rfl rfl (Nat.le_of_ble_eq_true rfl) ⟨⟨rfl, rfl⟩, Nat.le_of_ble_eq_true rfl, Nat.le_of_ble_eq_true rfl⟩ ⟨Nat.zero_le _, Nat.zero_le _⟩ rfl ?_
        refine aw_run (pc' := 107) hC [(.iinc 1 1, 3, 0, 0, .int 1)] (by decide +kernel) [(0, .ref 20), (1, .int (a1 + 1))] [] q11 rfl rfl ⟨trivial, trivial⟩ rfl ?_
        refine aw_goto (off := -22) hC 85 (by decide +kernel) (by decide) ?_
        exact ih (a1 + 1) q11 hF
  have Jc72 : ∀ (σ : Sg), f_mo_digest_c72 N σ = some z → AW p l e rm_mo_digest s m args below meth c D ad tc 2 A s.heap 0 0 (MQ below (Qr (some (.long z.1)) D ad tc z.2 A) args s 0 0 A) 72 [(0, .ref 20)] [] σ := by
    intro σ hF
    unfold f_mo_digest_c72 at hF
    refine aw_run (pc' := 73) hC [(.aload_n 0, 1, 0, 0, .null)] (by decide +kernel) [(0, .ref 20)] [.ref 20] σ rfl rfl ⟨trivial, trivial⟩ rfl ?_
    obtain ⟨q7, eq7, hF⟩ := bd hF
    refine aw_callV hC hA (rest := []) (c_mo_canReach N σ q7 eq7) mt_X7_canReach ln_7_256 (by decide +kernel) ⟨_, rfl⟩ rfl rfl (Nat.le_of_ble_eq_true rfl) ⟨⟨rfl, rfl⟩, Nat.le_of_ble_eq_true rfl, Nat.le_of_ble_eq_true rfl⟩ ⟨Nat.zero_le _, Nat.zero_le _⟩ rfl ?_
    refine aw_if_eq (off := 7) hC 83 Iff.rfl (by decide +kernel) (by decide) (fun h => ?_) (fun h => ?_)
    · have hF := (if_pos h).symm.trans hF
      refine aw_run (pc' := 85) hC [(.iconst 0, 1, 0, 0, .int 0), (.istore_n 1, 1, 0, 0, .null)] (by decide +kernel) [(0, .ref 20), (1, .int 0)] [] σ rfl rfl ⟨trivial, trivial, trivial⟩ rfl ?_
      exact Jc85 N 0 σ hF
    · have hF := (if_neg h).symm.trans hF
      refine aw_run (pc' := 80) hC [(.aload_n 0, 1, 0, 0, .null)] (by decide +kernel) [(0, .ref 20)] [.ref 20] σ rfl rfl ⟨trivial, trivial⟩ rfl ?_
      obtain ⟨q12, eq12, hF⟩ := bd hF
      refine aw_callV hC hA (rest := []) (c_mo_mixReach N σ q12 eq12) mt_X7_mixReach ln_7_288 (by decide +kernel) ⟨_, rfl⟩ rfl rfl (Nat.le_of_ble_eq_true rfl) ⟨⟨rfl, rfl⟩, Nat.le_of_ble_eq_true rfl, Nat.le_of_ble_eq_true rfl⟩ ⟨Nat.zero_le _, Nat.zero_le _⟩ rfl ?_
      refine aw_run (pc' := 85) hC [(.iconst 0, 1, 0, 0, .int 0), (.istore_n 1, 1, 0, 0, .null)] (by decide +kernel) [(0, .ref 20), (1, .int 0)] [] q12 rfl rfl ⟨trivial, trivial, trivial⟩ rfl ?_
      exact Jc85 N 0 q12 hF
  have Jc9 : ∀ (n : Nat) (a1 : Int32) (σ : Sg), f_mo_digest_c9 N n a1 σ = some z → AW p l e rm_mo_digest s m args below meth c D ad tc 2 A s.heap 0 0 (MQ below (Qr (some (.long z.1)) D ad tc z.2 A) args s 0 0 A) 9 [(0, .ref 20), (1, .int a1)] [] σ := by
    intro n
    induction n with
    | zero =>
      intro a1 σ hF
      cases hF
    | succ n ih =>
      intro a1 σ hF
      have hF : f_mo_digest_c9_s N (f_mo_digest_c9 N n) a1 σ = some z := hF
      unfold f_mo_digest_c9_s at hF
      refine aw_run (pc' := 17) hC [(.iload_n 1, 1, 0, 0, .null), (.bipush 9, 2, 0, 0, .int 9), (.aload_n 0, 1, 0, 0, .null), (.getfield 98, 3, 7, 2, .null), (.imul, 1, 0, 0, .null)] (by decide +kernel) [(0, .ref 20), (1, .int a1)] [.int (9 * (σ.1 20 2)), .int a1] σ rfl rfl ⟨trivial, trivial, trivial, trivial, trivial, trivial⟩ rfl ?_
      refine aw_icmp_ge (off := 26) hC 43 (by decide +kernel) (by decide) (fun h => ?_) (fun h => ?_)
      · have hF := (if_pos h).symm.trans hF
        refine aw_run (pc' := 45) hC [(.aload_n 0, 1, 0, 0, .null), (.aload_n 0, 1, 0, 0, .null)] (by decide +kernel) [(0, .ref 20), (1, .int a1)] [.ref 20, .ref 20] σ rfl rfl ⟨trivial, trivial, trivial⟩ rfl ?_
        obtain ⟨q2, eq2, hF⟩ := bd hF
        refine aw_callV hC hA (rest := [.ref 20]) (c_mo_fits N σ q2 eq2) mt_X7_fits ln_7_282 (by decide +kernel) ⟨_, rfl⟩ rfl rfl (Nat.le_of_ble_eq_true rfl) ⟨⟨rfl, rfl⟩, Nat.le_of_ble_eq_true rfl, Nat.le_of_ble_eq_true rfl⟩ ⟨Nat.zero_le _, Nat.zero_le _⟩ rfl ?_
        refine aw_run (pc' := 49) hC [(.i2l, 1, 0, 0, .null)] (by decide +kernel) [(0, .ref 20), (1, .int a1)] [.long q2.toInt64, .ref 20] σ rfl rfl ⟨trivial, trivial⟩ rfl ?_
        obtain ⟨q3, eq3, hF⟩ := nmd hF
        refine aw_callV hC hA (rest := []) (c_mo_mix σ q2.toInt64 q3 eq3) mt_X7_mix ln_7_276 (by decide +kernel) ⟨_, rfl⟩ rfl rfl (Nat.le_of_ble_eq_true rfl) ⟨⟨rfl, rfl⟩, Nat.le_of_ble_eq_true rfl, Nat.le_of_ble_eq_true rfl⟩ ⟨Nat.zero_le _, Nat.zero_le _⟩ rfl ?_
        refine aw_run (pc' := 54) hC [(.aload_n 0, 1, 0, 0, .null), (.aload_n 0, 1, 0, 0, .null)] (by decide +kernel) [(0, .ref 20), (1, .int a1)] [.ref 20, .ref 20] q3 rfl rfl ⟨trivial, trivial, trivial⟩ rfl ?_
        obtain ⟨q4, eq4, hF⟩ := bd hF
        refine aw_callV hC hA (rest := [.ref 20]) (c_mo_wrongNow N q3 q4 eq4) mt_X7_wrongNow ln_7_157 (by decide +kernel) ⟨_, rfl⟩ rfl rfl (Nat.le_of_ble_eq_true rfl) ⟨⟨rfl, rfl⟩, Nat.le_of_ble_eq_true rfl, Nat.le_of_ble_eq_true rfl⟩ ⟨Nat.zero_le _, Nat.zero_le _⟩ rfl ?_
        refine aw_run (pc' := 58) hC [(.i2l, 1, 0, 0, .null)] (by decide +kernel) [(0, .ref 20), (1, .int a1)] [.long q4.toInt64, .ref 20] q3 rfl rfl ⟨trivial, trivial⟩ rfl ?_
        obtain ⟨q5, eq5, hF⟩ := nmd hF
        refine aw_callV hC hA (rest := []) (c_mo_mix q3 q4.toInt64 q5 eq5) mt_X7_mix ln_7_276 (by decide +kernel) ⟨_, rfl⟩ rfl rfl (Nat.le_of_ble_eq_true rfl) ⟨⟨rfl, rfl⟩, Nat.le_of_ble_eq_true rfl, Nat.le_of_ble_eq_true rfl⟩ ⟨Nat.zero_le _, Nat.zero_le _⟩ rfl ?_
        refine aw_run (pc' := 62) hC [(.aload_n 0, 1, 0, 0, .null)] (by decide +kernel) [(0, .ref 20), (1, .int a1)] [.ref 20] q5 rfl rfl ⟨trivial, trivial⟩ rfl ?_
        obtain ⟨q6, eq6, hF⟩ := bd hF
        refine aw_callV hC hA (rest := []) (c_mo_fit N q5 q6 eq6) mt_X7_fit ln_7_151 (by decide +kernel) ⟨_, rfl⟩ rfl rfl (Nat.le_of_ble_eq_true rfl) ⟨⟨rfl, rfl⟩, Nat.le_of_ble_eq_true rfl, Nat.le_of_ble_eq_true rfl⟩ ⟨Nat.zero_le _, Nat.zero_le _⟩ rfl ?_
        refine aw_if_eq (off := 7) hC 72 Iff.rfl (by decide +kernel) (by decide) (fun h => ?_) (fun h => ?_)
        · have hF := (if_pos h).symm.trans hF
          refine aw_pick [0] [(0, .ref 20)] rfl ?_
          exact Jc72 q5 hF
        · have hF := (if_neg h).symm.trans hF
          refine aw_run (pc' := 69) hC [(.aload_n 0, 1, 0, 0, .null)] (by decide +kernel) [(0, .ref 20), (1, .int a1)] [.ref 20] q5 rfl rfl ⟨trivial, trivial⟩ rfl ?_
          obtain ⟨q13, eq13, hF⟩ := bd hF
          refine aw_callV hC hA (rest := []) (c_mo_mixKernel N q5 q13 eq13) mt_X7_mixKernel ln_7_285 (by decide +kernel) ⟨_, rfl⟩ rfl rfl (Nat.le_of_ble_eq_true rfl) ⟨⟨rfl, rfl⟩, Nat.le_of_ble_eq_true rfl, Nat.le_of_ble_eq_true rfl⟩ ⟨Nat.zero_le _, Nat.zero_le _⟩ rfl ?_
          refine aw_pick [0] [(0, .ref 20)] rfl ?_
          exact Jc72 q13 hF
      · have hF := (if_neg h).symm.trans hF
        refine aw_run (pc' := 30) hC [(.aload_n 0, 1, 0, 0, .null), (.aload_n 0, 1, 0, 0, .null), (.iload_n 1, 1, 0, 0, .null), (.bipush 9, 2, 0, 0, .int 9), (.idiv, 1, 0, 0, .null), (.iload_n 1, 1, 0, 0, .null), (.bipush 9, 2, 0, 0, .int 9), (.irem, 1, 0, 0, .null)] (by decide +kernel) [(0, .ref 20), (1, .int a1)] [.int (a1 - a1 / 9 * 9), .int (a1 / 9), .ref 20, .ref 20] σ rfl rfl ⟨trivial, trivial, trivial, trivial, (show ¬ ((9 : Int32) = 0) by decide), trivial, trivial, (show ¬ ((9 : Int32) = 0) by decide), trivial⟩ rfl ?_
        obtain ⟨q14, eq14, hF⟩ := bd hF
        refine aw_callV hC hA (rest := [.ref 20]) (c_mo_stationNow σ (a1 / 9) (a1 - a1 / 9 * 9) q14 eq14) mt_X7_stationNow ln_7_124 (by decide +kernel) ⟨_, rfl⟩ rfl rfl (Nat.le_of_ble_eq_true rfl) ⟨⟨rfl, rfl⟩, Nat.le_of_ble_eq_true rfl, Nat.le_of_ble_eq_true rfl⟩ ⟨Nat.zero_le _, Nat.zero_le _⟩ rfl ?_
        refine aw_run (pc' := 34) hC [(.i2l, 1, 0, 0, .null)] (by decide +kernel) [(0, .ref 20), (1, .int a1)] [.long q14.toInt64, .ref 20] σ rfl rfl ⟨trivial, trivial⟩ rfl ?_
        obtain ⟨q15, eq15, hF⟩ := nmd hF
        refine aw_callV hC hA (rest := []) (c_mo_mix σ q14.toInt64 q15 eq15) mt_X7_mix ln_7_276 (by decide +kernel) ⟨_, rfl⟩ rfl rfl (Nat.le_of_ble_eq_true rfl) ⟨⟨rfl, rfl⟩, Nat.le_of_ble_eq_true rfl, Nat.le_of_ble_eq_true rfl⟩ ⟨Nat.zero_le _, Nat.zero_le _⟩ rfl ?_
        refine aw_run (pc' := 40) hC [(.iinc 1 1, 3, 0, 0, .int 1)] (by decide +kernel) [(0, .ref 20), (1, .int (a1 + 1))] [] q15 rfl rfl ⟨trivial, trivial⟩ rfl ?_
        refine aw_goto (off := -31) hC 9 (by decide +kernel) (by decide) ?_
        exact ih (a1 + 1) q15 hF
  unfold f_mo_digest at hF
  obtain ⟨σ1, hσ1, hF⟩ := nmd hF
  refine aw_run (pc' := 7) hC [(.aload_n 0, 1, 0, 0, .null), (.ldc2_w 280, 3, 0, 0, .long 1613), (.putfield 273, 3, 7, 24, .null)] (by decide +kernel) [(0, .ref 20)] [] (uJ σ 20 24 1613) rfl rfl ⟨trivial, trivial, trivial, trivial⟩ hσ1 ?_
  refine aw_run (pc' := 9) hC [(.iconst 0, 1, 0, 0, .int 0), (.istore_n 1, 1, 0, 0, .null)] (by decide +kernel) [(0, .ref 20), (1, .int 0)] [] σ1 rfl rfl ⟨trivial, trivial, trivial⟩ rfl ?_
  exact Jc9 N 0 σ1 hF
