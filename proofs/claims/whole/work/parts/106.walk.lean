def f_ro_hasChord (N : Nat) (σ : Sg) : Option Int32 := (f_ro_missCount N σ).bind fun q1 => if (σ.1 4 5) ≤ q1 then (some 0) else (some 1)
def rm_ro_hasChord : Room := { frames := 1, cells := 0, slots := 0, locals := 22 }
set_option maxHeartbeats 4000000 in
set_option maxRecDepth 100000 in
theorem c_ro_hasChord (N : Nat) (σ : Sg) (z : Int32) (hF : f_ro_hasChord N σ = some z) : Ctr yX3_hasChord cX3_hasChord 1 (some .boolean) rm_ro_hasChord [.ref 4] σ (some (.int z)) σ := by
  refine ct_start 3 (by decide) rfl (fun ad => Nat.le_of_ble_eq_true rfl) [(0, .ref 4)] (fun ad => rfl) ?_
  intro p l e s m args below meth c D ad tc A hC hA hr
  unfold f_ro_hasChord at hF
  refine aw_run (pc' := 1) hC [(.aload_n 0, 1, 0, 0, .null)] (by decide +kernel) [(0, .ref 4)] [.ref 4] σ rfl rfl ⟨trivial, trivial⟩ rfl ?_
  obtain ⟨q1, eq1, hF⟩ := bd hF
  refine aw_callV hC hA (rest := []) (c_ro_missCount N σ q1 eq1) mt_X3_missCount ln_3_52 (by decide +kernel) ⟨_, rfl⟩ rfl rfl (Nat.le_of_ble_eq_true rfl) ⟨⟨rfl, rfl⟩, Nat.le_of_ble_eq_true rfl, Nat.le_of_ble_eq_true rfl⟩ ⟨Nat.zero_le _, Nat.zero_le _⟩ rfl ?_
  refine aw_run (pc' := 8) hC [(.aload_n 0, 1, 0, 0, .null), (.getfield 32, 3, 3, 5, .null)] (by decide +kernel) [(0, .ref 4)] [.int (σ.1 4 5), .int q1] σ rfl rfl ⟨trivial, trivial, trivial⟩ rfl ?_
  refine aw_icmp_ge (off := 7) hC 15 (by decide +kernel) (by decide) (fun h => ?_) (fun h => ?_)
  · have hF := (if_pos h).symm.trans hF
    refine aw_run (pc' := 16) hC [(.iconst 0, 1, 0, 0, .int 0)] (by decide +kernel) [(0, .ref 4)] [.int 0] σ rfl rfl ⟨trivial, trivial⟩ rfl ?_
    exact aw_zret hC hr (Or.inl rfl) (by decide +kernel) (Option.some.inj hF) rfl
  · have hF := (if_neg h).symm.trans hF
    refine aw_run (pc' := 12) hC [(.iconst 1, 1, 0, 0, .int 1)] (by decide +kernel) [(0, .ref 4)] [.int 1] σ rfl rfl ⟨trivial, trivial⟩ rfl ?_
    refine aw_goto (off := 4) hC 16 (by decide +kernel) (by decide) ?_
    exact aw_zret hC hr (Or.inr rfl) (by decide +kernel) (Option.some.inj hF) rfl
def f_sp_isBetween_c10 (a0 : Int32) (a1 : Int32) (a2 : Int32) : Int32 := if a1 ≤ a2 then 0 else (if a0 ≤ a1 then 0 else 1)
def f_sp_isBetween (a0 : Int32) (a1 : Int32) (a2 : Int32) : Int32 := if a1 ≤ a0 then (f_sp_isBetween_c10 a0 a1 a2) else (if a1 < a2 then 1 else (f_sp_isBetween_c10 a0 a1 a2))
def rm_sp_isBetween : Room := { frames := 0, cells := 0, slots := 0, locals := 0 }
set_option maxHeartbeats 4000000 in
set_option maxRecDepth 100000 in
theorem c_sp_isBetween (σ : Sg) (a0 : Int32) (a1 : Int32) (a2 : Int32) (z : Int32) (hF : f_sp_isBetween a0 a1 a2 = z) : Ctr yX4_isBetween cX4_isBetween 3 (some .boolean) rm_sp_isBetween [.int a0, .int a1, .int a2] σ (some (.int z)) σ := by
  refine ct_start 4 (by decide) rfl (fun ad => Nat.le_of_ble_eq_true rfl) [(0, .int a0), (1, .int a1), (2, .int a2)] (fun ad => rfl) ?_
  intro p l e s m args below meth c D ad tc A hC hA hr
  have Jc10 : ∀ (a0 : Int32) (a1 : Int32) (a2 : Int32), f_sp_isBetween_c10 a0 a1 a2 = z → AW p l e rm_sp_isBetween s m args below meth c D ad tc 3 A s.heap 0 0 (MQ below (Qr (some (.int z)) D ad tc σ A) args s 0 0 A) 10 [(0, .int a0), (1, .int a1), (2, .int a2)] [] σ := by
    intro a0 a1 a2 hF
    unfold f_sp_isBetween_c10 at hF
    refine aw_run (pc' := 12) hC [(.iload_n 2, 1, 0, 0, .null), (.iload_n 1, 1, 0, 0, .null)] (by decide +kernel) [(0, .int a0), (1, .int a1), (2, .int a2)] [.int a1, .int a2] σ rfl rfl ⟨trivial, trivial, trivial⟩ rfl ?_
    refine aw_icmp_ge (off := 12) hC 24 (by decide +kernel) (by decide) (fun h => ?_) (fun h => ?_)
    · have hF := (if_pos h).symm.trans hF
      refine aw_run (pc' := 25) hC [(.iconst 0, 1, 0, 0, .int 0)] (by decide +kernel) [(0, .int a0), (1, .int a1), (2, .int a2)] [.int 0] σ rfl rfl ⟨trivial, trivial⟩ rfl ?_
      exact aw_zret hC hr (Or.inl rfl) (by decide +kernel) hF rfl
    · have hF := (if_neg h).symm.trans hF
      refine aw_run (pc' := 17) hC [(.iload_n 1, 1, 0, 0, .null), (.iload_n 0, 1, 0, 0, .null)] (by decide +kernel) [(0, .int a0), (1, .int a1), (2, .int a2)] [.int a0, .int a1] σ rfl rfl ⟨trivial, trivial, trivial⟩ rfl ?_
      refine aw_icmp_ge (off := 7) hC 24 (by decide +kernel) (by decide) (fun h => ?_) (fun h => ?_)
      · have hF := (if_pos h).symm.trans hF
        refine aw_run (pc' := 25) hC [(.iconst 0, 1, 0, 0, .int 0)] (by decide +kernel) [(0, .int a0), (1, .int a1), (2, .int a2)] [.int 0] σ rfl rfl ⟨trivial, trivial⟩ rfl ?_
        exact aw_zret hC hr (Or.inl rfl) (by decide +kernel) hF rfl
      · have hF := (if_neg h).symm.trans hF
        refine aw_run (pc' := 21) hC [(.iconst 1, 1, 0, 0, .int 1)] (by decide +kernel) [(0, .int a0), (1, .int a1), (2, .int a2)] [.int 1] σ rfl rfl ⟨trivial, trivial⟩ rfl ?_
        refine aw_goto (off := 4) hC 25 (by decide +kernel) (by decide) ?_
        exact aw_zret hC hr (Or.inr rfl) (by decide +kernel) hF rfl
  unfold f_sp_isBetween at hF
  refine aw_run (pc' := 2) hC [(.iload_n 0, 1, 0, 0, .null), (.iload_n 1, 1, 0, 0, .null)] (by decide +kernel) [(0, .int a0), (1, .int a1), (2, .int a2)] [.int a1, .int a0] σ rfl rfl ⟨trivial, trivial, trivial⟩ rfl ?_
  refine aw_icmp_ge (off := 8) hC 10 (by decide +kernel) (by decide) (fun h => ?_) (fun h => ?_)
  · have hF := (if_pos h).symm.trans hF
    exact Jc10 a0 a1 a2 hF
  · have hF := (if_neg h).symm.trans hF
    refine aw_run (pc' := 7) hC [(.iload_n 1, 1, 0, 0, .null), (.iload_n 2, 1, 0, 0, .null)] (by decide +kernel) [(0, .int a0), (1, .int a1), (2, .int a2)] [.int a2, .int a1] σ rfl rfl ⟨trivial, trivial, trivial⟩ rfl ?_
    refine aw_icmp_lt (off := 13) hC 20 (by decide +kernel) (by decide) (fun h => ?_) (fun h => ?_)
    · have hF := (if_pos h).symm.trans hF
      refine aw_run (pc' := 21) hC [(.iconst 1, 1, 0, 0, .int 1)] (by decide +kernel) [(0, .int a0), (1, .int a1), (2, .int a2)] [.int 1] σ rfl rfl ⟨trivial, trivial⟩ rfl ?_
      refine aw_goto (off := 4) hC 25 (by decide +kernel) (by decide) ?_
      exact aw_zret hC hr (Or.inr rfl) (by decide +kernel) hF rfl
    · have hF := (if_neg h).symm.trans hF
      exact Jc10 a0 a1 a2 hF
def f_bo_raise_18 (σ : Sg) (a1 : Int64) (a3 : Int64) : Sg := if a3 ≤ 0 then σ else (if (σ.1 18 0) = 0 then (if (a1 * (σ.2 18 2)) ≤ ((σ.2 18 1) * a3) then σ else (nm (f_bo_put_18 σ a1 a3) fun q2 => q2)) else (nm (f_bo_put_18 σ a1 a3) fun q1 => q1))
def rm_bo_raise_18 : Room := { frames := 1, cells := 0, slots := 0, locals := 24 }
set_option maxHeartbeats 4000000 in
set_option maxRecDepth 100000 in
theorem c_bo_raise_18 (σ : Sg) (a1 : Int64) (a3 : Int64) (z : Sg) (hF : f_bo_raise_18 σ a1 a3 = z) : Ctr yX0_raise cX0_raise 5 none rm_bo_raise_18 [.ref 18, .long a1, .long a3] σ none z := by
  refine ct_start 0 (by decide) rfl (fun ad => Nat.le_of_ble_eq_true rfl) [(0, .ref 18), (1, .long a1), (3, .long a3)] (fun ad => rfl) ?_
  intro p l e s m args below meth c D ad tc A hC hA hr
  unfold f_bo_raise_18 at hF
  refine aw_run (pc' := 3) hC [(.lload_n 3, 1, 0, 0, .null), (.lconst 0, 1, 0, 0, .long 0), (.lcmp, 1, 0, 0, .null)] (by decide +kernel) [(0, .ref 18), (1, .long a1), (3, .long a3)] [.int (lg_cmp a3 0)] σ rfl rfl ⟨trivial, trivial, trivial, trivial⟩ rfl ?_
  refine aw_if_le (off := 32) hC 35 (lc_le _ _) (by decide +kernel) (by decide) (fun h => ?_) (fun h => ?_)
  · have hF := (if_pos h).symm.trans hF
    exact aw_vret hC hr (by decide +kernel)  hF
  · have hF := (if_neg h).symm.trans hF
    refine aw_run (pc' := 10) hC [(.aload_n 0, 1, 0, 0, .null), (.getfield 7, 3, 0, 0, .null)] (by decide +kernel) [(0, .ref 18), (1, .long a1), (3, .long a3)] [.int (σ.1 18 0)] σ rfl rfl ⟨trivial, trivial, trivial⟩ rfl ?_
    refine aw_if_ne (off := 19) hC 29 Iff.rfl (by decide +kernel) (by decide) (fun h => ?_) (fun h => ?_)
    · have hF := (if_neg h).symm.trans hF
      refine aw_run (pc' := 32) hC [(.aload_n 0, 1, 0, 0, .null), (.lload_n 1, 1, 0, 0, .null), (.lload_n 3, 1, 0, 0, .null)] (by decide +kernel) [(0, .ref 18), (1, .long a1), (3, .long a3)] [.long a3, .long a1, .ref 18] σ rfl rfl ⟨trivial, trivial, trivial, trivial⟩ rfl ?_
      obtain ⟨q1, eq1, hF⟩ := nmd hF
      refine aw_callV hC hA (rest := []) (c_bo_put_18 σ a1 a3 q1 eq1) mt_X0_put ln_0_20 (by decide +kernel) ⟨_, rfl⟩ rfl rfl (Nat.le_of_ble_eq_true rfl) ⟨⟨rfl, rfl⟩, Nat.le_of_ble_eq_true rfl, Nat.le_of_ble_eq_true rfl⟩ ⟨Nat.zero_le _, Nat.zero_le _⟩ rfl ?_
      exact aw_vret hC hr (by decide +kernel)  hF
    · have hF := (if_pos h).symm.trans hF
      refine aw_run (pc' := 26) hC [(.lload_n 1, 1, 0, 0, .null), (.aload_n 0, 1, 0, 0, .null), (.getfield 17, 3, 0, 2, .null), (.lmul, 1, 0, 0, .null), (.aload_n 0, 1, 0, 0, .null), (.getfield 13, 3, 0, 1, .null), (.lload_n 3, 1, 0, 0, .null), (.lmul, 1, 0, 0, .null), (.lcmp, 1, 0, 0, .null)] (by decide +kernel) [(0, .ref 18), (1, .long a1), (3, .long a3)] [.int (lg_cmp (a1 * (σ.2 18 2)) ((σ.2 18 1) * a3))] σ rfl rfl ⟨trivial, trivial, trivial, trivial, trivial, trivial, trivial, trivial, trivial, trivial⟩ rfl ?_
      refine aw_if_le (off := 9) hC 35 (lc_le _ _) (by decide +kernel) (by decide) (fun h => ?_) (fun h => ?_)
      · have hF := (if_pos h).symm.trans hF
        exact aw_vret hC hr (by decide +kernel)  hF
      · have hF := (if_neg h).symm.trans hF
        refine aw_run (pc' := 32) hC [(.aload_n 0, 1, 0, 0, .null), (.lload_n 1, 1, 0, 0, .null), (.lload_n 3, 1, 0, 0, .null)] (by decide +kernel) [(0, .ref 18), (1, .long a1), (3, .long a3)] [.long a3, .long a1, .ref 18] σ rfl rfl ⟨trivial, trivial, trivial, trivial⟩ rfl ?_
        obtain ⟨q2, eq2, hF⟩ := nmd hF
        refine aw_callV hC hA (rest := []) (c_bo_put_18 σ a1 a3 q2 eq2) mt_X0_put ln_0_20 (by decide +kernel) ⟨_, rfl⟩ rfl rfl (Nat.le_of_ble_eq_true rfl) ⟨⟨rfl, rfl⟩, Nat.le_of_ble_eq_true rfl, Nat.le_of_ble_eq_true rfl⟩ ⟨Nat.zero_le _, Nat.zero_le _⟩ rfl ?_
        exact aw_vret hC hr (by decide +kernel)  hF
def f_sp_bind_18_c56_s (N : Nat) (kc7 : Int32 → Int32 → Int32 → Sg → Option Sg) (kc56 : Int32 → Int32 → Int32 → Int32 → Sg → Option Sg) (a1 : Int32) (a2 : Int32) (a4 : Int32) (a5 : Int32) (σ : Sg) : Option Sg := if (σ.1 4 5) ≤ a5 then (kc7 a1 a2 (a4 + 1) σ) else (if ib a5 8 then if (σ.1 6 a5.toNatClampNeg) = 0 then (if ib a4 8 then if (f_sp_isBetween a1 (σ.1 5 a4.toNatClampNeg) (σ.1 5 a5.toNatClampNeg)) = 0 then (kc56 a1 a2 a4 (a5 + 1) σ) else ((f_ro_inner σ a5 a2).bind fun q5 => (f_ro_outer σ a4 a2).bind fun q6 => nm (f_bo_raise_18 σ ((q5 * (f_jm_abs_0f7a4 ((σ.1 5 a4.toNatClampNeg) - (σ.1 5 a5.toNatClampNeg)))) + ((q6 - q5) * (f_jm_abs_0f7a4 (a1 - (σ.1 5 a5.toNatClampNeg))))).toInt64 (f_jm_abs_0f7a4 ((σ.1 5 a4.toNatClampNeg) - (σ.1 5 a5.toNatClampNeg))).toInt64) fun q7 => kc56 a1 a2 a4 (a5 + 1) q7) else none) else (kc56 a1 a2 a4 (a5 + 1) σ) else none)
def f_sp_bind_18_c56 (N : Nat) (kc7 : Int32 → Int32 → Int32 → Sg → Option Sg) : Nat → Int32 → Int32 → Int32 → Int32 → Sg → Option Sg
  | 0 => fun _ _ _ _ _ => none
  | n + 1 => f_sp_bind_18_c56_s N kc7 (f_sp_bind_18_c56 N kc7 n)
def f_sp_bind_18_c7_s (N : Nat) (kc7 : Int32 → Int32 → Int32 → Sg → Option Sg) (a1 : Int32) (a2 : Int32) (a4 : Int32) (σ : Sg) : Option Sg := if (σ.1 4 5) ≤ a4 then (some σ) else (if ib a4 8 then if (σ.1 6 a4.toNatClampNeg) = 0 then (if (σ.1 5 a4.toNatClampNeg) = a1 then ((f_ro_outer σ a4 a2).bind fun q8 => nm (f_bo_raise_18 σ q8.toInt64 1) fun q9 => f_sp_bind_18_c56 N kc7 N a1 a2 a4 0 q9) else (f_sp_bind_18_c56 N kc7 N a1 a2 a4 0 σ)) else (kc7 a1 a2 (a4 + 1) σ) else none)
def f_sp_bind_18_c7 (N : Nat) : Nat → Int32 → Int32 → Int32 → Sg → Option Sg
  | 0 => fun _ _ _ _ => none
  | n + 1 => f_sp_bind_18_c7_s N (f_sp_bind_18_c7 N n)
def f_sp_bind_18 (N : Nat) (σ : Sg) (a1 : Int32) (a2 : Int32) : Option Sg := nm (f_bo_release_18 σ) fun q1 => f_sp_bind_18_c7 N N a1 a2 0 q1
def rm_sp_bind_18 : Room := { frames := 2, cells := 0, slots := 0, locals := 48 }
set_option maxHeartbeats 4000000 in
set_option maxRecDepth 100000 in
theorem c_sp_bind_18 (N : Nat) (σ : Sg) (a1 : Int32) (a2 : Int32) (z : Sg) (hF : f_sp_bind_18 N σ a1 a2 = some z) : Ctr yX4_bind cX4_bind 9 none rm_sp_bind_18 [.ref 4, .int a1, .int a2, .ref 18] σ none z := by
  refine ct_start 4 (by decide) rfl (fun ad => Nat.le_of_ble_eq_true rfl) [(0, .ref 4), (1, .int a1), (2, .int a2), (3, .ref 18)] (fun ad => rfl) ?_
  intro p l e s m args below meth c D ad tc A hC hA hr
  have Jc56 : ∀ (kc7 : Int32 → Int32 → Int32 → Sg → Option Sg) (Hc7 : ∀ (a1 : Int32) (a2 : Int32) (a4 : Int32) (σ : Sg), kc7 a1 a2 a4 σ = some z → AW p l e rm_sp_bind_18 s m args below meth c D ad tc 9 A s.heap 0 0 (MQ below (Qr none D ad tc z A) args s 0 0 A) 7 [(0, .ref 4), (1, .int a1), (2, .int a2), (3, .ref 18), (4, .int a4)] [] σ) (n : Nat) (a1 : Int32) (a2 : Int32) (a4 : Int32) (a5 : Int32) (σ : Sg), f_sp_bind_18_c56 N kc7 n a1 a2 a4 a5 σ = some z → AW p l e rm_sp_bind_18 s m args below meth c D ad tc 9 A s.heap 0 0 (MQ below (Qr none D ad tc z A) args s 0 0 A) 56 [(0, .ref 4), (1, .int a1), (2, .int a2), (3, .ref 18), (4, .int a4), (5, .int a5)] [] σ := by
    intro kc7 Hc7 n
    induction n with
    | zero =>
      intro a1 a2 a4 a5 σ hF
      cases hF
    | succ n ih =>
      intro a1 a2 a4 a5 σ hF
      have hF : f_sp_bind_18_c56_s N kc7 (f_sp_bind_18_c56 N kc7 n) a1 a2 a4 a5 σ = some z := hF
      unfold f_sp_bind_18_c56_s at hF
      refine aw_run (pc' := 62) hC [(.iload 5, 2, 0, 0, .null), (.aload_n 0, 1, 0, 0, .null), (.getfield 75, 3, 3, 5, .null)] (by decide +kernel) [(0, .ref 4), (1, .int a1), (2, .int a2), (3, .ref 18), (4, .int a4), (5, .int a5)] [.int (σ.1 4 5), .int a5] σ rfl rfl ⟨trivial, trivial, trivial, trivial⟩ rfl ?_
      refine aw_icmp_ge (off := 110) hC 172 (by decide +kernel) (by decide) (fun h => ?_) (fun h => ?_)
      · have hF := (if_pos h).symm.trans hF
        refine aw_run (pc' := 175) hC [(.iinc 4 1, 3, 0, 0, .int 1)] (by decide +kernel) [(0, .ref 4), (1, .int a1), (2, .int a2), (3, .ref 18), (4, .int (a4 + 1)), (5, .int a5)] [] σ rfl rfl ⟨trivial, trivial⟩ rfl ?_
        refine aw_goto (off := -168) hC 7 (by decide +kernel) (by decide) ?_
        refine aw_pick [0, 1, 2, 3, 4] [(0, .ref 4), (1, .int a1), (2, .int a2), (3, .ref 18), (4, .int (a4 + 1))] rfl ?_
        exact Hc7 a1 a2 (a4 + 1) σ hF
      · have hF := (if_neg h).symm.trans hF
        obtain ⟨g3, hF⟩ := gd hF
        refine aw_run (pc' := 72) hC [(.aload_n 0, 1, 0, 0, .null), (.getfield 81, 3, 3, 1, .null), (.iload 5, 2, 0, 0, .null), (.baload, 1, 0, 0, .null)] (by decide +kernel) [(0, .ref 4), (1, .int a1), (2, .int a2), (3, .ref 18), (4, .int a4), (5, .int a5)] [.int (σ.1 6 a5.toNatClampNeg)] σ rfl rfl ⟨trivial, trivial, trivial, g3, trivial⟩ rfl ?_
        refine aw_if_ne (off := 94) hC 166 Iff.rfl (by decide +kernel) (by decide) (fun h => ?_) (fun h => ?_)
        · have hF := (if_neg h).symm.trans hF
          refine aw_run (pc' := 169) hC [(.iinc 5 1, 3, 0, 0, .int 1)] (by decide +kernel) [(0, .ref 4), (1, .int a1), (2, .int a2), (3, .ref 18), (4, .int a4), (5, .int (a5 + 1))] [] σ rfl rfl ⟨trivial, trivial⟩ rfl ?_
          refine aw_goto (off := -113) hC 56 (by decide +kernel) (by decide) ?_
          exact ih a1 a2 a4 (a5 + 1) σ hF
        · have hF := (if_pos h).symm.trans hF
          obtain ⟨g4, hF⟩ := gd hF
          refine aw_run (pc' := 90) hC [(.iload_n 1, 1, 0, 0, .null), (.aload_n 0, 1, 0, 0, .null), (.getfield 85, 3, 3, 0, .null), (.iload 4, 2, 0, 0, .null), (.iaload, 1, 0, 0, .null), (.aload_n 0, 1, 0, 0, .null), (.getfield 85, 3, 3, 0, .null), (.iload 5, 2, 0, 0, .null), (.iaload, 1, 0, 0, .null)] (by decide +kernel) [(0, .ref 4), (1, .int a1), (2, .int a2), (3, .ref 18), (4, .int a4), (5, .int a5)] [.int (σ.1 5 a5.toNatClampNeg), .int (σ.1 5 a4.toNatClampNeg), .int a1] σ rfl rfl ⟨trivial, trivial, trivial, trivial, g4, trivial, trivial, trivial, g3, trivial⟩ rfl ?_
          refine aw_callS hC hA (rest := []) (c_sp_isBetween σ a1 (σ.1 5 a4.toNatClampNeg) (σ.1 5 a5.toNatClampNeg) _ rfl) mt_X4_isBetween ln_4_103 (by decide +kernel) rfl rfl (Nat.le_of_ble_eq_true rfl) ⟨⟨rfl, rfl⟩, Nat.le_of_ble_eq_true rfl, Nat.le_of_ble_eq_true rfl⟩ ⟨Nat.zero_le _, Nat.zero_le _⟩ rfl ?_
          refine aw_if_eq (off := 73) hC 166 Iff.rfl (by decide +kernel) (by decide) (fun h => ?_) (fun h => ?_)
          · have hF := (if_pos h).symm.trans hF
            refine aw_run (pc' := 169) hC [(.iinc 5 1, 3, 0, 0, .int 1)] (by decide +kernel) [(0, .ref 4), (1, .int a1), (2, .int a2), (3, .ref 18), (4, .int a4), (5, .int (a5 + 1))] [] σ rfl rfl ⟨trivial, trivial⟩ rfl ?_
            refine aw_goto (off := -113) hC 56 (by decide +kernel) (by decide) ?_
            exact ih a1 a2 a4 (a5 + 1) σ hF
          · have hF := (if_neg h).symm.trans hF
            refine aw_run (pc' := 105) hC [(.iload_n 1, 1, 0, 0, .null), (.aload_n 0, 1, 0, 0, .null), (.getfield 85, 3, 3, 0, .null), (.iload 5, 2, 0, 0, .null), (.iaload, 1, 0, 0, .null), (.isub, 1, 0, 0, .null)] (by decide +kernel) [(0, .ref 4), (1, .int a1), (2, .int a2), (3, .ref 18), (4, .int a4), (5, .int a5)] [.int (a1 - (σ.1 5 a5.toNatClampNeg))] σ rfl rfl ⟨trivial, trivial, trivial, trivial, g3, trivial, trivial⟩ rfl ?_
            refine aw_callS hC hA (rest := []) (c_jm_abs_0f7a4 σ (a1 - (σ.1 5 a5.toNatClampNeg)) _ rfl) mt_J9_abs_0f7a4 ln_4_107 (by decide +kernel) rfl rfl (Nat.le_of_ble_eq_true rfl) ⟨⟨rfl, rfl⟩, Nat.le_of_ble_eq_true rfl, Nat.le_of_ble_eq_true rfl⟩ ⟨Nat.zero_le _, Nat.zero_le _⟩ rfl ?_
            refine aw_run (pc' := 125) hC [(.istore 6, 2, 0, 0, .null), (.aload_n 0, 1, 0, 0, .null), (.getfield 85, 3, 3, 0, .null), (.iload 4, 2, 0, 0, .null), (.iaload, 1, 0, 0, .null), (.aload_n 0, 1, 0, 0, .null), (.getfield 85, 3, 3, 0, .null), (.iload 5, 2, 0, 0, .null), (.iaload, 1, 0, 0, .null), (.isub, 1, 0, 0, .null)] (by decide +kernel) [(0, .ref 4), (1, .int a1), (2, .int a2), (3, .ref 18), (4, .int a4), (5, .int a5), (6, .int (f_jm_abs_0f7a4 (a1 - (σ.1 5 a5.toNatClampNeg))))] [.int ((σ.1 5 a4.toNatClampNeg) - (σ.1 5 a5.toNatClampNeg))] σ rfl rfl ⟨trivial, trivial, trivial, trivial, g4, trivial, trivial, trivial, g3, trivial, trivial⟩ rfl ?_
            refine aw_callS hC hA (rest := []) (c_jm_abs_0f7a4 σ ((σ.1 5 a4.toNatClampNeg) - (σ.1 5 a5.toNatClampNeg)) _ rfl) mt_J9_abs_0f7a4 ln_4_107 (by decide +kernel) rfl rfl (Nat.le_of_ble_eq_true rfl) ⟨⟨rfl, rfl⟩, Nat.le_of_ble_eq_true rfl, Nat.le_of_ble_eq_true rfl⟩ ⟨Nat.zero_le _, Nat.zero_le _⟩ rfl ?_
            refine aw_run (pc' := 134) hC [(.istore 7, 2, 0, 0, .null), (.aload_n 0, 1, 0, 0, .null), (.iload 5, 2, 0, 0, .null), (.iload_n 2, 1, 0, 0, .null)] (by decide +kernel) [(0, .ref 4), (1, .int a1), (2, .int a2), (3, .ref 18), (4, .int a4), (5, .int a5), (6, .int (f_jm_abs_0f7a4 (a1 - (σ.1 5 a5.toNatClampNeg)))), (7, .int (f_jm_abs_0f7a4 ((σ.1 5 a4.toNatClampNeg) - (σ.1 5 a5.toNatClampNeg))))] [.int a2, .int a5, .ref 4] σ rfl rfl ⟨trivial, trivial, trivial, trivial, trivial⟩ rfl ?_
            obtain ⟨q5, eq5, hF⟩ := bd hF
            refine aw_callV hC hA (rest := []) (c_ro_inner σ a5 a2 q5 eq5) mt_X3_inner ln_4_89 (by decide +kernel) ⟨_, rfl⟩ rfl rfl (Nat.le_of_ble_eq_true rfl) ⟨⟨rfl, rfl⟩, Nat.le_of_ble_eq_true rfl, Nat.le_of_ble_eq_true rfl⟩ ⟨Nat.zero_le _, Nat.zero_le _⟩ rfl ?_
            refine aw_run (pc' := 149) hC [(.istore 8, 2, 0, 0, .null), (.aload_n 3, 1, 0, 0, .null), (.iload 8, 2, 0, 0, .null), (.iload 7, 2, 0, 0, .null), (.imul, 1, 0, 0, .null), (.aload_n 0, 1, 0, 0, .null), (.iload 4, 2, 0, 0, .null), (.iload_n 2, 1, 0, 0, .null)] (by decide +kernel) [(0, .ref 4), (1, .int a1), (2, .int a2), (3, .ref 18), (4, .int a4), (5, .int a5), (6, .int (f_jm_abs_0f7a4 (a1 - (σ.1 5 a5.toNatClampNeg)))), (7, .int (f_jm_abs_0f7a4 ((σ.1 5 a4.toNatClampNeg) - (σ.1 5 a5.toNatClampNeg)))), (8, .int q5)] [.int a2, .int a4, .ref 4, .int (q5 * (f_jm_abs_0f7a4 ((σ.1 5 a4.toNatClampNeg) - (σ.1 5 a5.toNatClampNeg)))), .ref 18] σ rfl rfl ⟨trivial, trivial, trivial, trivial, trivial, trivial, trivial, trivial, trivial⟩ rfl ?_
            obtain ⟨q6, eq6, hF⟩ := bd hF
            refine aw_callV hC hA (rest := [.int (q5 * (f_jm_abs_0f7a4 ((σ.1 5 a4.toNatClampNeg) - (σ.1 5 a5.toNatClampNeg)))), .ref 18]) (c_ro_outer σ a4 a2 q6 eq6) mt_X3_outer ln_4_97 (by decide +kernel) ⟨_, rfl⟩ rfl rfl (Nat.le_of_ble_eq_true rfl) ⟨⟨rfl, rfl⟩, Nat.le_of_ble_eq_true rfl, Nat.le_of_ble_eq_true rfl⟩ ⟨Nat.zero_le _, Nat.zero_le _⟩ rfl ?_
            refine aw_run (pc' := 163) hC [(.iload 8, 2, 0, 0, .null), (.isub, 1, 0, 0, .null), (.iload 6, 2, 0, 0, .null), (.imul, 1, 0, 0, .null), (.iadd, 1, 0, 0, .null), (.i2l, 1, 0, 0, .null), (.iload 7, 2, 0, 0, .null), (.i2l, 1, 0, 0, .null)] (by decide +kernel) [(0, .ref 4), (1, .int a1), (2, .int a2), (3, .ref 18), (4, .int a4), (5, .int a5), (6, .int (f_jm_abs_0f7a4 (a1 - (σ.1 5 a5.toNatClampNeg)))), (7, .int (f_jm_abs_0f7a4 ((σ.1 5 a4.toNatClampNeg) - (σ.1 5 a5.toNatClampNeg)))), (8, .int q5)] [.long (f_jm_abs_0f7a4 ((σ.1 5 a4.toNatClampNeg) - (σ.1 5 a5.toNatClampNeg))).toInt64, .long ((q5 * (f_jm_abs_0f7a4 ((σ.1 5 a4.toNatClampNeg) - (σ.1 5 a5.toNatClampNeg)))) + ((q6 - q5) * (f_jm_abs_0f7a4 (a1 - (σ.1 5 a5.toNatClampNeg))))).toInt64, .ref 18] σ rfl rfl ⟨trivial, trivial, trivial, trivial, trivial, trivial, trivial, trivial, trivial⟩ rfl ?_
            obtain ⟨q7, eq7, hF⟩ := nmd hF
            refine aw_callV hC hA (rest := []) (c_bo_raise_18 σ ((q5 * (f_jm_abs_0f7a4 ((σ.1 5 a4.toNatClampNeg) - (σ.1 5 a5.toNatClampNeg)))) + ((q6 - q5) * (f_jm_abs_0f7a4 (a1 - (σ.1 5 a5.toNatClampNeg))))).toInt64 (f_jm_abs_0f7a4 ((σ.1 5 a4.toNatClampNeg) - (σ.1 5 a5.toNatClampNeg))).toInt64 q7 eq7) mt_X0_raise ln_4_100 (by decide +kernel) ⟨_, rfl⟩ rfl rfl (Nat.le_of_ble_eq_true rfl) ⟨⟨rfl, rfl⟩, Nat.le_of_ble_eq_true rfl, Nat.le_of_ble_eq_true rfl⟩ ⟨Nat.zero_le _, Nat.zero_le _⟩ rfl ?_
            refine aw_run (pc' := 169) hC [(.iinc 5 1, 3, 0, 0, .int 1)] (by decide +kernel) [(0, .ref 4), (1, .int a1), (2, .int a2), (3, .ref 18), (4, .int a4), (5, .int (a5 + 1)), (6, .int (f_jm_abs_0f7a4 (a1 - (σ.1 5 a5.toNatClampNeg)))), (7, .int (f_jm_abs_0f7a4 ((σ.1 5 a4.toNatClampNeg) - (σ.1 5 a5.toNatClampNeg)))), (8, .int q5)] [] q7 rfl rfl ⟨trivial, trivial⟩ rfl ?_
            refine aw_goto (off := -113) hC 56 (by decide +kernel) (by decide) ?_
            refine aw_pick [0, 1, 2, 3, 4, 5] [(0, .ref 4), (1, .int a1), (2, .int a2), (3, .ref 18), (4, .int a4), (5, .int (a5 + 1))] rfl ?_
            exact ih a1 a2 a4 (a5 + 1) q7 hF
  have Jc7 : ∀ (n : Nat) (a1 : Int32) (a2 : Int32) (a4 : Int32) (σ : Sg), f_sp_bind_18_c7 N n a1 a2 a4 σ = some z → AW p l e rm_sp_bind_18 s m args below meth c D ad tc 9 A s.heap 0 0 (MQ below (Qr none D ad tc z A) args s 0 0 A) 7 [(0, .ref 4), (1, .int a1), (2, .int a2), (3, .ref 18), (4, .int a4)] [] σ := by
    intro n
    induction n with
    | zero =>
      intro a1 a2 a4 σ hF
      cases hF
    | succ n ih =>
      intro a1 a2 a4 σ hF
      have hF : f_sp_bind_18_c7_s N (f_sp_bind_18_c7 N n) a1 a2 a4 σ = some z := hF
      unfold f_sp_bind_18_c7_s at hF
      refine aw_run (pc' := 13) hC [(.iload 4, 2, 0, 0, .null), (.aload_n 0, 1, 0, 0, .null), (.getfield 75, 3, 3, 5, .null)] (by decide +kernel) [(0, .ref 4), (1, .int a1), (2, .int a2), (3, .ref 18), (4, .int a4)] [.int (σ.1 4 5), .int a4] σ rfl rfl ⟨trivial, trivial, trivial, trivial⟩ rfl ?_
      refine aw_icmp_ge (off := 165) hC 178 (by decide +kernel) (by decide) (fun h => ?_) (fun h => ?_)
      · have hF := (if_pos h).symm.trans hF
        exact aw_vret hC hr (by decide +kernel)  (Option.some.inj hF)
      · have hF := (if_neg h).symm.trans hF
        obtain ⟨g2, hF⟩ := gd hF
        refine aw_run (pc' := 23) hC [(.aload_n 0, 1, 0, 0, .null), (.getfield 81, 3, 3, 1, .null), (.iload 4, 2, 0, 0, .null), (.baload, 1, 0, 0, .null)] (by decide +kernel) [(0, .ref 4), (1, .int a1), (2, .int a2), (3, .ref 18), (4, .int a4)] [.int (σ.1 6 a4.toNatClampNeg)] σ rfl rfl ⟨trivial, trivial, trivial, g2, trivial⟩ rfl ?_
        refine aw_if_eq (off := 6) hC 29 Iff.rfl (by decide +kernel) (by decide) (fun h => ?_) (fun h => ?_)
        · have hF := (if_pos h).symm.trans hF
          refine aw_run (pc' := 37) hC [(.aload_n 0, 1, 0, 0, .null), (.getfield 85, 3, 3, 0, .null), (.iload 4, 2, 0, 0, .null), (.iaload, 1, 0, 0, .null), (.iload_n 1, 1, 0, 0, .null)] (by decide +kernel) [(0, .ref 4), (1, .int a1), (2, .int a2), (3, .ref 18), (4, .int a4)] [.int a1, .int (σ.1 5 a4.toNatClampNeg)] σ rfl rfl ⟨trivial, trivial, trivial, g2, trivial, trivial⟩ rfl ?_
          refine aw_icmp_ne (off := 16) hC 53 (by decide +kernel) (by decide) (fun h => ?_) (fun h => ?_)
          · have hF := (if_neg h).symm.trans hF
            refine aw_run (pc' := 56) hC [(.iconst 0, 1, 0, 0, .int 0), (.istore 5, 2, 0, 0, .null)] (by decide +kernel) [(0, .ref 4), (1, .int a1), (2, .int a2), (3, .ref 18), (4, .int a4), (5, .int 0)] [] σ rfl rfl ⟨trivial, trivial, trivial⟩ rfl ?_
            exact Jc56 (f_sp_bind_18_c7 N n) ih N a1 a2 a4 0 σ hF
          · have hF := (if_pos h).symm.trans hF
            refine aw_run (pc' := 45) hC [(.aload_n 3, 1, 0, 0, .null), (.aload_n 0, 1, 0, 0, .null), (.iload 4, 2, 0, 0, .null), (.iload_n 2, 1, 0, 0, .null)] (by decide +kernel) [(0, .ref 4), (1, .int a1), (2, .int a2), (3, .ref 18), (4, .int a4)] [.int a2, .int a4, .ref 4, .ref 18] σ rfl rfl ⟨trivial, trivial, trivial, trivial, trivial⟩ rfl ?_
            obtain ⟨q8, eq8, hF⟩ := bd hF
            refine aw_callV hC hA (rest := [.ref 18]) (c_ro_outer σ a4 a2 q8 eq8) mt_X3_outer ln_4_97 (by decide +kernel) ⟨_, rfl⟩ rfl rfl (Nat.le_of_ble_eq_true rfl) ⟨⟨rfl, rfl⟩, Nat.le_of_ble_eq_true rfl, Nat.le_of_ble_eq_true rfl⟩ ⟨Nat.zero_le _, Nat.zero_le _⟩ rfl ?_
            refine aw_run (pc' := 50) hC [(.i2l, 1, 0, 0, .null), (.lconst 1, 1, 0, 0, .long 1)] (by decide +kernel) [(0, .ref 4), (1, .int a1), (2, .int a2), (3, .ref 18), (4, .int a4)] [.long 1, .long q8.toInt64, .ref 18] σ rfl rfl ⟨trivial, trivial, trivial⟩ rfl ?_
            obtain ⟨q9, eq9, hF⟩ := nmd hF
            refine aw_callV hC hA (rest := []) (c_bo_raise_18 σ q8.toInt64 1 q9 eq9) mt_X0_raise ln_4_100 (by decide +kernel) ⟨_, rfl⟩ rfl rfl (Nat.le_of_ble_eq_true rfl) ⟨⟨rfl, rfl⟩, Nat.le_of_ble_eq_true rfl, Nat.le_of_ble_eq_true rfl⟩ ⟨Nat.zero_le _, Nat.zero_le _⟩ rfl ?_
            refine aw_run (pc' := 56) hC [(.iconst 0, 1, 0, 0, .int 0), (.istore 5, 2, 0, 0, .null)] (by decide +kernel) [(0, .ref 4), (1, .int a1), (2, .int a2), (3, .ref 18), (4, .int a4), (5, .int 0)] [] q9 rfl rfl ⟨trivial, trivial, trivial⟩ rfl ?_
            exact Jc56 (f_sp_bind_18_c7 N n) ih N a1 a2 a4 0 q9 hF
        · have hF := (if_neg h).symm.trans hF
          refine aw_goto (off := 146) hC 172 (by decide +kernel) (by decide) ?_
          refine aw_run (pc' := 175) hC [(.iinc 4 1, 3, 0, 0, .int 1)] (by decide +kernel) [(0, .ref 4), (1, .int a1), (2, .int a2), (3, .ref 18), (4, .int (a4 + 1))] [] σ rfl rfl ⟨trivial, trivial⟩ rfl ?_
          refine aw_goto (off := -168) hC 7 (by decide +kernel) (by decide) ?_
          exact ih a1 a2 (a4 + 1) σ hF
  unfold f_sp_bind_18 at hF
  refine aw_run (pc' := 1) hC [(.aload_n 3, 1, 0, 0, .null)] (by decide +kernel) [(0, .ref 4), (1, .int a1), (2, .int a2), (3, .ref 18)] [.ref 18] σ rfl rfl ⟨trivial, trivial⟩ rfl ?_
  obtain ⟨q1, eq1, hF⟩ := nmd hF
  refine aw_callV hC hA (rest := []) (c_bo_release_18 σ q1 eq1) mt_X0_release ln_4_72 (by decide +kernel) ⟨_, rfl⟩ rfl rfl (Nat.le_of_ble_eq_true rfl) ⟨⟨rfl, rfl⟩, Nat.le_of_ble_eq_true rfl, Nat.le_of_ble_eq_true rfl⟩ ⟨Nat.zero_le _, Nat.zero_le _⟩ rfl ?_
  refine aw_run (pc' := 7) hC [(.iconst 0, 1, 0, 0, .int 0), (.istore 4, 2, 0, 0, .null)] (by decide +kernel) [(0, .ref 4), (1, .int a1), (2, .int a2), (3, .ref 18), (4, .int 0)] [] q1 rfl rfl ⟨trivial, trivial, trivial⟩ rfl ?_
  exact Jc7 N a1 a2 0 q1 hF
def f_bo_raise_19 (σ : Sg) (a1 : Int64) (a3 : Int64) : Sg := if a3 ≤ 0 then σ else (if (σ.1 19 0) = 0 then (if (a1 * (σ.2 19 2)) ≤ ((σ.2 19 1) * a3) then σ else (nm (f_bo_put_19 σ a1 a3) fun q2 => q2)) else (nm (f_bo_put_19 σ a1 a3) fun q1 => q1))
def rm_bo_raise_19 : Room := { frames := 1, cells := 0, slots := 0, locals := 24 }
set_option maxHeartbeats 4000000 in
set_option maxRecDepth 100000 in
theorem c_bo_raise_19 (σ : Sg) (a1 : Int64) (a3 : Int64) (z : Sg) (hF : f_bo_raise_19 σ a1 a3 = z) : Ctr yX0_raise cX0_raise 5 none rm_bo_raise_19 [.ref 19, .long a1, .long a3] σ none z := by
  refine ct_start 0 (by decide) rfl (fun ad => Nat.le_of_ble_eq_true rfl) [(0, .ref 19), (1, .long a1), (3, .long a3)] (fun ad => rfl) ?_
  intro p l e s m args below meth c D ad tc A hC hA hr
  unfold f_bo_raise_19 at hF
  refine aw_run (pc' := 3) hC [(.lload_n 3, 1, 0, 0, .null), (.lconst 0, 1, 0, 0, .long 0), (.lcmp, 1, 0, 0, .null)] (by decide +kernel) [(0, .ref 19), (1, .long a1), (3, .long a3)] [.int (lg_cmp a3 0)] σ rfl rfl ⟨trivial, trivial, trivial, trivial⟩ rfl ?_
  refine aw_if_le (off := 32) hC 35 (lc_le _ _) (by decide +kernel) (by decide) (fun h => ?_) (fun h => ?_)
  · have hF := (if_pos h).symm.trans hF
    exact aw_vret hC hr (by decide +kernel)  hF
  · have hF := (if_neg h).symm.trans hF
    refine aw_run (pc' := 10) hC [(.aload_n 0, 1, 0, 0, .null), (.getfield 7, 3, 0, 0, .null)] (by decide +kernel) [(0, .ref 19), (1, .long a1), (3, .long a3)] [.int (σ.1 19 0)] σ rfl rfl ⟨trivial, trivial, trivial⟩ rfl ?_
    refine aw_if_ne (off := 19) hC 29 Iff.rfl (by decide +kernel) (by decide) (fun h => ?_) (fun h => ?_)
    · have hF := (if_neg h).symm.trans hF
      refine aw_run (pc' := 32) hC [(.aload_n 0, 1, 0, 0, .null), (.lload_n 1, 1, 0, 0, .null), (.lload_n 3, 1, 0, 0, .null)] (by decide +kernel) [(0, .ref 19), (1, .long a1), (3, .long a3)] [.long a3, .long a1, .ref 19] σ rfl rfl ⟨trivial, trivial, trivial, trivial⟩ rfl ?_
      obtain ⟨q1, eq1, hF⟩ := nmd hF
      refine aw_callV hC hA (rest := []) (c_bo_put_19 σ a1 a3 q1 eq1) mt_X0_put ln_0_20 (by decide +kernel) ⟨_, rfl⟩ rfl rfl (Nat.le_of_ble_eq_true rfl) ⟨⟨rfl, rfl⟩, Nat.le_of_ble_eq_true rfl, Nat.le_of_ble_eq_true rfl⟩ ⟨Nat.zero_le _, Nat.zero_le _⟩ rfl ?_
      exact aw_vret hC hr (by decide +kernel)  hF
    · have hF := (if_pos h).symm.trans hF
      refine aw_run (pc' := 26) hC [(.lload_n 1, 1, 0, 0, .null), (.aload_n 0, 1, 0, 0, .null), (.getfield 17, 3, 0, 2, .null), (.lmul, 1, 0, 0, .null), (.aload_n 0, 1, 0, 0, .null), (.getfield 13, 3, 0, 1, .null), (.lload_n 3, 1, 0, 0, .null), (.lmul, 1, 0, 0, .null), (.lcmp, 1, 0, 0, .null)] (by decide +kernel) [(0, .ref 19), (1, .long a1), (3, .long a3)] [.int (lg_cmp (a1 * (σ.2 19 2)) ((σ.2 19 1) * a3))] σ rfl rfl ⟨trivial, trivial, trivial, trivial, trivial, trivial, trivial, trivial, trivial, trivial⟩ rfl ?_
      refine aw_if_le (off := 9) hC 35 (lc_le _ _) (by decide +kernel) (by decide) (fun h => ?_) (fun h => ?_)
      · have hF := (if_pos h).symm.trans hF
        exact aw_vret hC hr (by decide +kernel)  hF
      · have hF := (if_neg h).symm.trans hF
        refine aw_run (pc' := 32) hC [(.aload_n 0, 1, 0, 0, .null), (.lload_n 1, 1, 0, 0, .null), (.lload_n 3, 1, 0, 0, .null)] (by decide +kernel) [(0, .ref 19), (1, .long a1), (3, .long a3)] [.long a3, .long a1, .ref 19] σ rfl rfl ⟨trivial, trivial, trivial, trivial⟩ rfl ?_
        obtain ⟨q2, eq2, hF⟩ := nmd hF
        refine aw_callV hC hA (rest := []) (c_bo_put_19 σ a1 a3 q2 eq2) mt_X0_put ln_0_20 (by decide +kernel) ⟨_, rfl⟩ rfl rfl (Nat.le_of_ble_eq_true rfl) ⟨⟨rfl, rfl⟩, Nat.le_of_ble_eq_true rfl, Nat.le_of_ble_eq_true rfl⟩ ⟨Nat.zero_le _, Nat.zero_le _⟩ rfl ?_
        exact aw_vret hC hr (by decide +kernel)  hF
def f_sp_bind_19_c56_s (N : Nat) (kc7 : Int32 → Int32 → Int32 → Sg → Option Sg) (kc56 : Int32 → Int32 → Int32 → Int32 → Sg → Option Sg) (a1 : Int32) (a2 : Int32) (a4 : Int32) (a5 : Int32) (σ : Sg) : Option Sg := if (σ.1 4 5) ≤ a5 then (kc7 a1 a2 (a4 + 1) σ) else (if ib a5 8 then if (σ.1 6 a5.toNatClampNeg) = 0 then (if ib a4 8 then if (f_sp_isBetween a1 (σ.1 5 a4.toNatClampNeg) (σ.1 5 a5.toNatClampNeg)) = 0 then (kc56 a1 a2 a4 (a5 + 1) σ) else ((f_ro_inner σ a5 a2).bind fun q5 => (f_ro_outer σ a4 a2).bind fun q6 => nm (f_bo_raise_19 σ ((q5 * (f_jm_abs_0f7a4 ((σ.1 5 a4.toNatClampNeg) - (σ.1 5 a5.toNatClampNeg)))) + ((q6 - q5) * (f_jm_abs_0f7a4 (a1 - (σ.1 5 a5.toNatClampNeg))))).toInt64 (f_jm_abs_0f7a4 ((σ.1 5 a4.toNatClampNeg) - (σ.1 5 a5.toNatClampNeg))).toInt64) fun q7 => kc56 a1 a2 a4 (a5 + 1) q7) else none) else (kc56 a1 a2 a4 (a5 + 1) σ) else none)
def f_sp_bind_19_c56 (N : Nat) (kc7 : Int32 → Int32 → Int32 → Sg → Option Sg) : Nat → Int32 → Int32 → Int32 → Int32 → Sg → Option Sg
  | 0 => fun _ _ _ _ _ => none
  | n + 1 => f_sp_bind_19_c56_s N kc7 (f_sp_bind_19_c56 N kc7 n)
def f_sp_bind_19_c7_s (N : Nat) (kc7 : Int32 → Int32 → Int32 → Sg → Option Sg) (a1 : Int32) (a2 : Int32) (a4 : Int32) (σ : Sg) : Option Sg := if (σ.1 4 5) ≤ a4 then (some σ) else (if ib a4 8 then if (σ.1 6 a4.toNatClampNeg) = 0 then (if (σ.1 5 a4.toNatClampNeg) = a1 then ((f_ro_outer σ a4 a2).bind fun q8 => nm (f_bo_raise_19 σ q8.toInt64 1) fun q9 => f_sp_bind_19_c56 N kc7 N a1 a2 a4 0 q9) else (f_sp_bind_19_c56 N kc7 N a1 a2 a4 0 σ)) else (kc7 a1 a2 (a4 + 1) σ) else none)
def f_sp_bind_19_c7 (N : Nat) : Nat → Int32 → Int32 → Int32 → Sg → Option Sg
  | 0 => fun _ _ _ _ => none
  | n + 1 => f_sp_bind_19_c7_s N (f_sp_bind_19_c7 N n)
def f_sp_bind_19 (N : Nat) (σ : Sg) (a1 : Int32) (a2 : Int32) : Option Sg := nm (f_bo_release_19 σ) fun q1 => f_sp_bind_19_c7 N N a1 a2 0 q1
def rm_sp_bind_19 : Room := { frames := 2, cells := 0, slots := 0, locals := 48 }
set_option maxHeartbeats 4000000 in
set_option maxRecDepth 100000 in
theorem c_sp_bind_19 (N : Nat) (σ : Sg) (a1 : Int32) (a2 : Int32) (z : Sg) (hF : f_sp_bind_19 N σ a1 a2 = some z) : Ctr yX4_bind cX4_bind 9 none rm_sp_bind_19 [.ref 4, .int a1, .int a2, .ref 19] σ none z := by
  refine ct_start 4 (by decide) rfl (fun ad => Nat.le_of_ble_eq_true rfl) [(0, .ref 4), (1, .int a1), (2, .int a2), (3, .ref 19)] (fun ad => rfl) ?_
  intro p l e s m args below meth c D ad tc A hC hA hr
  have Jc56 : ∀ (kc7 : Int32 → Int32 → Int32 → Sg → Option Sg) (Hc7 : ∀ (a1 : Int32) (a2 : Int32) (a4 : Int32) (σ : Sg), kc7 a1 a2 a4 σ = some z → AW p l e rm_sp_bind_19 s m args below meth c D ad tc 9 A s.heap 0 0 (MQ below (Qr none D ad tc z A) args s 0 0 A) 7 [(0, .ref 4), (1, .int a1), (2, .int a2), (3, .ref 19), (4, .int a4)] [] σ) (n : Nat) (a1 : Int32) (a2 : Int32) (a4 : Int32) (a5 : Int32) (σ : Sg), f_sp_bind_19_c56 N kc7 n a1 a2 a4 a5 σ = some z → AW p l e rm_sp_bind_19 s m args below meth c D ad tc 9 A s.heap 0 0 (MQ below (Qr none D ad tc z A) args s 0 0 A) 56 [(0, .ref 4), (1, .int a1), (2, .int a2), (3, .ref 19), (4, .int a4), (5, .int a5)] [] σ := by
    intro kc7 Hc7 n
    induction n with
    | zero =>
      intro a1 a2 a4 a5 σ hF
      cases hF
    | succ n ih =>
      intro a1 a2 a4 a5 σ hF
      have hF : f_sp_bind_19_c56_s N kc7 (f_sp_bind_19_c56 N kc7 n) a1 a2 a4 a5 σ = some z := hF
      unfold f_sp_bind_19_c56_s at hF
      refine aw_run (pc' := 62) hC [(.iload 5, 2, 0, 0, .null), (.aload_n 0, 1, 0, 0, .null), (.getfield 75, 3, 3, 5, .null)] (by decide +kernel) [(0, .ref 4), (1, .int a1), (2, .int a2), (3, .ref 19), (4, .int a4), (5, .int a5)] [.int (σ.1 4 5), .int a5] σ rfl rfl ⟨trivial, trivial, trivial, trivial⟩ rfl ?_
      refine aw_icmp_ge (off := 110) hC 172 (by decide +kernel) (by decide) (fun h => ?_) (fun h => ?_)
      · have hF := (if_pos h).symm.trans hF
        refine aw_run (pc' := 175) hC [(.iinc 4 1, 3, 0, 0, .int 1)] (by decide +kernel) [(0, .ref 4), (1, .int a1), (2, .int a2), (3, .ref 19), (4, .int (a4 + 1)), (5, .int a5)] [] σ rfl rfl ⟨trivial, trivial⟩ rfl ?_
        refine aw_goto (off := -168) hC 7 (by decide +kernel) (by decide) ?_
        refine aw_pick [0, 1, 2, 3, 4] [(0, .ref 4), (1, .int a1), (2, .int a2), (3, .ref 19), (4, .int (a4 + 1))] rfl ?_
        exact Hc7 a1 a2 (a4 + 1) σ hF
      · have hF := (if_neg h).symm.trans hF
        obtain ⟨g3, hF⟩ := gd hF
        refine aw_run (pc' := 72) hC [(.aload_n 0, 1, 0, 0, .null), (.getfield 81, 3, 3, 1, .null), (.iload 5, 2, 0, 0, .null), (.baload, 1, 0, 0, .null)] (by decide +kernel) [(0, .ref 4), (1, .int a1), (2, .int a2), (3, .ref 19), (4, .int a4), (5, .int a5)] [.int (σ.1 6 a5.toNatClampNeg)] σ rfl rfl ⟨trivial, trivial, trivial, g3, trivial⟩ rfl ?_
        refine aw_if_ne (off := 94) hC 166 Iff.rfl (by decide +kernel) (by decide) (fun h => ?_) (fun h => ?_)
        · have hF := (if_neg h).symm.trans hF
          refine aw_run (pc' := 169) hC [(.iinc 5 1, 3, 0, 0, .int 1)] (by decide +kernel) [(0, .ref 4), (1, .int a1), (2, .int a2), (3, .ref 19), (4, .int a4), (5, .int (a5 + 1))] [] σ rfl rfl ⟨trivial, trivial⟩ rfl ?_
          refine aw_goto (off := -113) hC 56 (by decide +kernel) (by decide) ?_
          exact ih a1 a2 a4 (a5 + 1) σ hF
        · have hF := (if_pos h).symm.trans hF
          obtain ⟨g4, hF⟩ := gd hF
          refine aw_run (pc' := 90) hC [(.iload_n 1, 1, 0, 0, .null), (.aload_n 0, 1, 0, 0, .null), (.getfield 85, 3, 3, 0, .null), (.iload 4, 2, 0, 0, .null), (.iaload, 1, 0, 0, .null), (.aload_n 0, 1, 0, 0, .null), (.getfield 85, 3, 3, 0, .null), (.iload 5, 2, 0, 0, .null), (.iaload, 1, 0, 0, .null)] (by decide +kernel) [(0, .ref 4), (1, .int a1), (2, .int a2), (3, .ref 19), (4, .int a4), (5, .int a5)] [.int (σ.1 5 a5.toNatClampNeg), .int (σ.1 5 a4.toNatClampNeg), .int a1] σ rfl rfl ⟨trivial, trivial, trivial, trivial, g4, trivial, trivial, trivial, g3, trivial⟩ rfl ?_
          refine aw_callS hC hA (rest := []) (c_sp_isBetween σ a1 (σ.1 5 a4.toNatClampNeg) (σ.1 5 a5.toNatClampNeg) _ rfl) mt_X4_isBetween ln_4_103 (by decide +kernel) rfl rfl (Nat.le_of_ble_eq_true rfl) ⟨⟨rfl, rfl⟩, Nat.le_of_ble_eq_true rfl, Nat.le_of_ble_eq_true rfl⟩ ⟨Nat.zero_le _, Nat.zero_le _⟩ rfl ?_
          refine aw_if_eq (off := 73) hC 166 Iff.rfl (by decide +kernel) (by decide) (fun h => ?_) (fun h => ?_)
          · have hF := (if_pos h).symm.trans hF
            refine aw_run (pc' := 169) hC [(.iinc 5 1, 3, 0, 0, .int 1)] (by decide +kernel) [(0, .ref 4), (1, .int a1), (2, .int a2), (3, .ref 19), (4, .int a4), (5, .int (a5 + 1))] [] σ rfl rfl ⟨trivial, trivial⟩ rfl ?_
            refine aw_goto (off := -113) hC 56 (by decide +kernel) (by decide) ?_
            exact ih a1 a2 a4 (a5 + 1) σ hF
          · have hF := (if_neg h).symm.trans hF
            refine aw_run (pc' := 105) hC [(.iload_n 1, 1, 0, 0, .null), (.aload_n 0, 1, 0, 0, .null), (.getfield 85, 3, 3, 0, .null), (.iload 5, 2, 0, 0, .null), (.iaload, 1, 0, 0, .null), (.isub, 1, 0, 0, .null)] (by decide +kernel) [(0, .ref 4), (1, .int a1), (2, .int a2), (3, .ref 19), (4, .int a4), (5, .int a5)] [.int (a1 - (σ.1 5 a5.toNatClampNeg))] σ rfl rfl ⟨trivial, trivial, trivial, trivial, g3, trivial, trivial⟩ rfl ?_
            refine aw_callS hC hA (rest := []) (c_jm_abs_0f7a4 σ (a1 - (σ.1 5 a5.toNatClampNeg)) _ rfl) mt_J9_abs_0f7a4 ln_4_107 (by decide +kernel) rfl rfl (Nat.le_of_ble_eq_true rfl) ⟨⟨rfl, rfl⟩, Nat.le_of_ble_eq_true rfl, Nat.le_of_ble_eq_true rfl⟩ ⟨Nat.zero_le _, Nat.zero_le _⟩ rfl ?_
            refine aw_run (pc' := 125) hC [(.istore 6, 2, 0, 0, .null), (.aload_n 0, 1, 0, 0, .null), (.getfield 85, 3, 3, 0, .null), (.iload 4, 2, 0, 0, .null), (.iaload, 1, 0, 0, .null), (.aload_n 0, 1, 0, 0, .null), (.getfield 85, 3, 3, 0, .null), (.iload 5, 2, 0, 0, .null), (.iaload, 1, 0, 0, .null), (.isub, 1, 0, 0, .null)] (by decide +kernel) [(0, .ref 4), (1, .int a1), (2, .int a2), (3, .ref 19), (4, .int a4), (5, .int a5), (6, .int (f_jm_abs_0f7a4 (a1 - (σ.1 5 a5.toNatClampNeg))))] [.int ((σ.1 5 a4.toNatClampNeg) - (σ.1 5 a5.toNatClampNeg))] σ rfl rfl ⟨trivial, trivial, trivial, trivial, g4, trivial, trivial, trivial, g3, trivial, trivial⟩ rfl ?_
            refine aw_callS hC hA (rest := []) (c_jm_abs_0f7a4 σ ((σ.1 5 a4.toNatClampNeg) - (σ.1 5 a5.toNatClampNeg)) _ rfl) mt_J9_abs_0f7a4 ln_4_107 (by decide +kernel) rfl rfl (Nat.le_of_ble_eq_true rfl) ⟨⟨rfl, rfl⟩, Nat.le_of_ble_eq_true rfl, Nat.le_of_ble_eq_true rfl⟩ ⟨Nat.zero_le _, Nat.zero_le _⟩ rfl ?_
            refine aw_run (pc' := 134) hC [(.istore 7, 2, 0, 0, .null), (.aload_n 0, 1, 0, 0, .null), (.iload 5, 2, 0, 0, .null), (.iload_n 2, 1, 0, 0, .null)] (by decide +kernel) [(0, .ref 4), (1, .int a1), (2, .int a2), (3, .ref 19), (4, .int a4), (5, .int a5), (6, .int (f_jm_abs_0f7a4 (a1 - (σ.1 5 a5.toNatClampNeg)))), (7, .int (f_jm_abs_0f7a4 ((σ.1 5 a4.toNatClampNeg) - (σ.1 5 a5.toNatClampNeg))))] [.int a2, .int a5, .ref 4] σ rfl rfl ⟨trivial, trivial, trivial, trivial, trivial⟩ rfl ?_
            obtain ⟨q5, eq5, hF⟩ := bd hF
            refine aw_callV hC hA (rest := []) (c_ro_inner σ a5 a2 q5 eq5) mt_X3_inner ln_4_89 (by decide +kernel) ⟨_, rfl⟩ rfl rfl (Nat.le_of_ble_eq_true rfl) ⟨⟨rfl, rfl⟩, Nat.le_of_ble_eq_true rfl, Nat.le_of_ble_eq_true rfl⟩ ⟨Nat.zero_le _, Nat.zero_le _⟩ rfl ?_
            refine aw_run (pc' := 149) hC [(.istore 8, 2, 0, 0, .null), (.aload_n 3, 1, 0, 0, .null), (.iload 8, 2, 0, 0, .null), (.iload 7, 2, 0, 0, .null), (.imul, 1, 0, 0, .null), (.aload_n 0, 1, 0, 0, .null), (.iload 4, 2, 0, 0, .null), (.iload_n 2, 1, 0, 0, .null)] (by decide +kernel) [(0, .ref 4), (1, .int a1), (2, .int a2), (3, .ref 19), (4, .int a4), (5, .int a5), (6, .int (f_jm_abs_0f7a4 (a1 - (σ.1 5 a5.toNatClampNeg)))), (7, .int (f_jm_abs_0f7a4 ((σ.1 5 a4.toNatClampNeg) - (σ.1 5 a5.toNatClampNeg)))), (8, .int q5)] [.int a2, .int a4, .ref 4, .int (q5 * (f_jm_abs_0f7a4 ((σ.1 5 a4.toNatClampNeg) - (σ.1 5 a5.toNatClampNeg)))), .ref 19] σ rfl rfl ⟨trivial, trivial, trivial, trivial, trivial, trivial, trivial, trivial, trivial⟩ rfl ?_
            obtain ⟨q6, eq6, hF⟩ := bd hF
            refine aw_callV hC hA (rest := [.int (q5 * (f_jm_abs_0f7a4 ((σ.1 5 a4.toNatClampNeg) - (σ.1 5 a5.toNatClampNeg)))), .ref 19]) (c_ro_outer σ a4 a2 q6 eq6) mt_X3_outer ln_4_97 (by decide +kernel) ⟨_, rfl⟩ rfl rfl (Nat.le_of_ble_eq_true rfl) ⟨⟨rfl, rfl⟩, Nat.le_of_ble_eq_true rfl, Nat.le_of_ble_eq_true rfl⟩ ⟨Nat.zero_le _, Nat.zero_le _⟩ rfl ?_
            refine aw_run (pc' := 163) hC [(.iload 8, 2, 0, 0, .null), (.isub, 1, 0, 0, .null), (.iload 6, 2, 0, 0, .null), (.imul, 1, 0, 0, .null), (.iadd, 1, 0, 0, .null), (.i2l, 1, 0, 0, .null), (.iload 7, 2, 0, 0, .null), (.i2l, 1, 0, 0, .null)] (by decide +kernel) [(0, .ref 4), (1, .int a1), (2, .int a2), (3, .ref 19), (4, .int a4), (5, .int a5), (6, .int (f_jm_abs_0f7a4 (a1 - (σ.1 5 a5.toNatClampNeg)))), (7, .int (f_jm_abs_0f7a4 ((σ.1 5 a4.toNatClampNeg) - (σ.1 5 a5.toNatClampNeg)))), (8, .int q5)] [.long (f_jm_abs_0f7a4 ((σ.1 5 a4.toNatClampNeg) - (σ.1 5 a5.toNatClampNeg))).toInt64, .long ((q5 * (f_jm_abs_0f7a4 ((σ.1 5 a4.toNatClampNeg) - (σ.1 5 a5.toNatClampNeg)))) + ((q6 - q5) * (f_jm_abs_0f7a4 (a1 - (σ.1 5 a5.toNatClampNeg))))).toInt64, .ref 19] σ rfl rfl ⟨trivial, trivial, trivial, trivial, trivial, trivial, trivial, trivial, trivial⟩ rfl ?_
            obtain ⟨q7, eq7, hF⟩ := nmd hF
            refine aw_callV hC hA (rest := []) (c_bo_raise_19 σ ((q5 * (f_jm_abs_0f7a4 ((σ.1 5 a4.toNatClampNeg) - (σ.1 5 a5.toNatClampNeg)))) + ((q6 - q5) * (f_jm_abs_0f7a4 (a1 - (σ.1 5 a5.toNatClampNeg))))).toInt64 (f_jm_abs_0f7a4 ((σ.1 5 a4.toNatClampNeg) - (σ.1 5 a5.toNatClampNeg))).toInt64 q7 eq7) mt_X0_raise ln_4_100 (by decide +kernel) ⟨_, rfl⟩ rfl rfl (Nat.le_of_ble_eq_true rfl) ⟨⟨rfl, rfl⟩, Nat.le_of_ble_eq_true rfl, Nat.le_of_ble_eq_true rfl⟩ ⟨Nat.zero_le _, Nat.zero_le _⟩ rfl ?_
            refine aw_run (pc' := 169) hC [(.iinc 5 1, 3, 0, 0, .int 1)] (by decide +kernel) [(0, .ref 4), (1, .int a1), (2, .int a2), (3, .ref 19), (4, .int a4), (5, .int (a5 + 1)), (6, .int (f_jm_abs_0f7a4 (a1 - (σ.1 5 a5.toNatClampNeg)))), (7, .int (f_jm_abs_0f7a4 ((σ.1 5 a4.toNatClampNeg) - (σ.1 5 a5.toNatClampNeg)))), (8, .int q5)] [] q7 rfl rfl ⟨trivial, trivial⟩ rfl ?_
            refine aw_goto (off := -113) hC 56 (by decide +kernel) (by decide) ?_
            refine aw_pick [0, 1, 2, 3, 4, 5] [(0, .ref 4), (1, .int a1), (2, .int a2), (3, .ref 19), (4, .int a4), (5, .int (a5 + 1))] rfl ?_
            exact ih a1 a2 a4 (a5 + 1) q7 hF
  have Jc7 : ∀ (n : Nat) (a1 : Int32) (a2 : Int32) (a4 : Int32) (σ : Sg), f_sp_bind_19_c7 N n a1 a2 a4 σ = some z → AW p l e rm_sp_bind_19 s m args below meth c D ad tc 9 A s.heap 0 0 (MQ below (Qr none D ad tc z A) args s 0 0 A) 7 [(0, .ref 4), (1, .int a1), (2, .int a2), (3, .ref 19), (4, .int a4)] [] σ := by
    intro n
    induction n with
    | zero =>
      intro a1 a2 a4 σ hF
      cases hF
    | succ n ih =>
      intro a1 a2 a4 σ hF
      have hF : f_sp_bind_19_c7_s N (f_sp_bind_19_c7 N n) a1 a2 a4 σ = some z := hF
      unfold f_sp_bind_19_c7_s at hF
      refine aw_run (pc' := 13) hC [(.iload 4, 2, 0, 0, .null), (.aload_n 0, 1, 0, 0, .null), (.getfield 75, 3, 3, 5, .null)] (by decide +kernel) [(0, .ref 4), (1, .int a1), (2, .int a2), (3, .ref 19), (4, .int a4)] [.int (σ.1 4 5), .int a4] σ rfl rfl ⟨trivial, trivial, trivial, trivial⟩ rfl ?_
      refine aw_icmp_ge (off := 165) hC 178 (by decide +kernel) (by decide) (fun h => ?_) (fun h => ?_)
      · have hF := (if_pos h).symm.trans hF
        exact aw_vret hC hr (by decide +kernel)  (Option.some.inj hF)
      · have hF := (if_neg h).symm.trans hF
        obtain ⟨g2, hF⟩ := gd hF
        refine aw_run (pc' := 23) hC [(.aload_n 0, 1, 0, 0, .null), (.getfield 81, 3, 3, 1, .null), (.iload 4, 2, 0, 0, .null), (.baload, 1, 0, 0, .null)] (by decide +kernel) [(0, .ref 4), (1, .int a1), (2, .int a2), (3, .ref 19), (4, .int a4)] [.int (σ.1 6 a4.toNatClampNeg)] σ rfl rfl ⟨trivial, trivial, trivial, g2, trivial⟩ rfl ?_
        refine aw_if_eq (off := 6) hC 29 Iff.rfl (by decide +kernel) (by decide) (fun h => ?_) (fun h => ?_)
        · have hF := (if_pos h).symm.trans hF
          refine aw_run (pc' := 37) hC [(.aload_n 0, 1, 0, 0, .null), (.getfield 85, 3, 3, 0, .null), (.iload 4, 2, 0, 0, .null), (.iaload, 1, 0, 0, .null), (.iload_n 1, 1, 0, 0, .null)] (by decide +kernel) [(0, .ref 4), (1, .int a1), (2, .int a2), (3, .ref 19), (4, .int a4)] [.int a1, .int (σ.1 5 a4.toNatClampNeg)] σ rfl rfl ⟨trivial, trivial, trivial, g2, trivial, trivial⟩ rfl ?_
          refine aw_icmp_ne (off := 16) hC 53 (by decide +kernel) (by decide) (fun h => ?_) (fun h => ?_)
          · have hF := (if_neg h).symm.trans hF
            refine aw_run (pc' := 56) hC [(.iconst 0, 1, 0, 0, .int 0), (.istore 5, 2, 0, 0, .null)] (by decide +kernel) [(0, .ref 4), (1, .int a1), (2, .int a2), (3, .ref 19), (4, .int a4), (5, .int 0)] [] σ rfl rfl ⟨trivial, trivial, trivial⟩ rfl ?_
            exact Jc56 (f_sp_bind_19_c7 N n) ih N a1 a2 a4 0 σ hF
          · have hF := (if_pos h).symm.trans hF
            refine aw_run (pc' := 45) hC [(.aload_n 3, 1, 0, 0, .null), (.aload_n 0, 1, 0, 0, .null), (.iload 4, 2, 0, 0, .null), (.iload_n 2, 1, 0, 0, .null)] (by decide +kernel) [(0, .ref 4), (1, .int a1), (2, .int a2), (3, .ref 19), (4, .int a4)] [.int a2, .int a4, .ref 4, .ref 19] σ rfl rfl ⟨trivial, trivial, trivial, trivial, trivial⟩ rfl ?_
            obtain ⟨q8, eq8, hF⟩ := bd hF
            refine aw_callV hC hA (rest := [.ref 19]) (c_ro_outer σ a4 a2 q8 eq8) mt_X3_outer ln_4_97 (by decide +kernel) ⟨_, rfl⟩ rfl rfl (Nat.le_of_ble_eq_true rfl) ⟨⟨rfl, rfl⟩, Nat.le_of_ble_eq_true rfl, Nat.le_of_ble_eq_true rfl⟩ ⟨Nat.zero_le _, Nat.zero_le _⟩ rfl ?_
            refine aw_run (pc' := 50) hC [(.i2l, 1, 0, 0, .null), (.lconst 1, 1, 0, 0, .long 1)] (by decide +kernel) [(0, .ref 4), (1, .int a1), (2, .int a2), (3, .ref 19), (4, .int a4)] [.long 1, .long q8.toInt64, .ref 19] σ rfl rfl ⟨trivial, trivial, trivial⟩ rfl ?_
            obtain ⟨q9, eq9, hF⟩ := nmd hF
            refine aw_callV hC hA (rest := []) (c_bo_raise_19 σ q8.toInt64 1 q9 eq9) mt_X0_raise ln_4_100 (by decide +kernel) ⟨_, rfl⟩ rfl rfl (Nat.le_of_ble_eq_true rfl) ⟨⟨rfl, rfl⟩, Nat.le_of_ble_eq_true rfl, Nat.le_of_ble_eq_true rfl⟩ ⟨Nat.zero_le _, Nat.zero_le _⟩ rfl ?_
            refine aw_run (pc' := 56) hC [(.iconst 0, 1, 0, 0, .int 0), (.istore 5, 2, 0, 0, .null)] (by decide +kernel) [(0, .ref 4), (1, .int a1), (2, .int a2), (3, .ref 19), (4, .int a4), (5, .int 0)] [] q9 rfl rfl ⟨trivial, trivial, trivial⟩ rfl ?_
            exact Jc56 (f_sp_bind_19_c7 N n) ih N a1 a2 a4 0 q9 hF
        · have hF := (if_neg h).symm.trans hF
          refine aw_goto (off := 146) hC 172 (by decide +kernel) (by decide) ?_
          refine aw_run (pc' := 175) hC [(.iinc 4 1, 3, 0, 0, .int 1)] (by decide +kernel) [(0, .ref 4), (1, .int a1), (2, .int a2), (3, .ref 19), (4, .int (a4 + 1))] [] σ rfl rfl ⟨trivial, trivial⟩ rfl ?_
          refine aw_goto (off := -168) hC 7 (by decide +kernel) (by decide) ?_
          exact ih a1 a2 (a4 + 1) σ hF
  unfold f_sp_bind_19 at hF
  refine aw_run (pc' := 1) hC [(.aload_n 3, 1, 0, 0, .null)] (by decide +kernel) [(0, .ref 4), (1, .int a1), (2, .int a2), (3, .ref 19)] [.ref 19] σ rfl rfl ⟨trivial, trivial⟩ rfl ?_
  obtain ⟨q1, eq1, hF⟩ := nmd hF
  refine aw_callV hC hA (rest := []) (c_bo_release_19 σ q1 eq1) mt_X0_release ln_4_72 (by decide +kernel) ⟨_, rfl⟩ rfl rfl (Nat.le_of_ble_eq_true rfl) ⟨⟨rfl, rfl⟩, Nat.le_of_ble_eq_true rfl, Nat.le_of_ble_eq_true rfl⟩ ⟨Nat.zero_le _, Nat.zero_le _⟩ rfl ?_
  refine aw_run (pc' := 7) hC [(.iconst 0, 1, 0, 0, .int 0), (.istore 4, 2, 0, 0, .null)] (by decide +kernel) [(0, .ref 4), (1, .int a1), (2, .int a2), (3, .ref 19), (4, .int 0)] [] q1 rfl rfl ⟨trivial, trivial, trivial⟩ rfl ?_
  exact Jc7 N a1 a2 0 q1 hF
def f_sp_isBarred_c12_s (N : Nat) (kc2 : Int32 → Int32 → Sg → Option Int32) (kc12 : Int32 → Int32 → Int32 → Sg → Option Int32) (a1 : Int32) (a2 : Int32) (a3 : Int32) (σ : Sg) : Option Int32 := if (σ.1 4 5) ≤ a3 then (kc2 a1 (a2 + 1) σ) else (if ib a2 8 then if (σ.1 6 a2.toNatClampNeg) = 0 then (kc2 a1 (a2 + 1) σ) else (if ib a3 8 then if (σ.1 6 a3.toNatClampNeg) = 0 then (if 0 < (((σ.1 5 a2.toNatClampNeg) - (σ.1 5 a3.toNatClampNeg)) * ((σ.1 5 a2.toNatClampNeg) - a1)) then (kc12 a1 a2 (a3 + 1) σ) else (some 1)) else (kc12 a1 a2 (a3 + 1) σ) else none) else none)
def f_sp_isBarred_c12 (N : Nat) (kc2 : Int32 → Int32 → Sg → Option Int32) : Nat → Int32 → Int32 → Int32 → Sg → Option Int32
  | 0 => fun _ _ _ _ => none
  | n + 1 => f_sp_isBarred_c12_s N kc2 (f_sp_isBarred_c12 N kc2 n)
def f_sp_isBarred_c2_s (N : Nat) (kc2 : Int32 → Int32 → Sg → Option Int32) (a1 : Int32) (a2 : Int32) (σ : Sg) : Option Int32 := if (σ.1 4 5) ≤ a2 then (some 0) else (f_sp_isBarred_c12 N kc2 N a1 a2 0 σ)
def f_sp_isBarred_c2 (N : Nat) : Nat → Int32 → Int32 → Sg → Option Int32
  | 0 => fun _ _ _ => none
  | n + 1 => f_sp_isBarred_c2_s N (f_sp_isBarred_c2 N n)
def f_sp_isBarred (N : Nat) (σ : Sg) (a1 : Int32) : Option Int32 := f_sp_isBarred_c2 N N a1 0 σ
def rm_sp_isBarred : Room := { frames := 0, cells := 0, slots := 0, locals := 0 }
set_option maxHeartbeats 4000000 in
set_option maxRecDepth 100000 in
theorem c_sp_isBarred (N : Nat) (σ : Sg) (a1 : Int32) (z : Int32) (hF : f_sp_isBarred N σ a1 = some z) : Ctr yX4_isBarred cX4_isBarred 5 (some .boolean) rm_sp_isBarred [.ref 4, .int a1] σ (some (.int z)) σ := by
  refine ct_start 4 (by decide) rfl (fun ad => Nat.le_of_ble_eq_true rfl) [(0, .ref 4), (1, .int a1)] (fun ad => rfl) ?_
  intro p l e s m args below meth c D ad tc A hC hA hr
  have Jc12 : ∀ (kc2 : Int32 → Int32 → Sg → Option Int32) (Hc2 : ∀ (a1 : Int32) (a2 : Int32), kc2 a1 a2 σ = some z → AW p l e rm_sp_isBarred s m args below meth c D ad tc 5 A s.heap 0 0 (MQ below (Qr (some (.int z)) D ad tc σ A) args s 0 0 A) 2 [(0, .ref 4), (1, .int a1), (2, .int a2)] [] σ) (n : Nat) (a1 : Int32) (a2 : Int32) (a3 : Int32), f_sp_isBarred_c12 N kc2 n a1 a2 a3 σ = some z → AW p l e rm_sp_isBarred s m args below meth c D ad tc 5 A s.heap 0 0 (MQ below (Qr (some (.int z)) D ad tc σ A) args s 0 0 A) 12 [(0, .ref 4), (1, .int a1), (2, .int a2), (3, .int a3)] [] σ := by
    intro kc2 Hc2 n
    induction n with
    | zero =>
      intro a1 a2 a3 hF
      cases hF
    | succ n ih =>
      intro a1 a2 a3 hF
      have hF : f_sp_isBarred_c12_s N kc2 (f_sp_isBarred_c12 N kc2 n) a1 a2 a3 σ = some z := hF
      unfold f_sp_isBarred_c12_s at hF
      refine aw_run (pc' := 17) hC [(.iload_n 3, 1, 0, 0, .null), (.aload_n 0, 1, 0, 0, .null), (.getfield 75, 3, 3, 5, .null)] (by decide +kernel) [(0, .ref 4), (1, .int a1), (2, .int a2), (3, .int a3)] [.int (σ.1 4 5), .int a3] σ rfl rfl ⟨trivial, trivial, trivial, trivial⟩ rfl ?_
      refine aw_icmp_ge (off := 58) hC 75 (by decide +kernel) (by decide) (fun h => ?_) (fun h => ?_)
      · have hF := (if_pos h).symm.trans hF
        refine aw_run (pc' := 78) hC [(.iinc 2 1, 3, 0, 0, .int 1)] (by decide +kernel) [(0, .ref 4), (1, .int a1), (2, .int (a2 + 1)), (3, .int a3)] [] σ rfl rfl ⟨trivial, trivial⟩ rfl ?_
        refine aw_goto (off := -76) hC 2 (by decide +kernel) (by decide) ?_
        refine aw_pick [0, 1, 2] [(0, .ref 4), (1, .int a1), (2, .int (a2 + 1))] rfl ?_
        exact Hc2 a1 (a2 + 1) hF
      · have hF := (if_neg h).symm.trans hF
        obtain ⟨g1, hF⟩ := gd hF
        refine aw_run (pc' := 26) hC [(.aload_n 0, 1, 0, 0, .null), (.getfield 81, 3, 3, 1, .null), (.iload_n 2, 1, 0, 0, .null), (.baload, 1, 0, 0, .null)] (by decide +kernel) [(0, .ref 4), (1, .int a1), (2, .int a2), (3, .int a3)] [.int (σ.1 6 a2.toNatClampNeg)] σ rfl rfl ⟨trivial, trivial, trivial, g1, trivial⟩ rfl ?_
        refine aw_if_eq (off := 49) hC 75 Iff.rfl (by decide +kernel) (by decide) (fun h => ?_) (fun h => ?_)
        · have hF := (if_pos h).symm.trans hF
          refine aw_run (pc' := 78) hC [(.iinc 2 1, 3, 0, 0, .int 1)] (by decide +kernel) [(0, .ref 4), (1, .int a1), (2, .int (a2 + 1)), (3, .int a3)] [] σ rfl rfl ⟨trivial, trivial⟩ rfl ?_
          refine aw_goto (off := -76) hC 2 (by decide +kernel) (by decide) ?_
          refine aw_pick [0, 1, 2] [(0, .ref 4), (1, .int a1), (2, .int (a2 + 1))] rfl ?_
          exact Hc2 a1 (a2 + 1) hF
        · have hF := (if_neg h).symm.trans hF
          obtain ⟨g2, hF⟩ := gd hF
          refine aw_run (pc' := 50) hC [(.aload_n 0, 1, 0, 0, .null), (.getfield 85, 3, 3, 0, .null), (.iload_n 2, 1, 0, 0, .null), (.iaload, 1, 0, 0, .null), (.aload_n 0, 1, 0, 0, .null), (.getfield 85, 3, 3, 0, .null), (.iload_n 3, 1, 0, 0, .null), (.iaload, 1, 0, 0, .null), (.isub, 1, 0, 0, .null), (.istore 4, 2, 0, 0, .null), (.aload_n 0, 1, 0, 0, .null), (.getfield 81, 3, 3, 1, .null), (.iload_n 3, 1, 0, 0, .null), (.baload, 1, 0, 0, .null)] (by decide +kernel) [(0, .ref 4), (1, .int a1), (2, .int a2), (3, .int a3), (4, .int ((σ.1 5 a2.toNatClampNeg) - (σ.1 5 a3.toNatClampNeg)))] [.int (σ.1 6 a3.toNatClampNeg)] σ rfl rfl ⟨trivial, trivial, trivial, g1, trivial, trivial, trivial, g2, trivial, trivial, trivial, trivial, trivial, g2, trivial⟩ rfl ?_
          refine aw_if_ne (off := 19) hC 69 Iff.rfl (by decide +kernel) (by decide) (fun h => ?_) (fun h => ?_)
          · have hF := (if_neg h).symm.trans hF
            refine aw_run (pc' := 72) hC [(.iinc 3 1, 3, 0, 0, .int 1)] (by decide +kernel) [(0, .ref 4), (1, .int a1), (2, .int a2), (3, .int (a3 + 1)), (4, .int ((σ.1 5 a2.toNatClampNeg) - (σ.1 5 a3.toNatClampNeg)))] [] σ rfl rfl ⟨trivial, trivial⟩ rfl ?_
            refine aw_goto (off := -60) hC 12 (by decide +kernel) (by decide) ?_
            refine aw_pick [0, 1, 2, 3] [(0, .ref 4), (1, .int a1), (2, .int a2), (3, .int (a3 + 1))] rfl ?_
            exact ih a1 a2 (a3 + 1) hF
          · have hF := (if_pos h).symm.trans hF
            refine aw_run (pc' := 64) hC [(.iload 4, 2, 0, 0, .null), (.aload_n 0, 1, 0, 0, .null), (.getfield 85, 3, 3, 0, .null), (.iload_n 2, 1, 0, 0, .null), (.iaload, 1, 0, 0, .null), (.iload_n 1, 1, 0, 0, .null), (.isub, 1, 0, 0, .null), (.imul, 1, 0, 0, .null)] (by decide +kernel) [(0, .ref 4), (1, .int a1), (2, .int a2), (3, .int a3), (4, .int ((σ.1 5 a2.toNatClampNeg) - (σ.1 5 a3.toNatClampNeg)))] [.int (((σ.1 5 a2.toNatClampNeg) - (σ.1 5 a3.toNatClampNeg)) * ((σ.1 5 a2.toNatClampNeg) - a1))] σ rfl rfl ⟨trivial, trivial, trivial, trivial, g1, trivial, trivial, trivial, trivial⟩ rfl ?_
            refine aw_if_gt (off := 5) hC 69 Iff.rfl (by decide +kernel) (by decide) (fun h => ?_) (fun h => ?_)
            · have hF := (if_pos h).symm.trans hF
              refine aw_run (pc' := 72) hC [(.iinc 3 1, 3, 0, 0, .int 1)] (by decide +kernel) [(0, .ref 4), (1, .int a1), (2, .int a2), (3, .int (a3 + 1)), (4, .int ((σ.1 5 a2.toNatClampNeg) - (σ.1 5 a3.toNatClampNeg)))] [] σ rfl rfl ⟨trivial, trivial⟩ rfl ?_
              refine aw_goto (off := -60) hC 12 (by decide +kernel) (by decide) ?_
              refine aw_pick [0, 1, 2, 3] [(0, .ref 4), (1, .int a1), (2, .int a2), (3, .int (a3 + 1))] rfl ?_
              exact ih a1 a2 (a3 + 1) hF
            · have hF := (if_neg h).symm.trans hF
              refine aw_run (pc' := 68) hC [(.iconst 1, 1, 0, 0, .int 1)] (by decide +kernel) [(0, .ref 4), (1, .int a1), (2, .int a2), (3, .int a3), (4, .int ((σ.1 5 a2.toNatClampNeg) - (σ.1 5 a3.toNatClampNeg)))] [.int 1] σ rfl rfl ⟨trivial, trivial⟩ rfl ?_
              exact aw_zret hC hr (Or.inr rfl) (by decide +kernel) (Option.some.inj hF) rfl
  have Jc2 : ∀ (n : Nat) (a1 : Int32) (a2 : Int32), f_sp_isBarred_c2 N n a1 a2 σ = some z → AW p l e rm_sp_isBarred s m args below meth c D ad tc 5 A s.heap 0 0 (MQ below (Qr (some (.int z)) D ad tc σ A) args s 0 0 A) 2 [(0, .ref 4), (1, .int a1), (2, .int a2)] [] σ := by
    intro n
    induction n with
    | zero =>
      intro a1 a2 hF
      cases hF
    | succ n ih =>
      intro a1 a2 hF
      have hF : f_sp_isBarred_c2_s N (f_sp_isBarred_c2 N n) a1 a2 σ = some z := hF
      unfold f_sp_isBarred_c2_s at hF
      refine aw_run (pc' := 7) hC [(.iload_n 2, 1, 0, 0, .null), (.aload_n 0, 1, 0, 0, .null), (.getfield 75, 3, 3, 5, .null)] (by decide +kernel) [(0, .ref 4), (1, .int a1), (2, .int a2)] [.int (σ.1 4 5), .int a2] σ rfl rfl ⟨trivial, trivial, trivial, trivial⟩ rfl ?_
      refine aw_icmp_ge (off := 74) hC 81 (by decide +kernel) (by decide) (fun h => ?_) (fun h => ?_)
      · have hF := (if_pos h).symm.trans hF
        refine aw_run (pc' := 82) hC [(.iconst 0, 1, 0, 0, .int 0)] (by decide +kernel) [(0, .ref 4), (1, .int a1), (2, .int a2)] [.int 0] σ rfl rfl ⟨trivial, trivial⟩ rfl ?_
        exact aw_zret hC hr (Or.inl rfl) (by decide +kernel) (Option.some.inj hF) rfl
      · have hF := (if_neg h).symm.trans hF
        refine aw_run (pc' := 12) hC [(.iconst 0, 1, 0, 0, .int 0), (.istore_n 3, 1, 0, 0, .null)] (by decide +kernel) [(0, .ref 4), (1, .int a1), (2, .int a2), (3, .int 0)] [] σ rfl rfl ⟨trivial, trivial, trivial⟩ rfl ?_
        exact Jc12 (f_sp_isBarred_c2 N n) ih N a1 a2 0 hF
  unfold f_sp_isBarred at hF
  refine aw_run (pc' := 2) hC [(.iconst 0, 1, 0, 0, .int 0), (.istore_n 2, 1, 0, 0, .null)] (by decide +kernel) [(0, .ref 4), (1, .int a1), (2, .int 0)] [] σ rfl rfl ⟨trivial, trivial, trivial⟩ rfl ?_
  exact Jc2 N a1 0 hF
def f_sp_isBoundless (σ : Sg) : Int32 := if (σ.1 18 0) = 0 then (if (σ.1 19 0) = 0 then 0 else 1) else 1
def rm_sp_isBoundless : Room := { frames := 0, cells := 0, slots := 0, locals := 0 }
set_option maxHeartbeats 4000000 in
set_option maxRecDepth 100000 in
theorem c_sp_isBoundless (σ : Sg) (z : Int32) (hF : f_sp_isBoundless σ = z) : Ctr yX4_isBoundless cX4_isBoundless 1 (some .boolean) rm_sp_isBoundless [.ref 17] σ (some (.int z)) σ := by
  refine ct_start 4 (by decide) rfl (fun ad => Nat.le_of_ble_eq_true rfl) [(0, .ref 17)] (fun ad => rfl) ?_
  intro p l e s m args below meth c D ad tc A hC hA hr
  unfold f_sp_isBoundless at hF
  refine aw_run (pc' := 7) hC [(.aload_n 0, 1, 0, 0, .null), (.getfield 12, 3, 4, 0, .null), (.getfield 25, 3, 0, 0, .null)] (by decide +kernel) [(0, .ref 17)] [.int (σ.1 18 0)] σ rfl rfl ⟨trivial, trivial, trivial, trivial⟩ rfl ?_
  refine aw_if_ne (off := 13) hC 20 Iff.rfl (by decide +kernel) (by decide) (fun h => ?_) (fun h => ?_)
  · have hF := (if_neg h).symm.trans hF
    refine aw_run (pc' := 21) hC [(.iconst 1, 1, 0, 0, .int 1)] (by decide +kernel) [(0, .ref 17)] [.int 1] σ rfl rfl ⟨trivial, trivial⟩ rfl ?_
    refine aw_goto (off := 4) hC 25 (by decide +kernel) (by decide) ?_
    exact aw_zret hC hr (Or.inr rfl) (by decide +kernel) hF rfl
  · have hF := (if_pos h).symm.trans hF
    refine aw_run (pc' := 17) hC [(.aload_n 0, 1, 0, 0, .null), (.getfield 18, 3, 4, 1, .null), (.getfield 25, 3, 0, 0, .null)] (by decide +kernel) [(0, .ref 17)] [.int (σ.1 19 0)] σ rfl rfl ⟨trivial, trivial, trivial, trivial⟩ rfl ?_
    refine aw_if_eq (off := 7) hC 24 Iff.rfl (by decide +kernel) (by decide) (fun h => ?_) (fun h => ?_)
    · have hF := (if_pos h).symm.trans hF
      refine aw_run (pc' := 25) hC [(.iconst 0, 1, 0, 0, .int 0)] (by decide +kernel) [(0, .ref 17)] [.int 0] σ rfl rfl ⟨trivial, trivial⟩ rfl ?_
      exact aw_zret hC hr (Or.inl rfl) (by decide +kernel) hF rfl
    · have hF := (if_neg h).symm.trans hF
      refine aw_run (pc' := 21) hC [(.iconst 1, 1, 0, 0, .int 1)] (by decide +kernel) [(0, .ref 17)] [.int 1] σ rfl rfl ⟨trivial, trivial⟩ rfl ?_
      refine aw_goto (off := 4) hC 25 (by decide +kernel) (by decide) ?_
      exact aw_zret hC hr (Or.inr rfl) (by decide +kernel) hF rfl
