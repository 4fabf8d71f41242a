def f_ss_letter (σ : Sg) (a1 : Int32) : Option (Int32 × Sg) := if a1 < 32 then (some (-100000003, σ)) else (if a1 ≤ 126 then (if (σ.1 0 6) < 0 then (some (-100000005, σ)) else (if (σ.1 0 6) < 24 then (if ib (σ.1 0 6) 24 then nm (uI σ 1 (σ.1 0 6).toNatClampNeg a1) fun σ2 => nm (uI σ2 0 6 ((σ2.1 0 6) + 1)) fun σ3 => some (σ3.1 0 6, σ3) else none) else (some (-100000005, σ)))) else (some (-100000003, σ)))
def rm_ss_letter : Room := { frames := 0, cells := 0, slots := 0, locals := 0 }
set_option maxHeartbeats 4000000 in
set_option maxRecDepth 100000 in
theorem c_ss_letter (σ : Sg) (a1 : Int32) (z : Int32 × Sg) (hF : f_ss_letter σ a1 = some z) : Ctr yX6_letter cX6_letter 2 (some .int) rm_ss_letter [.ref 0, .int a1] σ (some (.int z.1)) z.2 := by
  refine ct_start 6 (by decide) rfl (fun ad => Nat.le_of_ble_eq_true rfl) [(0, .ref 0), (1, .int a1)] (fun ad => rfl) ?_
  intro p l e s m args below meth c D ad tc A hC hA hr
  unfold f_ss_letter at hF
  refine aw_run (pc' := 3) hC [(.iload_n 1, 1, 0, 0, .null), (.bipush 32, 2, 0, 0, .int 32)] (by decide +kernel) [(0, .ref 0), (1, .int a1)] [.int 32, .int a1] σ rfl rfl ⟨trivial, trivial, trivial⟩ rfl ?_
  refine aw_icmp_lt (off := 9) hC 12 (by decide +kernel) (by decide) (fun h => ?_) (fun h => ?_)
  · have hF := (if_pos h).symm.trans hF
    refine aw_run (pc' := 14) hC [(.ldc 48, 2, 0, 0, .int (-100000003))] (by decide +kernel) [(0, .ref 0), (1, .int a1)] [.int (-100000003)] σ rfl rfl ⟨trivial, trivial⟩ rfl ?_
    exact aw_iret hC hr (by decide +kernel) (pS1 hF) (pS2 hF)
  · have hF := (if_neg h).symm.trans hF
    refine aw_run (pc' := 9) hC [(.iload_n 1, 1, 0, 0, .null), (.bipush 126, 2, 0, 0, .int 126)] (by decide +kernel) [(0, .ref 0), (1, .int a1)] [.int 126, .int a1] σ rfl rfl ⟨trivial, trivial, trivial⟩ rfl ?_
    refine aw_icmp_le (off := 6) hC 15 (by decide +kernel) (by decide) (fun h => ?_) (fun h => ?_)
    · have hF := (if_pos h).symm.trans hF
      refine aw_run (pc' := 19) hC [(.aload_n 0, 1, 0, 0, .null), (.getfield 49, 3, 6, 6, .null)] (by decide +kernel) [(0, .ref 0), (1, .int a1)] [.int (σ.1 0 6)] σ rfl rfl ⟨trivial, trivial, trivial⟩ rfl ?_
      refine aw_if_lt (off := 15) hC 34 Iff.rfl (by decide +kernel) (by decide) (fun h => ?_) (fun h => ?_)
      · have hF := (if_pos h).symm.trans hF
        refine aw_run (pc' := 36) hC [(.ldc 53, 2, 0, 0, .int (-100000005))] (by decide +kernel) [(0, .ref 0), (1, .int a1)] [.int (-100000005)] σ rfl rfl ⟨trivial, trivial⟩ rfl ?_
        exact aw_iret hC hr (by decide +kernel) (pS1 hF) (pS2 hF)
      · have hF := (if_neg h).symm.trans hF
        refine aw_run (pc' := 31) hC [(.aload_n 0, 1, 0, 0, .null), (.getfield 49, 3, 6, 6, .null), (.aload_n 0, 1, 0, 0, .null), (.getfield 9, 3, 6, 0, .null), (.arraylength, 1, 0, 0, .int 24)] (by decide +kernel) [(0, .ref 0), (1, .int a1)] [.int 24, .int (σ.1 0 6)] σ rfl rfl ⟨trivial, trivial, trivial, trivial, rfl, trivial⟩ rfl ?_
        refine aw_icmp_lt (off := 6) hC 37 (by decide +kernel) (by decide) (fun h => ?_) (fun h => ?_)
        · have hF := (if_pos h).symm.trans hF
          obtain ⟨g1, hF⟩ := gd hF
          obtain ⟨σ2, hσ2, hF⟩ := nmd hF
          refine aw_run (pc' := 47) hC [(.aload_n 0, 1, 0, 0, .null), (.getfield 9, 3, 6, 0, .null), (.aload_n 0, 1, 0, 0, .null), (.getfield 49, 3, 6, 6, .null), (.iload_n 1, 1, 0, 0, .null), (.iastore, 1, 0, 0, .null)] (by decide +kernel) [(0, .ref 0), (1, .int a1)] [] (uI σ 1 (σ.1 0 6).toNatClampNeg a1) rfl rfl ⟨trivial, trivial, trivial, trivial, trivial, g1, trivial⟩ hσ2 ?_
          obtain ⟨σ3, hσ3, hF⟩ := nmd hF
          refine aw_run (pc' := 57) hC [(.aload_n 0, 1, 0, 0, .null), (.dup, 1, 0, 0, .null), (.getfield 49, 3, 6, 6, .null), (.iconst 1, 1, 0, 0, .int 1), (.iadd, 1, 0, 0, .null), (.putfield 49, 3, 6, 6, .null)] (by decide +kernel) [(0, .ref 0), (1, .int a1)] [] (uI σ2 0 6 ((σ2.1 0 6) + 1)) rfl rfl ⟨trivial, trivial, trivial, trivial, trivial, trivial, trivial⟩ hσ3 ?_
          refine aw_run (pc' := 61) hC [(.aload_n 0, 1, 0, 0, .null), (.getfield 49, 3, 6, 6, .null)] (by decide +kernel) [(0, .ref 0), (1, .int a1)] [.int (σ3.1 0 6)] σ3 rfl rfl ⟨trivial, trivial, trivial⟩ rfl ?_
          exact aw_iret hC hr (by decide +kernel) (pS1 hF) (pS2 hF)
        · have hF := (if_neg h).symm.trans hF
          refine aw_run (pc' := 36) hC [(.ldc 53, 2, 0, 0, .int (-100000005))] (by decide +kernel) [(0, .ref 0), (1, .int a1)] [.int (-100000005)] σ rfl rfl ⟨trivial, trivial⟩ rfl ?_
          exact aw_iret hC hr (by decide +kernel) (pS1 hF) (pS2 hF)
    · have hF := (if_neg h).symm.trans hF
      refine aw_run (pc' := 14) hC [(.ldc 48, 2, 0, 0, .int (-100000003))] (by decide +kernel) [(0, .ref 0), (1, .int a1)] [.int (-100000003)] σ rfl rfl ⟨trivial, trivial⟩ rfl ?_
      exact aw_iret hC hr (by decide +kernel) (pS1 hF) (pS2 hF)
def f_ss_blank (σ : Sg) : Int32 × Sg := nm (uI σ 0 6 0) fun σ1 => (σ.1 0 6, σ1)
def rm_ss_blank : Room := { frames := 0, cells := 0, slots := 0, locals := 0 }
set_option maxHeartbeats 4000000 in
set_option maxRecDepth 100000 in
theorem c_ss_blank (σ : Sg) (z : Int32 × Sg) (hF : f_ss_blank σ = z) : Ctr yX6_blank cX6_blank 2 (some .int) rm_ss_blank [.ref 0] σ (some (.int z.1)) z.2 := by
  refine ct_start 6 (by decide) rfl (fun ad => Nat.le_of_ble_eq_true rfl) [(0, .ref 0)] (fun ad => rfl) ?_
  intro p l e s m args below meth c D ad tc A hC hA hr
  unfold f_ss_blank at hF
  obtain ⟨σ1, hσ1, hF⟩ := nmd hF
  refine aw_run (pc' := 10) hC [(.aload_n 0, 1, 0, 0, .null), (.getfield 49, 3, 6, 6, .null), (.istore_n 1, 1, 0, 0, .null), (.aload_n 0, 1, 0, 0, .null), (.iconst 0, 1, 0, 0, .int 0), (.putfield 49, 3, 6, 6, .null)] (by decide +kernel) [(0, .ref 0), (1, .int (σ.1 0 6))] [] (uI σ 0 6 0) rfl rfl ⟨trivial, trivial, trivial, trivial, trivial, trivial, trivial⟩ hσ1 ?_
  refine aw_run (pc' := 11) hC [(.iload_n 1, 1, 0, 0, .null)] (by decide +kernel) [(0, .ref 0), (1, .int (σ.1 0 6))] [.int (σ.1 0 6)] σ1 rfl rfl ⟨trivial, trivial⟩ rfl ?_
  exact aw_iret hC hr (by decide +kernel) (pT1 hF) (pT2 hF)
def f_re_enter (σ : Sg) (a1 : Int32) : Sg := nm (uI σ 2 1 a1) fun σ1 => nm (uI σ1 2 2 0) fun σ2 => nm (uI σ2 2 3 0) fun σ3 => σ3
def rm_re_enter : Room := { frames := 0, cells := 0, slots := 0, locals := 0 }
set_option maxHeartbeats 4000000 in
set_option maxRecDepth 100000 in
theorem c_re_enter (σ : Sg) (a1 : Int32) (z : Sg) (hF : f_re_enter σ a1 = z) : Ctr yX2_enter cX2_enter 2 none rm_re_enter [.ref 2, .int a1] σ none z := by
  refine ct_start 2 (by decide) rfl (fun ad => Nat.le_of_ble_eq_true rfl) [(0, .ref 2), (1, .int a1)] (fun ad => rfl) ?_
  intro p l e s m args below meth c D ad tc A hC hA hr
  unfold f_re_enter at hF
  obtain ⟨σ1, hσ1, hF⟩ := nmd hF
  refine aw_run (pc' := 5) hC [(.aload_n 0, 1, 0, 0, .null), (.iload_n 1, 1, 0, 0, .null), (.putfield 19, 3, 2, 1, .null)] (by decide +kernel) [(0, .ref 2), (1, .int a1)] [] (uI σ 2 1 a1) rfl rfl ⟨trivial, trivial, trivial, trivial⟩ hσ1 ?_
  obtain ⟨σ2, hσ2, hF⟩ := nmd hF
  refine aw_run (pc' := 10) hC [(.aload_n 0, 1, 0, 0, .null), (.iconst 0, 1, 0, 0, .int 0), (.putfield 37, 3, 2, 2, .null)] (by decide +kernel) [(0, .ref 2), (1, .int a1)] [] (uI σ1 2 2 0) rfl rfl ⟨trivial, trivial, trivial, trivial⟩ hσ2 ?_
  obtain ⟨σ3, hσ3, hF⟩ := nmd hF
  refine aw_run (pc' := 15) hC [(.aload_n 0, 1, 0, 0, .null), (.iconst 0, 1, 0, 0, .int 0), (.putfield 44, 3, 2, 3, .null)] (by decide +kernel) [(0, .ref 2), (1, .int a1)] [] (uI σ2 2 3 0) rfl rfl ⟨trivial, trivial, (Or.inl rfl), trivial⟩ hσ3 ?_
  exact aw_vret hC hr (by decide +kernel)  hF
def f_re_restart_c2_s (N : Nat) (kc2 : Int32 → Sg → Option Sg) (a1 : Int32) (σ : Sg) : Option Sg := if (4 : Int32) ≤ a1 then (nm (f_re_enter σ 0) fun q1 => some q1) else (if ib a1 4 then nm (uI σ 3 a1.toNatClampNeg 0) fun σ3 => kc2 (a1 + 1) σ3 else none)
def f_re_restart_c2 (N : Nat) : Nat → Int32 → Sg → Option Sg
  | 0 => fun _ _ => none
  | n + 1 => f_re_restart_c2_s N (f_re_restart_c2 N n)
def f_re_restart (N : Nat) (σ : Sg) : Option Sg := f_re_restart_c2 N N 0 σ
def rm_re_restart : Room := { frames := 1, cells := 0, slots := 0, locals := 21 }
set_option maxHeartbeats 4000000 in
set_option maxRecDepth 100000 in
theorem c_re_restart (N : Nat) (σ : Sg) (z : Sg) (hF : f_re_restart N σ = some z) : Ctr yX2_restart cX2_restart 2 none rm_re_restart [.ref 2] σ none z := by
  refine ct_start 2 (by decide) rfl (fun ad => Nat.le_of_ble_eq_true rfl) [(0, .ref 2)] (fun ad => rfl) ?_
  intro p l e s m args below meth c D ad tc A hC hA hr
  have Jc2 : ∀ (n : Nat) (a1 : Int32) (σ : Sg), f_re_restart_c2 N n a1 σ = some z → AW p l e rm_re_restart s m args below meth c D ad tc 2 A s.heap 0 0 (MQ below (Qr none D ad tc z A) args s 0 0 A) 2 [(0, .ref 2), (1, .int a1)] [] σ := by
    intro n
    induction n with
    | zero =>
      intro a1 σ hF
      cases hF
    | succ n ih =>
      intro a1 σ hF
      have hF : f_re_restart_c2_s N (f_re_restart_c2 N n) a1 σ = some z := hF
      unfold f_re_restart_c2_s at hF
      refine aw_run (pc' := 8) hC [(.iload_n 1, 1, 0, 0, .null), (.aload_n 0, 1, 0, 0, .null), (.getfield 9, 3, 2, 0, .null), (.arraylength, 1, 0, 0, .int 4)] (by decide +kernel) [(0, .ref 2), (1, .int a1)] [.int 4, .int a1] σ rfl rfl ⟨trivial, trivial, trivial, rfl, trivial⟩ rfl ?_
      refine aw_icmp_ge (off := 16) hC 24 (by decide +kernel) (by decide) (fun h => ?_) (fun h => ?_)
      · have hF := (if_pos h).symm.trans hF
        refine aw_run (pc' := 26) hC [(.aload_n 0, 1, 0, 0, .null), (.iconst 0, 1, 0, 0, .int 0)] (by decide +kernel) [(0, .ref 2), (1, .int a1)] [.int 0, .ref 2] σ rfl rfl ⟨trivial, trivial, trivial⟩ rfl ?_
        obtain ⟨q1, eq1, hF⟩ := nmd hF
        refine aw_callV hC hA (rest := []) (c_re_enter σ 0 q1 eq1) mt_X2_enter ln_2_15 (by decide +kernel) ⟨_, rfl⟩ rfl rfl (Nat.le_of_ble_eq_true rfl) ⟨⟨rfl, rfl⟩, Nat.le_of_ble_eq_true rfl, Nat.le_of_ble_eq_true rfl⟩ ⟨Nat.zero_le _, Nat.zero_le _⟩ rfl ?_
        exact aw_vret hC hr (by decide +kernel)  (Option.some.inj hF)
      · have hF := (if_neg h).symm.trans hF
        obtain ⟨g2, hF⟩ := gd hF
        obtain ⟨σ3, hσ3, hF⟩ := nmd hF
        refine aw_run (pc' := 18) hC [(.aload_n 0, 1, 0, 0, .null), (.getfield 9, 3, 2, 0, .null), (.iload_n 1, 1, 0, 0, .null), (.iconst 0, 1, 0, 0, .int 0), (.iastore, 1, 0, 0, .null)] (by decide +kernel) [(0, .ref 2), (1, .int a1)] [] (uI σ 3 a1.toNatClampNeg 0) rfl rfl ⟨trivial, trivial, trivial, trivial, g2, trivial⟩ hσ3 ?_
        refine aw_run (pc' := 21) hC [(.iinc 1 1, 3, 0, 0, .int 1)] (by decide +kernel) [(0, .ref 2), (1, .int (a1 + 1))] [] σ3 rfl rfl ⟨trivial, trivial⟩ rfl ?_
        refine aw_goto (off := -19) hC 2 (by decide +kernel) (by decide) ?_
        exact ih (a1 + 1) σ3 hF
  unfold f_re_restart at hF
  refine aw_run (pc' := 2) hC [(.iconst 0, 1, 0, 0, .int 0), (.istore_n 1, 1, 0, 0, .null)] (by decide +kernel) [(0, .ref 2), (1, .int 0)] [] σ rfl rfl ⟨trivial, trivial, trivial⟩ rfl ?_
  exact Jc2 N 0 σ hF
def f_re_markBehind (σ : Sg) : Int32 := if (σ.1 2 1) = 0 then 58 else (if (σ.1 2 1) = 1 then 44 else 126)
def rm_re_markBehind : Room := { frames := 0, cells := 0, slots := 0, locals := 0 }
set_option maxHeartbeats 4000000 in
set_option maxRecDepth 100000 in
theorem c_re_markBehind (σ : Sg) (z : Int32) (hF : f_re_markBehind σ = z) : Ctr yX2_markBehind cX2_markBehind 1 (some .int) rm_re_markBehind [.ref 2] σ (some (.int z)) σ := by
  refine ct_start 2 (by decide) rfl (fun ad => Nat.le_of_ble_eq_true rfl) [(0, .ref 2)] (fun ad => rfl) ?_
  intro p l e s m args below meth c D ad tc A hC hA hr
  unfold f_re_markBehind at hF
  refine aw_run (pc' := 4) hC [(.aload_n 0, 1, 0, 0, .null), (.getfield 19, 3, 2, 1, .null)] (by decide +kernel) [(0, .ref 2)] [.int (σ.1 2 1)] σ rfl rfl ⟨trivial, trivial, trivial⟩ rfl ?_
  refine aw_if_ne (off := 6) hC 10 Iff.rfl (by decide +kernel) (by decide) (fun h => ?_) (fun h => ?_)
  · have hF := (if_neg h).symm.trans hF
    refine aw_run (pc' := 15) hC [(.aload_n 0, 1, 0, 0, .null), (.getfield 19, 3, 2, 1, .null), (.iconst 1, 1, 0, 0, .int 1)] (by decide +kernel) [(0, .ref 2)] [.int 1, .int (σ.1 2 1)] σ rfl rfl ⟨trivial, trivial, trivial, trivial⟩ rfl ?_
    refine aw_icmp_ne (off := 8) hC 23 (by decide +kernel) (by decide) (fun h => ?_) (fun h => ?_)
    · have hF := (if_neg h).symm.trans hF
      refine aw_run (pc' := 25) hC [(.bipush 126, 2, 0, 0, .int 126)] (by decide +kernel) [(0, .ref 2)] [.int 126] σ rfl rfl ⟨trivial, trivial⟩ rfl ?_
      exact aw_iret hC hr (by decide +kernel) hF rfl
    · have hF := (if_pos h).symm.trans hF
      refine aw_run (pc' := 20) hC [(.bipush 44, 2, 0, 0, .int 44)] (by decide +kernel) [(0, .ref 2)] [.int 44] σ rfl rfl ⟨trivial, trivial⟩ rfl ?_
      refine aw_goto (off := 5) hC 25 (by decide +kernel) (by decide) ?_
      exact aw_iret hC hr (by decide +kernel) hF rfl
  · have hF := (if_pos h).symm.trans hF
    refine aw_run (pc' := 9) hC [(.bipush 58, 2, 0, 0, .int 58)] (by decide +kernel) [(0, .ref 2)] [.int 58] σ rfl rfl ⟨trivial, trivial⟩ rfl ?_
    exact aw_iret hC hr (by decide +kernel) hF rfl
def f_re_takeMark_c35 (a1 : Int32) (σ : Sg) : Int32 × Sg := if (σ.1 2 2) = 0 then ((0, σ)) else (if (σ.1 2 1) = 3 then ((0, σ)) else (if a1 = (f_re_markBehind σ) then (nm (f_re_enter σ ((σ.1 2 1) + 1)) fun q1 => (1, q1)) else ((0, σ))))
def f_re_takeMark (σ : Sg) (a1 : Int32) : Int32 × Sg := if a1 = 120 then (if (σ.1 2 1) = 1 then (if (σ.1 2 2) = 0 then (if (σ.1 2 3) = 0 then (nm (f_re_enter σ 4) fun q2 => (1, q2)) else (f_re_takeMark_c35 a1 σ)) else (f_re_takeMark_c35 a1 σ)) else (f_re_takeMark_c35 a1 σ)) else (f_re_takeMark_c35 a1 σ)
def rm_re_takeMark : Room := { frames := 1, cells := 0, slots := 0, locals := 21 }
set_option maxHeartbeats 4000000 in
set_option maxRecDepth 100000 in
theorem c_re_takeMark (σ : Sg) (a1 : Int32) (z : Int32 × Sg) (hF : f_re_takeMark σ a1 = z) : Ctr yX2_takeMark cX2_takeMark 2 (some .boolean) rm_re_takeMark [.ref 2, .int a1] σ (some (.int z.1)) z.2 := by
  refine ct_start 2 (by decide) rfl (fun ad => Nat.le_of_ble_eq_true rfl) [(0, .ref 2), (1, .int a1)] (fun ad => rfl) ?_
  intro p l e s m args below meth c D ad tc A hC hA hr
  have Jc35 : ∀ (a1 : Int32) (σ : Sg), f_re_takeMark_c35 a1 σ = z → AW p l e rm_re_takeMark s m args below meth c D ad tc 2 A s.heap 0 0 (MQ below (Qr (some (.int z.1)) D ad tc z.2 A) args s 0 0 A) 35 [(0, .ref 2), (1, .int a1)] [] σ := by
    intro a1 σ hF
    unfold f_re_takeMark_c35 at hF
    refine aw_run (pc' := 39) hC [(.aload_n 0, 1, 0, 0, .null), (.getfield 37, 3, 2, 2, .null)] (by decide +kernel) [(0, .ref 2), (1, .int a1)] [.int (σ.1 2 2)] σ rfl rfl ⟨trivial, trivial, trivial⟩ rfl ?_
    refine aw_if_eq (off := 19) hC 58 Iff.rfl (by decide +kernel) (by decide) (fun h => ?_) (fun h => ?_)
    · have hF := (if_pos h).symm.trans hF
      refine aw_run (pc' := 59) hC [(.iconst 0, 1, 0, 0, .int 0)] (by decide +kernel) [(0, .ref 2), (1, .int a1)] [.int 0] σ rfl rfl ⟨trivial, trivial⟩ rfl ?_
      exact aw_zret hC hr (Or.inl rfl) (by decide +kernel) (pT1 hF) (pT2 hF)
    · have hF := (if_neg h).symm.trans hF
      refine aw_run (pc' := 47) hC [(.aload_n 0, 1, 0, 0, .null), (.getfield 19, 3, 2, 1, .null), (.iconst 3, 1, 0, 0, .int 3)] (by decide +kernel) [(0, .ref 2), (1, .int a1)] [.int 3, .int (σ.1 2 1)] σ rfl rfl ⟨trivial, trivial, trivial, trivial⟩ rfl ?_
      refine aw_icmp_eq (off := 11) hC 58 (by decide +kernel) (by decide) (fun h => ?_) (fun h => ?_)
      · have hF := (if_pos h).symm.trans hF
        refine aw_run (pc' := 59) hC [(.iconst 0, 1, 0, 0, .int 0)] (by decide +kernel) [(0, .ref 2), (1, .int a1)] [.int 0] σ rfl rfl ⟨trivial, trivial⟩ rfl ?_
        exact aw_zret hC hr (Or.inl rfl) (by decide +kernel) (pT1 hF) (pT2 hF)
      · have hF := (if_neg h).symm.trans hF
        refine aw_run (pc' := 52) hC [(.iload_n 1, 1, 0, 0, .null), (.aload_n 0, 1, 0, 0, .null)] (by decide +kernel) [(0, .ref 2), (1, .int a1)] [.ref 2, .int a1] σ rfl rfl ⟨trivial, trivial, trivial⟩ rfl ?_
        refine aw_callV hC hA (rest := [.int a1]) (c_re_markBehind σ _ rfl) mt_X2_markBehind ln_2_58 (by decide +kernel) ⟨_, rfl⟩ rfl rfl (Nat.le_of_ble_eq_true rfl) ⟨⟨rfl, rfl⟩, Nat.le_of_ble_eq_true rfl, Nat.le_of_ble_eq_true rfl⟩ ⟨Nat.zero_le _, Nat.zero_le _⟩ rfl ?_
        refine aw_icmp_eq (off := 5) hC 60 (by decide +kernel) (by decide) (fun h => ?_) (fun h => ?_)
        · have hF := (if_pos h).symm.trans hF
          refine aw_run (pc' := 67) hC [(.aload_n 0, 1, 0, 0, .null), (.aload_n 0, 1, 0, 0, .null), (.getfield 19, 3, 2, 1, .null), (.iconst 1, 1, 0, 0, .int 1), (.iadd, 1, 0, 0, .null)] (by decide +kernel) [(0, .ref 2), (1, .int a1)] [.int ((σ.1 2 1) + 1), .ref 2] σ rfl rfl ⟨trivial, trivial, trivial, trivial, trivial, trivial⟩ rfl ?_
          obtain ⟨q1, eq1, hF⟩ := nmd hF
          refine aw_callV hC hA (rest := []) (c_re_enter σ ((σ.1 2 1) + 1) q1 eq1) mt_X2_enter ln_2_15 (by decide +kernel) ⟨_, rfl⟩ rfl rfl (Nat.le_of_ble_eq_true rfl) ⟨⟨rfl, rfl⟩, Nat.le_of_ble_eq_true rfl, Nat.le_of_ble_eq_true rfl⟩ ⟨Nat.zero_le _, Nat.zero_le _⟩ rfl ?_
          refine aw_run (pc' := 71) hC [(.iconst 1, 1, 0, 0, .int 1)] (by decide +kernel) [(0, .ref 2), (1, .int a1)] [.int 1] q1 rfl rfl ⟨trivial, trivial⟩ rfl ?_
          exact aw_zret hC hr (Or.inr rfl) (by decide +kernel) (pT1 hF) (pT2 hF)
        · have hF := (if_neg h).symm.trans hF
          refine aw_run (pc' := 59) hC [(.iconst 0, 1, 0, 0, .int 0)] (by decide +kernel) [(0, .ref 2), (1, .int a1)] [.int 0] σ rfl rfl ⟨trivial, trivial⟩ rfl ?_
          exact aw_zret hC hr (Or.inl rfl) (by decide +kernel) (pT1 hF) (pT2 hF)
  unfold f_re_takeMark at hF
  refine aw_run (pc' := 3) hC [(.iload_n 1, 1, 0, 0, .null), (.bipush 120, 2, 0, 0, .int 120)] (by decide +kernel) [(0, .ref 2), (1, .int a1)] [.int 120, .int a1] σ rfl rfl ⟨trivial, trivial, trivial⟩ rfl ?_
  refine aw_icmp_ne (off := 32) hC 35 (by decide +kernel) (by decide) (fun h => ?_) (fun h => ?_)
  · have hF := (if_neg h).symm.trans hF
    exact Jc35 a1 σ hF
  · have hF := (if_pos h).symm.trans hF
    refine aw_run (pc' := 11) hC [(.aload_n 0, 1, 0, 0, .null), (.getfield 19, 3, 2, 1, .null), (.iconst 1, 1, 0, 0, .int 1)] (by decide +kernel) [(0, .ref 2), (1, .int a1)] [.int 1, .int (σ.1 2 1)] σ rfl rfl ⟨trivial, trivial, trivial, trivial⟩ rfl ?_
    refine aw_icmp_ne (off := 24) hC 35 (by decide +kernel) (by decide) (fun h => ?_) (fun h => ?_)
    · have hF := (if_neg h).symm.trans hF
      exact Jc35 a1 σ hF
    · have hF := (if_pos h).symm.trans hF
      refine aw_run (pc' := 18) hC [(.aload_n 0, 1, 0, 0, .null), (.getfield 37, 3, 2, 2, .null)] (by decide +kernel) [(0, .ref 2), (1, .int a1)] [.int (σ.1 2 2)] σ rfl rfl ⟨trivial, trivial, trivial⟩ rfl ?_
      refine aw_if_ne (off := 17) hC 35 Iff.rfl (by decide +kernel) (by decide) (fun h => ?_) (fun h => ?_)
      · have hF := (if_neg h).symm.trans hF
        exact Jc35 a1 σ hF
      · have hF := (if_pos h).symm.trans hF
        refine aw_run (pc' := 25) hC [(.aload_n 0, 1, 0, 0, .null), (.getfield 44, 3, 2, 3, .null)] (by decide +kernel) [(0, .ref 2), (1, .int a1)] [.int (σ.1 2 3)] σ rfl rfl ⟨trivial, trivial, trivial⟩ rfl ?_
        refine aw_if_ne (off := 10) hC 35 Iff.rfl (by decide +kernel) (by decide) (fun h => ?_) (fun h => ?_)
        · have hF := (if_neg h).symm.trans hF
          exact Jc35 a1 σ hF
        · have hF := (if_pos h).symm.trans hF
          refine aw_run (pc' := 30) hC [(.aload_n 0, 1, 0, 0, .null), (.iconst 4, 1, 0, 0, .int 4)] (by decide +kernel) [(0, .ref 2), (1, .int a1)] [.int 4, .ref 2] σ rfl rfl ⟨trivial, trivial, trivial⟩ rfl ?_
          obtain ⟨q2, eq2, hF⟩ := nmd hF
          refine aw_callV hC hA (rest := []) (c_re_enter σ 4 q2 eq2) mt_X2_enter ln_2_15 (by decide +kernel) ⟨_, rfl⟩ rfl rfl (Nat.le_of_ble_eq_true rfl) ⟨⟨rfl, rfl⟩, Nat.le_of_ble_eq_true rfl, Nat.le_of_ble_eq_true rfl⟩ ⟨Nat.zero_le _, Nat.zero_le _⟩ rfl ?_
          refine aw_run (pc' := 34) hC [(.iconst 1, 1, 0, 0, .int 1)] (by decide +kernel) [(0, .ref 2), (1, .int a1)] [.int 1] q2 rfl rfl ⟨trivial, trivial⟩ rfl ?_
          exact aw_zret hC hr (Or.inr rfl) (by decide +kernel) (pT1 hF) (pT2 hF)
def f_re_takeMinus (σ : Sg) : Int32 × Sg := if 0 < (σ.1 2 2) then ((0, σ)) else (if (σ.1 2 3) = 0 then (if (σ.1 2 1) = 3 then ((0, σ)) else (nm (uI σ 2 3 1) fun σ1 => (1, σ1))) else ((0, σ)))
def rm_re_takeMinus : Room := { frames := 0, cells := 0, slots := 0, locals := 0 }
set_option maxHeartbeats 4000000 in
set_option maxRecDepth 100000 in
theorem c_re_takeMinus (σ : Sg) (z : Int32 × Sg) (hF : f_re_takeMinus σ = z) : Ctr yX2_takeMinus cX2_takeMinus 1 (some .boolean) rm_re_takeMinus [.ref 2] σ (some (.int z.1)) z.2 := by
  refine ct_start 2 (by decide) rfl (fun ad => Nat.le_of_ble_eq_true rfl) [(0, .ref 2)] (fun ad => rfl) ?_
  intro p l e s m args below meth c D ad tc A hC hA hr
  unfold f_re_takeMinus at hF
  refine aw_run (pc' := 4) hC [(.aload_n 0, 1, 0, 0, .null), (.getfield 37, 3, 2, 2, .null)] (by decide +kernel) [(0, .ref 2)] [.int (σ.1 2 2)] σ rfl rfl ⟨trivial, trivial, trivial⟩ rfl ?_
  refine aw_if_gt (off := 18) hC 22 Iff.rfl (by decide +kernel) (by decide) (fun h => ?_) (fun h => ?_)
  · have hF := (if_pos h).symm.trans hF
    refine aw_run (pc' := 23) hC [(.iconst 0, 1, 0, 0, .int 0)] (by decide +kernel) [(0, .ref 2)] [.int 0] σ rfl rfl ⟨trivial, trivial⟩ rfl ?_
    exact aw_zret hC hr (Or.inl rfl) (by decide +kernel) (pT1 hF) (pT2 hF)
  · have hF := (if_neg h).symm.trans hF
    refine aw_run (pc' := 11) hC [(.aload_n 0, 1, 0, 0, .null), (.getfield 44, 3, 2, 3, .null)] (by decide +kernel) [(0, .ref 2)] [.int (σ.1 2 3)] σ rfl rfl ⟨trivial, trivial, trivial⟩ rfl ?_
    refine aw_if_ne (off := 11) hC 22 Iff.rfl (by decide +kernel) (by decide) (fun h => ?_) (fun h => ?_)
    · have hF := (if_neg h).symm.trans hF
      refine aw_run (pc' := 23) hC [(.iconst 0, 1, 0, 0, .int 0)] (by decide +kernel) [(0, .ref 2)] [.int 0] σ rfl rfl ⟨trivial, trivial⟩ rfl ?_
      exact aw_zret hC hr (Or.inl rfl) (by decide +kernel) (pT1 hF) (pT2 hF)
    · have hF := (if_pos h).symm.trans hF
      refine aw_run (pc' := 19) hC [(.aload_n 0, 1, 0, 0, .null), (.getfield 19, 3, 2, 1, .null), (.iconst 3, 1, 0, 0, .int 3)] (by decide +kernel) [(0, .ref 2)] [.int 3, .int (σ.1 2 1)] σ rfl rfl ⟨trivial, trivial, trivial, trivial⟩ rfl ?_
      refine aw_icmp_ne (off := 5) hC 24 (by decide +kernel) (by decide) (fun h => ?_) (fun h => ?_)
      · have hF := (if_neg h).symm.trans hF
        obtain ⟨σ1, hσ1, hF⟩ := nmd hF
        refine aw_run (pc' := 29) hC [(.aload_n 0, 1, 0, 0, .null), (.iconst 1, 1, 0, 0, .int 1), (.putfield 44, 3, 2, 3, .null)] (by decide +kernel) [(0, .ref 2)] [] (uI σ 2 3 1) rfl rfl ⟨trivial, trivial, (Or.inr rfl), trivial⟩ hσ1 ?_
        refine aw_run (pc' := 30) hC [(.iconst 1, 1, 0, 0, .int 1)] (by decide +kernel) [(0, .ref 2)] [.int 1] σ1 rfl rfl ⟨trivial, trivial⟩ rfl ?_
        exact aw_zret hC hr (Or.inr rfl) (by decide +kernel) (pT1 hF) (pT2 hF)
      · have hF := (if_pos h).symm.trans hF
        refine aw_run (pc' := 23) hC [(.iconst 0, 1, 0, 0, .int 0)] (by decide +kernel) [(0, .ref 2)] [.int 0] σ rfl rfl ⟨trivial, trivial⟩ rfl ?_
        exact aw_zret hC hr (Or.inl rfl) (by decide +kernel) (pT1 hF) (pT2 hF)
def f_jm_abs_0f7a4 (a0 : Int32) : Int32 := if 0 ≤ a0 then a0 else (-a0)
def rm_jm_abs_0f7a4 : Room := { frames := 0, cells := 0, slots := 0, locals := 0 }
set_option maxHeartbeats 4000000 in
set_option maxRecDepth 100000 in
theorem c_jm_abs_0f7a4 (σ : Sg) (a0 : Int32) (z : Int32) (hF : f_jm_abs_0f7a4 a0 = z) : Ctr yJ9_abs_0f7a4 cJ9_abs_0f7a4 1 (some .int) rm_jm_abs_0f7a4 [.int a0] σ (some (.int z)) σ := by
  refine ct_startJ 9 pf_J9_abs_0f7a4 rfl (fun ad => Nat.le_of_ble_eq_true rfl) [(0, .int a0)] (fun ad => rfl) ?_
  intro p l e s m args below meth c D ad tc A hC hA hr
  unfold f_jm_abs_0f7a4 at hF
  refine aw_run (pc' := 1) hC [(.iload_n 0, 1, 0, 0, .null)] (by decide +kernel) [(0, .int a0)] [.int a0] σ rfl rfl ⟨trivial, trivial⟩ rfl ?_
  refine aw_if_ge (off := 8) hC 9 Iff.rfl (by decide +kernel) (by decide) (fun h => ?_) (fun h => ?_)
  · have hF := (if_pos h).symm.trans hF
    refine aw_run (pc' := 10) hC [(.iload_n 0, 1, 0, 0, .null)] (by decide +kernel) [(0, .int a0)] [.int a0] σ rfl rfl ⟨trivial, trivial⟩ rfl ?_
    exact aw_iret hC hr (by decide +kernel) hF rfl
  · have hF := (if_neg h).symm.trans hF
    refine aw_run (pc' := 6) hC [(.iload_n 0, 1, 0, 0, .null), (.ineg, 1, 0, 0, .null)] (by decide +kernel) [(0, .int a0)] [.int (-a0)] σ rfl rfl ⟨trivial, trivial, trivial⟩ rfl ?_
    refine aw_goto (off := 4) hC 10 (by decide +kernel) (by decide) ?_
    exact aw_iret hC hr (by decide +kernel) hF rfl
def f_re_limit (σ : Sg) : Int32 := if (σ.1 2 1) = 0 then 200 else (if (σ.1 2 1) = 3 then 20 else 500)
def rm_re_limit : Room := { frames := 0, cells := 0, slots := 0, locals := 0 }
set_option maxHeartbeats 4000000 in
set_option maxRecDepth 100000 in
theorem c_re_limit (σ : Sg) (z : Int32) (hF : f_re_limit σ = z) : Ctr yX2_limit cX2_limit 1 (some .int) rm_re_limit [.ref 2] σ (some (.int z)) σ := by
  refine ct_start 2 (by decide) rfl (fun ad => Nat.le_of_ble_eq_true rfl) [(0, .ref 2)] (fun ad => rfl) ?_
  intro p l e s m args below meth c D ad tc A hC hA hr
  unfold f_re_limit at hF
  refine aw_run (pc' := 4) hC [(.aload_n 0, 1, 0, 0, .null), (.getfield 19, 3, 2, 1, .null)] (by decide +kernel) [(0, .ref 2)] [.int (σ.1 2 1)] σ rfl rfl ⟨trivial, trivial, trivial⟩ rfl ?_
  refine aw_if_ne (off := 7) hC 11 Iff.rfl (by decide +kernel) (by decide) (fun h => ?_) (fun h => ?_)
  · have hF := (if_neg h).symm.trans hF
    refine aw_run (pc' := 16) hC [(.aload_n 0, 1, 0, 0, .null), (.getfield 19, 3, 2, 1, .null), (.iconst 3, 1, 0, 0, .int 3)] (by decide +kernel) [(0, .ref 2)] [.int 3, .int (σ.1 2 1)] σ rfl rfl ⟨trivial, trivial, trivial, trivial⟩ rfl ?_
    refine aw_icmp_ne (off := 8) hC 24 (by decide +kernel) (by decide) (fun h => ?_) (fun h => ?_)
    · have hF := (if_neg h).symm.trans hF
      refine aw_run (pc' := 27) hC [(.sipush 500, 3, 0, 0, .int 500)] (by decide +kernel) [(0, .ref 2)] [.int 500] σ rfl rfl ⟨trivial, trivial⟩ rfl ?_
      exact aw_iret hC hr (by decide +kernel) hF rfl
    · have hF := (if_pos h).symm.trans hF
      refine aw_run (pc' := 21) hC [(.bipush 20, 2, 0, 0, .int 20)] (by decide +kernel) [(0, .ref 2)] [.int 20] σ rfl rfl ⟨trivial, trivial⟩ rfl ?_
      refine aw_goto (off := 6) hC 27 (by decide +kernel) (by decide) ?_
      exact aw_iret hC hr (by decide +kernel) hF rfl
  · have hF := (if_pos h).symm.trans hF
    refine aw_run (pc' := 10) hC [(.sipush 200, 3, 0, 0, .int 200)] (by decide +kernel) [(0, .ref 2)] [.int 200] σ rfl rfl ⟨trivial, trivial⟩ rfl ?_
    exact aw_iret hC hr (by decide +kernel) hF rfl
def f_re_takeFigure_c114 (t1 : Int32) (t2 : Int32) (σ : Sg) : Option (Int32 × Sg) := if ib t1 4 then nm (uI σ 3 t1.toNatClampNeg t2) fun σ3 => nm (uI σ3 2 2 ((σ3.1 2 2) + 1)) fun σ4 => some (1, σ4) else none
def f_re_takeFigure_c61 (a1 : Int32) (a2 : Int32) (a3 : Int32) (t0 : Int32) (σ : Sg) : Option (Int32 × Sg) := if a3 = 0 then (if t0 = 0 then (if ((10 * a2) + a1) ≤ (f_re_limit σ) then (if (σ.1 2 3) = 0 then (f_re_takeFigure_c114 (σ.1 2 1) ((10 * a2) + a1) σ) else (f_re_takeFigure_c114 (σ.1 2 1) (-((10 * a2) + a1)) σ)) else (some (0, σ))) else (some (0, σ))) else (some (0, σ))
def f_re_takeFigure_c60 (a1 : Int32) (a2 : Int32) (a3 : Int32) (σ : Sg) : Option (Int32 × Sg) := f_re_takeFigure_c61 a1 a2 a3 0 σ
def f_re_takeFigure_c56 (a1 : Int32) (a2 : Int32) (a3 : Int32) (σ : Sg) : Option (Int32 × Sg) := f_re_takeFigure_c61 a1 a2 a3 1 σ
def f_re_takeFigure_c29 (a1 : Int32) (a2 : Int32) (t0 : Int32) (σ : Sg) : Option (Int32 × Sg) := if (σ.1 2 2) = 0 then (if a1 = 0 then (if (σ.1 2 3) = 0 then (if (σ.1 2 1) = 3 then (f_re_takeFigure_c56 a1 a2 t0 σ) else (f_re_takeFigure_c60 a1 a2 t0 σ)) else (f_re_takeFigure_c56 a1 a2 t0 σ)) else (f_re_takeFigure_c60 a1 a2 t0 σ)) else (f_re_takeFigure_c60 a1 a2 t0 σ)
def f_re_takeFigure_c28 (a1 : Int32) (a2 : Int32) (σ : Sg) : Option (Int32 × Sg) := f_re_takeFigure_c29 a1 a2 0 σ
def f_re_takeFigure (σ : Sg) (a1 : Int32) : Option (Int32 × Sg) := if ib (σ.1 2 1) 4 then if (σ.1 2 2) ≤ 0 then (f_re_takeFigure_c28 a1 (f_jm_abs_0f7a4 (σ.1 3 (σ.1 2 1).toNatClampNeg)) σ) else (if (f_jm_abs_0f7a4 (σ.1 3 (σ.1 2 1).toNatClampNeg)) = 0 then (f_re_takeFigure_c29 a1 (f_jm_abs_0f7a4 (σ.1 3 (σ.1 2 1).toNatClampNeg)) 1 σ) else (f_re_takeFigure_c28 a1 (f_jm_abs_0f7a4 (σ.1 3 (σ.1 2 1).toNatClampNeg)) σ)) else none
def rm_re_takeFigure : Room := { frames := 1, cells := 0, slots := 0, locals := 20 }
set_option maxHeartbeats 4000000 in
set_option maxRecDepth 100000 in
theorem c_re_takeFigure (σ : Sg) (a1 : Int32) (z : Int32 × Sg) (hF : f_re_takeFigure σ a1 = some z) : Ctr yX2_takeFigure cX2_takeFigure 6 (some .boolean) rm_re_takeFigure [.ref 2, .int a1] σ (some (.int z.1)) z.2 := by
  refine ct_start 2 (by decide) rfl (fun ad => Nat.le_of_ble_eq_true rfl) [(0, .ref 2), (1, .int a1)] (fun ad => rfl) ?_
  intro p l e s m args below meth c D ad tc A hC hA hr
  have Jc114 : ∀ (t1 : Int32) (t2 : Int32) (σ : Sg), f_re_takeFigure_c114 t1 t2 σ = some z → AW p l e rm_re_takeFigure s m args below meth c D ad tc 6 A s.heap 0 0 (MQ below (Qr (some (.int z.1)) D ad tc z.2 A) args s 0 0 A) 114 [(0, .ref 2)] [.int t2, .int t1, .ref 3] σ := by
    intro t1 t2 σ hF
    unfold f_re_takeFigure_c114 at hF
    obtain ⟨g2, hF⟩ := gd hF
    obtain ⟨σ3, hσ3, hF⟩ := nmd hF
    refine aw_run (pc' := 115) hC [(.iastore, 1, 0, 0, .null)] (by decide +kernel) [(0, .ref 2)] [] (uI σ 3 t1.toNatClampNeg t2) rfl rfl ⟨g2, trivial⟩ hσ3 ?_
    obtain ⟨σ4, hσ4, hF⟩ := nmd hF
    refine aw_run (pc' := 125) hC [(.aload_n 0, 1, 0, 0, .null), (.dup, 1, 0, 0, .null), (.getfield 37, 3, 2, 2, .null), (.iconst 1, 1, 0, 0, .int 1), (.iadd, 1, 0, 0, .null), (.putfield 37, 3, 2, 2, .null)] (by decide +kernel) [(0, .ref 2)] [] (uI σ3 2 2 ((σ3.1 2 2) + 1)) rfl rfl ⟨trivial, trivial, trivial, trivial, trivial, trivial, trivial⟩ hσ4 ?_
    refine aw_run (pc' := 126) hC [(.iconst 1, 1, 0, 0, .int 1)] (by decide +kernel) [(0, .ref 2)] [.int 1] σ4 rfl rfl ⟨trivial, trivial⟩ rfl ?_
    exact aw_zret hC hr (Or.inr rfl) (by decide +kernel) (pS1 hF) (pS2 hF)
  have Jc61 : ∀ (a1 : Int32) (a2 : Int32) (a3 : Int32) (t0 : Int32) (σ : Sg), f_re_takeFigure_c61 a1 a2 a3 t0 σ = some z → AW p l e rm_re_takeFigure s m args below meth c D ad tc 6 A s.heap 0 0 (MQ below (Qr (some (.int z.1)) D ad tc z.2 A) args s 0 0 A) 61 [(0, .ref 2), (1, .int a1), (2, .int a2), (3, .int a3)] [.int t0] σ := by
    intro a1 a2 a3 t0 σ hF
    unfold f_re_takeFigure_c61 at hF
    refine aw_run (pc' := 72) hC [(.istore 4, 2, 0, 0, .null), (.bipush 10, 2, 0, 0, .int 10), (.iload_n 2, 1, 0, 0, .null), (.imul, 1, 0, 0, .null), (.iload_n 1, 1, 0, 0, .null), (.iadd, 1, 0, 0, .null), (.istore 5, 2, 0, 0, .null), (.iload_n 3, 1, 0, 0, .null)] (by decide +kernel) [(0, .ref 2), (1, .int a1), (2, .int a2), (3, .int a3), (4, .int t0), (5, .int ((10 * a2) + a1))] [.int a3] σ rfl rfl ⟨trivial, trivial, trivial, trivial, trivial, trivial, trivial, trivial, trivial⟩ rfl ?_
    refine aw_if_ne (off := 17) hC 89 Iff.rfl (by decide +kernel) (by decide) (fun h => ?_) (fun h => ?_)
    · have hF := (if_neg h).symm.trans hF
      refine aw_run (pc' := 90) hC [(.iconst 0, 1, 0, 0, .int 0)] (by decide +kernel) [(0, .ref 2), (1, .int a1), (2, .int a2), (3, .int a3), (4, .int t0), (5, .int ((10 * a2) + a1))] [.int 0] σ rfl rfl ⟨trivial, trivial⟩ rfl ?_
      exact aw_zret hC hr (Or.inl rfl) (by decide +kernel) (pS1 hF) (pS2 hF)
    · have hF := (if_pos h).symm.trans hF
      refine aw_run (pc' := 77) hC [(.iload 4, 2, 0, 0, .null)] (by decide +kernel) [(0, .ref 2), (1, .int a1), (2, .int a2), (3, .int a3), (4, .int t0), (5, .int ((10 * a2) + a1))] [.int t0] σ rfl rfl ⟨trivial, trivial⟩ rfl ?_
      refine aw_if_ne (off := 12) hC 89 Iff.rfl (by decide +kernel) (by decide) (fun h => ?_) (fun h => ?_)
      · have hF := (if_neg h).symm.trans hF
        refine aw_run (pc' := 90) hC [(.iconst 0, 1, 0, 0, .int 0)] (by decide +kernel) [(0, .ref 2), (1, .int a1), (2, .int a2), (3, .int a3), (4, .int t0), (5, .int ((10 * a2) + a1))] [.int 0] σ rfl rfl ⟨trivial, trivial⟩ rfl ?_
        exact aw_zret hC hr (Or.inl rfl) (by decide +kernel) (pS1 hF) (pS2 hF)
      · have hF := (if_pos h).symm.trans hF
        refine aw_run (pc' := 83) hC [(.iload 5, 2, 0, 0, .null), (.aload_n 0, 1, 0, 0, .null)] (by decide +kernel) [(0, .ref 2), (1, .int a1), (2, .int a2), (3, .int a3), (4, .int t0), (5, .int ((10 * a2) + a1))] [.ref 2, .int ((10 * a2) + a1)] σ rfl rfl ⟨trivial, trivial, trivial⟩ rfl ?_
        refine aw_callV hC hA (rest := [.int ((10 * a2) + a1)]) (c_re_limit σ _ rfl) mt_X2_limit ln_2_54 (by decide +kernel) ⟨_, rfl⟩ rfl rfl (Nat.le_of_ble_eq_true rfl) ⟨⟨rfl, rfl⟩, Nat.le_of_ble_eq_true rfl, Nat.le_of_ble_eq_true rfl⟩ ⟨Nat.zero_le _, Nat.zero_le _⟩ rfl ?_
        refine aw_icmp_le (off := 5) hC 91 (by decide +kernel) (by decide) (fun h => ?_) (fun h => ?_)
        · have hF := (if_pos h).symm.trans hF
          refine aw_run (pc' := 103) hC [(.aload_n 0, 1, 0, 0, .null), (.getfield 9, 3, 2, 0, .null), (.aload_n 0, 1, 0, 0, .null), (.getfield 19, 3, 2, 1, .null), (.aload_n 0, 1, 0, 0, .null), (.getfield 44, 3, 2, 3, .null)] (by decide +kernel) [(0, .ref 2), (1, .int a1), (2, .int a2), (3, .int a3), (4, .int t0), (5, .int ((10 * a2) + a1))] [.int (σ.1 2 3), .int (σ.1 2 1), .ref 3] σ rfl rfl ⟨trivial, trivial, trivial, trivial, trivial, trivial, trivial⟩ rfl ?_
          refine aw_if_eq (off := 9) hC 112 Iff.rfl (by decide +kernel) (by decide) (fun h => ?_) (fun h => ?_)
          · have hF := (if_pos h).symm.trans hF
            refine aw_run (pc' := 114) hC [(.iload 5, 2, 0, 0, .null)] (by decide +kernel) [(0, .ref 2), (1, .int a1), (2, .int a2), (3, .int a3), (4, .int t0), (5, .int ((10 * a2) + a1))] [.int ((10 * a2) + a1), .int (σ.1 2 1), .ref 3] σ rfl rfl ⟨trivial, trivial⟩ rfl ?_
            refine aw_pick [0] [(0, .ref 2)] rfl ?_
            exact Jc114 (σ.1 2 1) ((10 * a2) + a1) σ hF
          · have hF := (if_neg h).symm.trans hF
            refine aw_run (pc' := 109) hC [(.iload 5, 2, 0, 0, .null), (.ineg, 1, 0, 0, .null)] (by decide +kernel) [(0, .ref 2), (1, .int a1), (2, .int a2), (3, .int a3), (4, .int t0), (5, .int ((10 * a2) + a1))] [.int (-((10 * a2) + a1)), .int (σ.1 2 1), .ref 3] σ rfl rfl ⟨trivial, trivial, trivial⟩ rfl ?_
            refine aw_goto (off := 5) hC 114 (by decide +kernel) (by decide) ?_
            refine aw_pick [0] [(0, .ref 2)] rfl ?_
            exact Jc114 (σ.1 2 1) (-((10 * a2) + a1)) σ hF
        · have hF := (if_neg h).symm.trans hF
          refine aw_run (pc' := 90) hC [(.iconst 0, 1, 0, 0, .int 0)] (by decide +kernel) [(0, .ref 2), (1, .int a1), (2, .int a2), (3, .int a3), (4, .int t0), (5, .int ((10 * a2) + a1))] [.int 0] σ rfl rfl ⟨trivial, trivial⟩ rfl ?_
          exact aw_zret hC hr (Or.inl rfl) (by decide +kernel) (pS1 hF) (pS2 hF)
  have Jc60 : ∀ (a1 : Int32) (a2 : Int32) (a3 : Int32) (σ : Sg), f_re_takeFigure_c60 a1 a2 a3 σ = some z → AW p l e rm_re_takeFigure s m args below meth c D ad tc 6 A s.heap 0 0 (MQ below (Qr (some (.int z.1)) D ad tc z.2 A) args s 0 0 A) 60 [(0, .ref 2), (1, .int a1), (2, .int a2), (3, .int a3)] [] σ := by
    intro a1 a2 a3 σ hF
    unfold f_re_takeFigure_c60 at hF
    refine aw_run (pc' := 61) hC [(.iconst 0, 1, 0, 0, .int 0)] (by decide +kernel) [(0, .ref 2), (1, .int a1), (2, .int a2), (3, .int a3)] [.int 0] σ rfl rfl ⟨trivial, trivial⟩ rfl ?_
    exact Jc61 a1 a2 a3 0 σ hF
  have Jc56 : ∀ (a1 : Int32) (a2 : Int32) (a3 : Int32) (σ : Sg), f_re_takeFigure_c56 a1 a2 a3 σ = some z → AW p l e rm_re_takeFigure s m args below meth c D ad tc 6 A s.heap 0 0 (MQ below (Qr (some (.int z.1)) D ad tc z.2 A) args s 0 0 A) 56 [(0, .ref 2), (1, .int a1), (2, .int a2), (3, .int a3)] [] σ := by
    intro a1 a2 a3 σ hF
    unfold f_re_takeFigure_c56 at hF
    refine aw_run (pc' := 57) hC [(.iconst 1, 1, 0, 0, .int 1)] (by decide +kernel) [(0, .ref 2), (1, .int a1), (2, .int a2), (3, .int a3)] [.int 1] σ rfl rfl ⟨trivial, trivial⟩ rfl ?_
    refine aw_goto (off := 4) hC 61 (by decide +kernel) (by decide) ?_
    exact Jc61 a1 a2 a3 1 σ hF
  have Jc29 : ∀ (a1 : Int32) (a2 : Int32) (t0 : Int32) (σ : Sg), f_re_takeFigure_c29 a1 a2 t0 σ = some z → AW p l e rm_re_takeFigure s m args below meth c D ad tc 6 A s.heap 0 0 (MQ below (Qr (some (.int z.1)) D ad tc z.2 A) args s 0 0 A) 29 [(0, .ref 2), (1, .int a1), (2, .int a2)] [.int t0] σ := by
    intro a1 a2 t0 σ hF
    unfold f_re_takeFigure_c29 at hF
    refine aw_run (pc' := 34) hC [(.istore_n 3, 1, 0, 0, .null), (.aload_n 0, 1, 0, 0, .null), (.getfield 37, 3, 2, 2, .null)] (by decide +kernel) [(0, .ref 2), (1, .int a1), (2, .int a2), (3, .int t0)] [.int (σ.1 2 2)] σ rfl rfl ⟨trivial, trivial, trivial, trivial⟩ rfl ?_
    refine aw_if_ne (off := 26) hC 60 Iff.rfl (by decide +kernel) (by decide) (fun h => ?_) (fun h => ?_)
    · have hF := (if_neg h).symm.trans hF
      exact Jc60 a1 a2 t0 σ hF
    · have hF := (if_pos h).symm.trans hF
      refine aw_run (pc' := 38) hC [(.iload_n 1, 1, 0, 0, .null)] (by decide +kernel) [(0, .ref 2), (1, .int a1), (2, .int a2), (3, .int t0)] [.int a1] σ rfl rfl ⟨trivial, trivial⟩ rfl ?_
      refine aw_if_ne (off := 22) hC 60 Iff.rfl (by decide +kernel) (by decide) (fun h => ?_) (fun h => ?_)
      · have hF := (if_neg h).symm.trans hF
        exact Jc60 a1 a2 t0 σ hF
      · have hF := (if_pos h).symm.trans hF
        refine aw_run (pc' := 45) hC [(.aload_n 0, 1, 0, 0, .null), (.getfield 44, 3, 2, 3, .null)] (by decide +kernel) [(0, .ref 2), (1, .int a1), (2, .int a2), (3, .int t0)] [.int (σ.1 2 3)] σ rfl rfl ⟨trivial, trivial, trivial⟩ rfl ?_
        refine aw_if_ne (off := 11) hC 56 Iff.rfl (by decide +kernel) (by decide) (fun h => ?_) (fun h => ?_)
        · have hF := (if_neg h).symm.trans hF
          exact Jc56 a1 a2 t0 σ hF
        · have hF := (if_pos h).symm.trans hF
          refine aw_run (pc' := 53) hC [(.aload_n 0, 1, 0, 0, .null), (.getfield 19, 3, 2, 1, .null), (.iconst 3, 1, 0, 0, .int 3)] (by decide +kernel) [(0, .ref 2), (1, .int a1), (2, .int a2), (3, .int t0)] [.int 3, .int (σ.1 2 1)] σ rfl rfl ⟨trivial, trivial, trivial, trivial⟩ rfl ?_
          refine aw_icmp_ne (off := 7) hC 60 (by decide +kernel) (by decide) (fun h => ?_) (fun h => ?_)
          · have hF := (if_neg h).symm.trans hF
            exact Jc60 a1 a2 t0 σ hF
          · have hF := (if_pos h).symm.trans hF
            exact Jc56 a1 a2 t0 σ hF
  have Jc28 : ∀ (a1 : Int32) (a2 : Int32) (σ : Sg), f_re_takeFigure_c28 a1 a2 σ = some z → AW p l e rm_re_takeFigure s m args below meth c D ad tc 6 A s.heap 0 0 (MQ below (Qr (some (.int z.1)) D ad tc z.2 A) args s 0 0 A) 28 [(0, .ref 2), (1, .int a1), (2, .int a2)] [] σ := by
    intro a1 a2 σ hF
    unfold f_re_takeFigure_c28 at hF
    refine aw_run (pc' := 29) hC [(.iconst 0, 1, 0, 0, .int 0)] (by decide +kernel) [(0, .ref 2), (1, .int a1), (2, .int a2)] [.int 0] σ rfl rfl ⟨trivial, trivial⟩ rfl ?_
    exact Jc29 a1 a2 0 σ hF
  unfold f_re_takeFigure at hF
  obtain ⟨g1, hF⟩ := gd hF
  refine aw_run (pc' := 9) hC [(.aload_n 0, 1, 0, 0, .null), (.getfield 9, 3, 2, 0, .null), (.aload_n 0, 1, 0, 0, .null), (.getfield 19, 3, 2, 1, .null), (.iaload, 1, 0, 0, .null)] (by decide +kernel) [(0, .ref 2), (1, .int a1)] [.int (σ.1 3 (σ.1 2 1).toNatClampNeg)] σ rfl rfl ⟨trivial, trivial, trivial, trivial, g1, trivial⟩ rfl ?_
  refine aw_callS hC hA (rest := []) (c_jm_abs_0f7a4 σ (σ.1 3 (σ.1 2 1).toNatClampNeg) _ rfl) mt_J9_abs_0f7a4 ln_2_48 (by decide +kernel) rfl rfl (Nat.le_of_ble_eq_true rfl) ⟨⟨rfl, rfl⟩, Nat.le_of_ble_eq_true rfl, Nat.le_of_ble_eq_true rfl⟩ ⟨Nat.zero_le _, Nat.zero_le _⟩ rfl ?_
  refine aw_run (pc' := 17) hC [(.istore_n 2, 1, 0, 0, .null), (.aload_n 0, 1, 0, 0, .null), (.getfield 37, 3, 2, 2, .null)] (by decide +kernel) [(0, .ref 2), (1, .int a1), (2, .int (f_jm_abs_0f7a4 (σ.1 3 (σ.1 2 1).toNatClampNeg)))] [.int (σ.1 2 2)] σ rfl rfl ⟨trivial, trivial, trivial, trivial⟩ rfl ?_
  refine aw_if_le (off := 11) hC 28 Iff.rfl (by decide +kernel) (by decide) (fun h => ?_) (fun h => ?_)
  · have hF := (if_pos h).symm.trans hF
    exact Jc28 a1 (f_jm_abs_0f7a4 (σ.1 3 (σ.1 2 1).toNatClampNeg)) σ hF
  · have hF := (if_neg h).symm.trans hF
    refine aw_run (pc' := 21) hC [(.iload_n 2, 1, 0, 0, .null)] (by decide +kernel) [(0, .ref 2), (1, .int a1), (2, .int (f_jm_abs_0f7a4 (σ.1 3 (σ.1 2 1).toNatClampNeg)))] [.int (f_jm_abs_0f7a4 (σ.1 3 (σ.1 2 1).toNatClampNeg))] σ rfl rfl ⟨trivial, trivial⟩ rfl ?_
    refine aw_if_ne (off := 7) hC 28 Iff.rfl (by decide +kernel) (by decide) (fun h => ?_) (fun h => ?_)
    · have hF := (if_neg h).symm.trans hF
      exact Jc28 a1 (f_jm_abs_0f7a4 (σ.1 3 (σ.1 2 1).toNatClampNeg)) σ hF
    · have hF := (if_pos h).symm.trans hF
      refine aw_run (pc' := 25) hC [(.iconst 1, 1, 0, 0, .int 1)] (by decide +kernel) [(0, .ref 2), (1, .int a1), (2, .int (f_jm_abs_0f7a4 (σ.1 3 (σ.1 2 1).toNatClampNeg)))] [.int 1] σ rfl rfl ⟨trivial, trivial⟩ rfl ?_
      refine aw_goto (off := 4) hC 29 (by decide +kernel) (by decide) ?_
      exact Jc29 a1 (f_jm_abs_0f7a4 (σ.1 3 (σ.1 2 1).toNatClampNeg)) 1 σ hF
def f_re_take_c42 (a1 : Int32) (σ : Sg) : Option (Int32 × Sg) := if a1 = 45 then (nm (f_re_takeMinus σ) fun q3 => if q3.1 = 0 ∨ q3.1 = 1 then some (q3.1, q3.2) else none) else (nm (f_re_takeMark σ a1) fun q1 => if q1.1 = 0 ∨ q1.1 = 1 then some (q1.1, q1.2) else none)
def f_re_take (σ : Sg) (a1 : Int32) : Option (Int32 × Sg) := if (σ.1 2 1) < 0 then (some (0, σ)) else (if (σ.1 2 1) < 4 then (if a1 < 48 then (f_re_take_c42 a1 σ) else (if (57 : Int32) < a1 then (f_re_take_c42 a1 σ) else ((f_re_takeFigure σ (a1 - 48)).bind fun q5 => if q5.1 = 0 ∨ q5.1 = 1 then some (q5.1, q5.2) else none))) else (some (0, σ)))
def rm_re_take : Room := { frames := 2, cells := 0, slots := 0, locals := 45 }
set_option maxHeartbeats 4000000 in
set_option maxRecDepth 100000 in
theorem c_re_take (σ : Sg) (a1 : Int32) (z : Int32 × Sg) (hF : f_re_take σ a1 = some z) : Ctr yX2_take cX2_take 2 (some .boolean) rm_re_take [.ref 2, .int a1] σ (some (.int z.1)) z.2 := by
  refine ct_start 2 (by decide) rfl (fun ad => Nat.le_of_ble_eq_true rfl) [(0, .ref 2), (1, .int a1)] (fun ad => rfl) ?_
  intro p l e s m args below meth c D ad tc A hC hA hr
  have Jc42 : ∀ (a1 : Int32) (σ : Sg), f_re_take_c42 a1 σ = some z → AW p l e rm_re_take s m args below meth c D ad tc 2 A s.heap 0 0 (MQ below (Qr (some (.int z.1)) D ad tc z.2 A) args s 0 0 A) 42 [(0, .ref 2), (1, .int a1)] [] σ := by
    intro a1 σ hF
    unfold f_re_take_c42 at hF
    refine aw_run (pc' := 45) hC [(.iload_n 1, 1, 0, 0, .null), (.bipush 45, 2, 0, 0, .int 45)] (by decide +kernel) [(0, .ref 2), (1, .int a1)] [.int 45, .int a1] σ rfl rfl ⟨trivial, trivial, trivial⟩ rfl ?_
    refine aw_icmp_ne (off := 10) hC 55 (by decide +kernel) (by decide) (fun h => ?_) (fun h => ?_)
    · have hF := (if_neg h).symm.trans hF
      refine aw_run (pc' := 57) hC [(.aload_n 0, 1, 0, 0, .null), (.iload_n 1, 1, 0, 0, .null)] (by decide +kernel) [(0, .ref 2), (1, .int a1)] [.int a1, .ref 2] σ rfl rfl ⟨trivial, trivial, trivial⟩ rfl ?_
      obtain ⟨q1, eq1, hF⟩ := nmd hF
      refine aw_callV hC hA (rest := []) (c_re_takeMark σ a1 q1 eq1) mt_X2_takeMark ln_2_31 (by decide +kernel) ⟨_, rfl⟩ rfl rfl (Nat.le_of_ble_eq_true rfl) ⟨⟨rfl, rfl⟩, Nat.le_of_ble_eq_true rfl, Nat.le_of_ble_eq_true rfl⟩ ⟨Nat.zero_le _, Nat.zero_le _⟩ rfl ?_
      obtain ⟨g2, hF⟩ := gd hF
      exact aw_zret hC hr g2 (by decide +kernel) (pS1 hF) (pS2 hF)
    · have hF := (if_pos h).symm.trans hF
      refine aw_run (pc' := 49) hC [(.aload_n 0, 1, 0, 0, .null)] (by decide +kernel) [(0, .ref 2), (1, .int a1)] [.ref 2] σ rfl rfl ⟨trivial, trivial⟩ rfl ?_
      obtain ⟨q3, eq3, hF⟩ := nmd hF
      refine aw_callV hC hA (rest := []) (c_re_takeMinus σ q3 eq3) mt_X2_takeMinus ln_2_27 (by decide +kernel) ⟨_, rfl⟩ rfl rfl (Nat.le_of_ble_eq_true rfl) ⟨⟨rfl, rfl⟩, Nat.le_of_ble_eq_true rfl, Nat.le_of_ble_eq_true rfl⟩ ⟨Nat.zero_le _, Nat.zero_le _⟩ rfl ?_
      refine aw_goto (off := 8) hC 60 (by decide +kernel) (by decide) ?_
      obtain ⟨g4, hF⟩ := gd hF
      exact aw_zret hC hr g4 (by decide +kernel) (pS1 hF) (pS2 hF)
  unfold f_re_take at hF
  refine aw_run (pc' := 4) hC [(.aload_n 0, 1, 0, 0, .null), (.getfield 19, 3, 2, 1, .null)] (by decide +kernel) [(0, .ref 2), (1, .int a1)] [.int (σ.1 2 1)] σ rfl rfl ⟨trivial, trivial, trivial⟩ rfl ?_
  refine aw_if_lt (off := 15) hC 19 Iff.rfl (by decide +kernel) (by decide) (fun h => ?_) (fun h => ?_)
  · have hF := (if_pos h).symm.trans hF
    refine aw_run (pc' := 20) hC [(.iconst 0, 1, 0, 0, .int 0)] (by decide +kernel) [(0, .ref 2), (1, .int a1)] [.int 0] σ rfl rfl ⟨trivial, trivial⟩ rfl ?_
    exact aw_zret hC hr (Or.inl rfl) (by decide +kernel) (pS1 hF) (pS2 hF)
  · have hF := (if_neg h).symm.trans hF
    refine aw_run (pc' := 16) hC [(.aload_n 0, 1, 0, 0, .null), (.getfield 19, 3, 2, 1, .null), (.aload_n 0, 1, 0, 0, .null), (.getfield 9, 3, 2, 0, .null), (.arraylength, 1, 0, 0, .int 4)] (by decide +kernel) [(0, .ref 2), (1, .int a1)] [.int 4, .int (σ.1 2 1)] σ rfl rfl ⟨trivial, trivial, trivial, trivial, rfl, trivial⟩ rfl ?_
    refine aw_icmp_lt (off := 5) hC 21 (by decide +kernel) (by decide) (fun h => ?_) (fun h => ?_)
    · have hF := (if_pos h).symm.trans hF
      refine aw_run (pc' := 24) hC [(.iload_n 1, 1, 0, 0, .null), (.bipush 48, 2, 0, 0, .int 48)] (by decide +kernel) [(0, .ref 2), (1, .int a1)] [.int 48, .int a1] σ rfl rfl ⟨trivial, trivial, trivial⟩ rfl ?_
      refine aw_icmp_lt (off := 18) hC 42 (by decide +kernel) (by decide) (fun h => ?_) (fun h => ?_)
      · have hF := (if_pos h).symm.trans hF
        exact Jc42 a1 σ hF
      · have hF := (if_neg h).symm.trans hF
        refine aw_run (pc' := 30) hC [(.iload_n 1, 1, 0, 0, .null), (.bipush 57, 2, 0, 0, .int 57)] (by decide +kernel) [(0, .ref 2), (1, .int a1)] [.int 57, .int a1] σ rfl rfl ⟨trivial, trivial, trivial⟩ rfl ?_
        refine aw_icmp_gt (off := 12) hC 42 (by decide +kernel) (by decide) (fun h => ?_) (fun h => ?_)
        · have hF := (if_pos h).symm.trans hF
          exact Jc42 a1 σ hF
        · have hF := (if_neg h).symm.trans hF
          refine aw_run (pc' := 38) hC [(.aload_n 0, 1, 0, 0, .null), (.iload_n 1, 1, 0, 0, .null), (.bipush 48, 2, 0, 0, .int 48), (.isub, 1, 0, 0, .null)] (by decide +kernel) [(0, .ref 2), (1, .int a1)] [.int (a1 - 48), .ref 2] σ rfl rfl ⟨trivial, trivial, trivial, trivial, trivial⟩ rfl ?_
          obtain ⟨q5, eq5, hF⟩ := bd hF
          refine aw_callV hC hA (rest := []) (c_re_takeFigure σ (a1 - 48) q5 eq5) mt_X2_takeFigure ln_2_23 (by decide +kernel) ⟨_, rfl⟩ rfl rfl (Nat.le_of_ble_eq_true rfl) ⟨⟨rfl, rfl⟩, Nat.le_of_ble_eq_true rfl, Nat.le_of_ble_eq_true rfl⟩ ⟨Nat.zero_le _, Nat.zero_le _⟩ rfl ?_
          obtain ⟨g6, hF⟩ := gd hF
          exact aw_zret hC hr g6 (by decide +kernel) (pS1 hF) (pS2 hF)
    · have hF := (if_neg h).symm.trans hF
      refine aw_run (pc' := 20) hC [(.iconst 0, 1, 0, 0, .int 0)] (by decide +kernel) [(0, .ref 2), (1, .int a1)] [.int 0] σ rfl rfl ⟨trivial, trivial⟩ rfl ?_
      exact aw_zret hC hr (Or.inl rfl) (by decide +kernel) (pS1 hF) (pS2 hF)
def f_ss_readPage_c9_s (N : Nat) (kc9 : Int32 → Sg → Option (Int32 × Sg)) (a1 : Int32) (σ : Sg) : Option (Int32 × Sg) := if (σ.1 0 6) ≤ a1 then (some (a1, σ)) else (if (24 : Int32) ≤ a1 then (some (a1, σ)) else (if ib a1 24 then (f_re_take σ (σ.1 1 a1.toNatClampNeg)).bind fun q3 => if q3.1 = 0 then (some (a1, q3.2)) else (kc9 (a1 + 1) q3.2) else none))
def f_ss_readPage_c9 (N : Nat) : Nat → Int32 → Sg → Option (Int32 × Sg)
  | 0 => fun _ _ => none
  | n + 1 => f_ss_readPage_c9_s N (f_ss_readPage_c9 N n)
def f_ss_readPage (N : Nat) (σ : Sg) : Option (Int32 × Sg) := (f_re_restart N σ).bind fun q1 => f_ss_readPage_c9 N N 0 q1
def rm_ss_readPage : Room := { frames := 3, cells := 0, slots := 0, locals := 66 }
set_option maxHeartbeats 4000000 in
set_option maxRecDepth 100000 in
theorem c_ss_readPage (N : Nat) (σ : Sg) (z : Int32 × Sg) (hF : f_ss_readPage N σ = some z) : Ctr yX6_readPage cX6_readPage 2 (some .int) rm_ss_readPage [.ref 0] σ (some (.int z.1)) z.2 := by
  refine ct_start 6 (by decide) rfl (fun ad => Nat.le_of_ble_eq_true rfl) [(0, .ref 0)] (fun ad => rfl) ?_
  intro p l e s m args below meth c D ad tc A hC hA hr
  have Jc9 : ∀ (n : Nat) (a1 : Int32) (σ : Sg), f_ss_readPage_c9 N n a1 σ = some z → AW p l e rm_ss_readPage s m args below meth c D ad tc 2 A s.heap 0 0 (MQ below (Qr (some (.int z.1)) D ad tc z.2 A) args s 0 0 A) 9 [(0, .ref 0), (1, .int a1)] [] σ := by
    intro n
    induction n with
    | zero =>
      intro a1 σ hF
      cases hF
    | succ n ih =>
      intro a1 σ hF
      have hF : f_ss_readPage_c9_s N (f_ss_readPage_c9 N n) a1 σ = some z := hF
      unfold f_ss_readPage_c9_s at hF
      refine aw_run (pc' := 14) hC [(.iload_n 1, 1, 0, 0, .null), (.aload_n 0, 1, 0, 0, .null), (.getfield 49, 3, 6, 6, .null)] (by decide +kernel) [(0, .ref 0), (1, .int a1)] [.int (σ.1 0 6), .int a1] σ rfl rfl ⟨trivial, trivial, trivial, trivial⟩ rfl ?_
      refine aw_icmp_ge (off := 34) hC 48 (by decide +kernel) (by decide) (fun h => ?_) (fun h => ?_)
      · have hF := (if_pos h).symm.trans hF
        refine aw_run (pc' := 49) hC [(.iload_n 1, 1, 0, 0, .null)] (by decide +kernel) [(0, .ref 0), (1, .int a1)] [.int a1] σ rfl rfl ⟨trivial, trivial⟩ rfl ?_
        exact aw_iret hC hr (by decide +kernel) (pS1 hF) (pS2 hF)
      · have hF := (if_neg h).symm.trans hF
        refine aw_run (pc' := 23) hC [(.iload_n 1, 1, 0, 0, .null), (.aload_n 0, 1, 0, 0, .null), (.getfield 9, 3, 6, 0, .null), (.arraylength, 1, 0, 0, .int 24)] (by decide +kernel) [(0, .ref 0), (1, .int a1)] [.int 24, .int a1] σ rfl rfl ⟨trivial, trivial, trivial, rfl, trivial⟩ rfl ?_
        refine aw_icmp_ge (off := 25) hC 48 (by decide +kernel) (by decide) (fun h => ?_) (fun h => ?_)
        · have hF := (if_pos h).symm.trans hF
          refine aw_run (pc' := 49) hC [(.iload_n 1, 1, 0, 0, .null)] (by decide +kernel) [(0, .ref 0), (1, .int a1)] [.int a1] σ rfl rfl ⟨trivial, trivial⟩ rfl ?_
          exact aw_iret hC hr (by decide +kernel) (pS1 hF) (pS2 hF)
        · have hF := (if_neg h).symm.trans hF
          obtain ⟨g2, hF⟩ := gd hF
          refine aw_run (pc' := 36) hC [(.aload_n 0, 1, 0, 0, .null), (.getfield 16, 3, 6, 1, .null), (.aload_n 0, 1, 0, 0, .null), (.getfield 9, 3, 6, 0, .null), (.iload_n 1, 1, 0, 0, .null), (.iaload, 1, 0, 0, .null)] (by decide +kernel) [(0, .ref 0), (1, .int a1)] [.int (σ.1 1 a1.toNatClampNeg), .ref 2] σ rfl rfl ⟨trivial, trivial, trivial, trivial, trivial, g2, trivial⟩ rfl ?_
          obtain ⟨q3, eq3, hF⟩ := bd hF
          refine aw_callV hC hA (rest := []) (c_re_take σ (σ.1 1 a1.toNatClampNeg) q3 eq3) mt_X2_take ln_6_215 (by decide +kernel) ⟨_, rfl⟩ rfl rfl (Nat.le_of_ble_eq_true rfl) ⟨⟨rfl, rfl⟩, Nat.le_of_ble_eq_true rfl, Nat.le_of_ble_eq_true rfl⟩ ⟨Nat.zero_le _, Nat.zero_le _⟩ rfl ?_
          refine aw_if_eq (off := 9) hC 48 Iff.rfl (by decide +kernel) (by decide) (fun h => ?_) (fun h => ?_)
          · have hF := (if_pos h).symm.trans hF
            refine aw_run (pc' := 49) hC [(.iload_n 1, 1, 0, 0, .null)] (by decide +kernel) [(0, .ref 0), (1, .int a1)] [.int a1] q3.2 rfl rfl ⟨trivial, trivial⟩ rfl ?_
            exact aw_iret hC hr (by decide +kernel) (pS1 hF) (pS2 hF)
          · have hF := (if_neg h).symm.trans hF
            refine aw_run (pc' := 45) hC [(.iinc 1 1, 3, 0, 0, .int 1)] (by decide +kernel) [(0, .ref 0), (1, .int (a1 + 1))] [] q3.2 rfl rfl ⟨trivial, trivial⟩ rfl ?_
            refine aw_goto (off := -36) hC 9 (by decide +kernel) (by decide) ?_
            exact ih (a1 + 1) q3.2 hF
  unfold f_ss_readPage at hF
  refine aw_run (pc' := 4) hC [(.aload_n 0, 1, 0, 0, .null), (.getfield 16, 3, 6, 1, .null)] (by decide +kernel) [(0, .ref 0)] [.ref 2] σ rfl rfl ⟨trivial, trivial, trivial⟩ rfl ?_
  obtain ⟨q1, eq1, hF⟩ := bd hF
  refine aw_callV hC hA (rest := []) (c_re_restart N σ q1 eq1) mt_X2_restart ln_6_212 (by decide +kernel) ⟨_, rfl⟩ rfl rfl (Nat.le_of_ble_eq_true rfl) ⟨⟨rfl, rfl⟩, Nat.le_of_ble_eq_true rfl, Nat.le_of_ble_eq_true rfl⟩ ⟨Nat.zero_le _, Nat.zero_le _⟩ rfl ?_
  refine aw_run (pc' := 9) hC [(.iconst 0, 1, 0, 0, .int 0), (.istore_n 1, 1, 0, 0, .null)] (by decide +kernel) [(0, .ref 0), (1, .int 0)] [] q1 rfl rfl ⟨trivial, trivial, trivial⟩ rfl ?_
  exact Jc9 N 0 q1 hF
def f_ss_fault (N : Nat) (σ : Sg) : Option (Int32 × Sg) := (f_ss_readPage N σ).bind fun q1 => some (q1.1, q1.2)
def rm_ss_fault : Room := { frames := 4, cells := 0, slots := 0, locals := 87 }
set_option maxHeartbeats 4000000 in
set_option maxRecDepth 100000 in
theorem c_ss_fault (N : Nat) (σ : Sg) (z : Int32 × Sg) (hF : f_ss_fault N σ = some z) : Ctr yX6_fault cX6_fault 1 (some .int) rm_ss_fault [.ref 0] σ (some (.int z.1)) z.2 := by
  refine ct_start 6 (by decide) rfl (fun ad => Nat.le_of_ble_eq_true rfl) [(0, .ref 0)] (fun ad => rfl) ?_
  intro p l e s m args below meth c D ad tc A hC hA hr
  unfold f_ss_fault at hF
  refine aw_run (pc' := 1) hC [(.aload_n 0, 1, 0, 0, .null)] (by decide +kernel) [(0, .ref 0)] [.ref 0] σ rfl rfl ⟨trivial, trivial⟩ rfl ?_
  obtain ⟨q1, eq1, hF⟩ := bd hF
  refine aw_callV hC hA (rest := []) (c_ss_readPage N σ q1 eq1) mt_X6_readPage ln_6_54 (by decide +kernel) ⟨_, rfl⟩ rfl rfl (Nat.le_of_ble_eq_true rfl) ⟨⟨rfl, rfl⟩, Nat.le_of_ble_eq_true rfl, Nat.le_of_ble_eq_true rfl⟩ ⟨Nat.zero_le _, Nat.zero_le _⟩ rfl ?_
  exact aw_iret hC hr (by decide +kernel) (pS1 hF) (pS2 hF)
def f_re_isMiss (σ : Sg) : Int32 := if (σ.1 2 1) = 4 then 1 else 0
def rm_re_isMiss : Room := { frames := 0, cells := 0, slots := 0, locals := 0 }
set_option maxHeartbeats 4000000 in
set_option maxRecDepth 100000 in
theorem c_re_isMiss (σ : Sg) (z : Int32) (hF : f_re_isMiss σ = z) : Ctr yX2_isMiss cX2_isMiss 1 (some .boolean) rm_re_isMiss [.ref 2] σ (some (.int z)) σ := by
  refine ct_start 2 (by decide) rfl (fun ad => Nat.le_of_ble_eq_true rfl) [(0, .ref 2)] (fun ad => rfl) ?_
  intro p l e s m args below meth c D ad tc A hC hA hr
  unfold f_re_isMiss at hF
  refine aw_run (pc' := 5) hC [(.aload_n 0, 1, 0, 0, .null), (.getfield 19, 3, 2, 1, .null), (.iconst 4, 1, 0, 0, .int 4)] (by decide +kernel) [(0, .ref 2)] [.int 4, .int (σ.1 2 1)] σ rfl rfl ⟨trivial, trivial, trivial, trivial⟩ rfl ?_
  refine aw_icmp_ne (off := 7) hC 12 (by decide +kernel) (by decide) (fun h => ?_) (fun h => ?_)
  · have hF := (if_neg h).symm.trans hF
    refine aw_run (pc' := 13) hC [(.iconst 0, 1, 0, 0, .int 0)] (by decide +kernel) [(0, .ref 2)] [.int 0] σ rfl rfl ⟨trivial, trivial⟩ rfl ?_
    exact aw_zret hC hr (Or.inl rfl) (by decide +kernel) hF rfl
  · have hF := (if_pos h).symm.trans hF
    refine aw_run (pc' := 9) hC [(.iconst 1, 1, 0, 0, .int 1)] (by decide +kernel) [(0, .ref 2)] [.int 1] σ rfl rfl ⟨trivial, trivial⟩ rfl ?_
    refine aw_goto (off := 4) hC 13 (by decide +kernel) (by decide) ?_
    exact aw_zret hC hr (Or.inr rfl) (by decide +kernel) hF rfl
def f_re_isWhole (σ : Sg) : Int32 := if (f_re_isMiss σ) = 0 then (if (σ.1 2 2) ≤ 0 then 0 else (if (σ.1 2 1) = 2 then 1 else (if (σ.1 2 1) = 3 then 1 else 0))) else 1
def rm_re_isWhole : Room := { frames := 1, cells := 0, slots := 0, locals := 20 }
set_option maxHeartbeats 4000000 in
set_option maxRecDepth 100000 in
theorem c_re_isWhole (σ : Sg) (z : Int32) (hF : f_re_isWhole σ = z) : Ctr yX2_isWhole cX2_isWhole 1 (some .boolean) rm_re_isWhole [.ref 2] σ (some (.int z)) σ := by
  refine ct_start 2 (by decide) rfl (fun ad => Nat.le_of_ble_eq_true rfl) [(0, .ref 2)] (fun ad => rfl) ?_
  intro p l e s m args below meth c D ad tc A hC hA hr
  unfold f_re_isWhole at hF
  refine aw_run (pc' := 1) hC [(.aload_n 0, 1, 0, 0, .null)] (by decide +kernel) [(0, .ref 2)] [.ref 2] σ rfl rfl ⟨trivial, trivial⟩ rfl ?_
  refine aw_callV hC hA (rest := []) (c_re_isMiss σ _ rfl) mt_X2_isMiss ln_2_34 (by decide +kernel) ⟨_, rfl⟩ rfl rfl (Nat.le_of_ble_eq_true rfl) ⟨⟨rfl, rfl⟩, Nat.le_of_ble_eq_true rfl, Nat.le_of_ble_eq_true rfl⟩ ⟨Nat.zero_le _, Nat.zero_le _⟩ rfl ?_
  refine aw_if_ne (off := 26) hC 30 Iff.rfl (by decide +kernel) (by decide) (fun h => ?_) (fun h => ?_)
  · have hF := (if_neg h).symm.trans hF
    refine aw_run (pc' := 31) hC [(.iconst 1, 1, 0, 0, .int 1)] (by decide +kernel) [(0, .ref 2)] [.int 1] σ rfl rfl ⟨trivial, trivial⟩ rfl ?_
    refine aw_goto (off := 4) hC 35 (by decide +kernel) (by decide) ?_
    exact aw_zret hC hr (Or.inr rfl) (by decide +kernel) hF rfl
  · have hF := (if_pos h).symm.trans hF
    refine aw_run (pc' := 11) hC [(.aload_n 0, 1, 0, 0, .null), (.getfield 37, 3, 2, 2, .null)] (by decide +kernel) [(0, .ref 2)] [.int (σ.1 2 2)] σ rfl rfl ⟨trivial, trivial, trivial⟩ rfl ?_
    refine aw_if_le (off := 23) hC 34 Iff.rfl (by decide +kernel) (by decide) (fun h => ?_) (fun h => ?_)
    · have hF := (if_pos h).symm.trans hF
      refine aw_run (pc' := 35) hC [(.iconst 0, 1, 0, 0, .int 0)] (by decide +kernel) [(0, .ref 2)] [.int 0] σ rfl rfl ⟨trivial, trivial⟩ rfl ?_
      exact aw_zret hC hr (Or.inl rfl) (by decide +kernel) hF rfl
    · have hF := (if_neg h).symm.trans hF
      refine aw_run (pc' := 19) hC [(.aload_n 0, 1, 0, 0, .null), (.getfield 19, 3, 2, 1, .null), (.iconst 2, 1, 0, 0, .int 2)] (by decide +kernel) [(0, .ref 2)] [.int 2, .int (σ.1 2 1)] σ rfl rfl ⟨trivial, trivial, trivial, trivial⟩ rfl ?_
      refine aw_icmp_eq (off := 11) hC 30 (by decide +kernel) (by decide) (fun h => ?_) (fun h => ?_)
      · have hF := (if_pos h).symm.trans hF
        refine aw_run (pc' := 31) hC [(.iconst 1, 1, 0, 0, .int 1)] (by decide +kernel) [(0, .ref 2)] [.int 1] σ rfl rfl ⟨trivial, trivial⟩ rfl ?_
        refine aw_goto (off := 4) hC 35 (by decide +kernel) (by decide) ?_
        exact aw_zret hC hr (Or.inr rfl) (by decide +kernel) hF rfl
      · have hF := (if_neg h).symm.trans hF
        refine aw_run (pc' := 27) hC [(.aload_n 0, 1, 0, 0, .null), (.getfield 19, 3, 2, 1, .null), (.iconst 3, 1, 0, 0, .int 3)] (by decide +kernel) [(0, .ref 2)] [.int 3, .int (σ.1 2 1)] σ rfl rfl ⟨trivial, trivial, trivial, trivial⟩ rfl ?_
        refine aw_icmp_ne (off := 7) hC 34 (by decide +kernel) (by decide) (fun h => ?_) (fun h => ?_)
        · have hF := (if_neg h).symm.trans hF
          refine aw_run (pc' := 35) hC [(.iconst 0, 1, 0, 0, .int 0)] (by decide +kernel) [(0, .ref 2)] [.int 0] σ rfl rfl ⟨trivial, trivial⟩ rfl ?_
          exact aw_zret hC hr (Or.inl rfl) (by decide +kernel) hF rfl
        · have hF := (if_pos h).symm.trans hF
          refine aw_run (pc' := 31) hC [(.iconst 1, 1, 0, 0, .int 1)] (by decide +kernel) [(0, .ref 2)] [.int 1] σ rfl rfl ⟨trivial, trivial⟩ rfl ?_
          refine aw_goto (off := 4) hC 35 (by decide +kernel) (by decide) ?_
          exact aw_zret hC hr (Or.inr rfl) (by decide +kernel) hF rfl
def f_ss_isBackGreat (a0 : Int32) (a1 : Int32) (a2 : Int32) : Int32 := if a1 ≤ (a0 + (2 * a2)) then 0 else 1
def rm_ss_isBackGreat : Room := { frames := 0, cells := 0, slots := 0, locals := 0 }
set_option maxHeartbeats 4000000 in
set_option maxRecDepth 100000 in
theorem c_ss_isBackGreat (σ : Sg) (a0 : Int32) (a1 : Int32) (a2 : Int32) (z : Int32) (hF : f_ss_isBackGreat a0 a1 a2 = z) : Ctr yX6_isBackGreat cX6_isBackGreat 3 (some .boolean) rm_ss_isBackGreat [.int a0, .int a1, .int a2] σ (some (.int z)) σ := by
  refine ct_start 6 (by decide) rfl (fun ad => Nat.le_of_ble_eq_true rfl) [(0, .int a0), (1, .int a1), (2, .int a2)] (fun ad => rfl) ?_
  intro p l e s m args below meth c D ad tc A hC hA hr
  unfold f_ss_isBackGreat at hF
  refine aw_run (pc' := 6) hC [(.iload_n 1, 1, 0, 0, .null), (.iload_n 0, 1, 0, 0, .null), (.iconst 2, 1, 0, 0, .int 2), (.iload_n 2, 1, 0, 0, .null), (.imul, 1, 0, 0, .null), (.iadd, 1, 0, 0, .null)] (by decide +kernel) [(0, .int a0), (1, .int a1), (2, .int a2)] [.int (a0 + (2 * a2)), .int a1] σ rfl rfl ⟨trivial, trivial, trivial, trivial, trivial, trivial, trivial⟩ rfl ?_
  refine aw_icmp_le (off := 7) hC 13 (by decide +kernel) (by decide) (fun h => ?_) (fun h => ?_)
  · have hF := (if_pos h).symm.trans hF
    refine aw_run (pc' := 14) hC [(.iconst 0, 1, 0, 0, .int 0)] (by decide +kernel) [(0, .int a0), (1, .int a1), (2, .int a2)] [.int 0] σ rfl rfl ⟨trivial, trivial⟩ rfl ?_
    exact aw_zret hC hr (Or.inl rfl) (by decide +kernel) hF rfl
  · have hF := (if_neg h).symm.trans hF
    refine aw_run (pc' := 10) hC [(.iconst 1, 1, 0, 0, .int 1)] (by decide +kernel) [(0, .int a0), (1, .int a1), (2, .int a2)] [.int 1] σ rfl rfl ⟨trivial, trivial⟩ rfl ?_
    refine aw_goto (off := 4) hC 14 (by decide +kernel) (by decide) ?_
    exact aw_zret hC hr (Or.inr rfl) (by decide +kernel) hF rfl
