def f_mo_begins (σ : Sg) : Sg := nm (uI σ 20 21 0) fun σ1 => nm (uJ σ1 20 22 0) fun σ2 => nm (uJ σ2 20 23 1) fun σ3 => σ3
def rm_mo_begins : Room := { frames := 0, cells := 0, slots := 0, locals := 0 }
set_option maxHeartbeats 4000000 in
set_option maxRecDepth 100000 in
theorem c_mo_begins (σ : Sg) (z : Sg) (hF : f_mo_begins σ = z) : Ctr yX7_begins cX7_begins 1 none rm_mo_begins [.ref 20] σ none z := by
  refine ct_start 7 (by decide) rfl (fun ad => Nat.le_of_ble_eq_true rfl) [(0, .ref 20)] (fun ad => rfl) ?_
  intro p l e s m args below meth c D ad tc A hC hA hr
  unfold f_mo_begins at hF
  obtain ⟨σ1, hσ1, hF⟩ := nmd hF
  refine aw_run (pc' := 5) hC [(.aload_n 0, 1, 0, 0, .null), (.iconst 0, 1, 0, 0, .int 0), (.putfield 205, 3, 7, 21, .null)] (by decide +kernel) [(0, .ref 20)] [] (uI σ 20 21 0) rfl rfl ⟨trivial, trivial, (Or.inl rfl), trivial⟩ hσ1 ?_
  obtain ⟨σ2, hσ2, hF⟩ := nmd hF
  refine aw_run (pc' := 10) hC [(.aload_n 0, 1, 0, 0, .null), (.lconst 0, 1, 0, 0, .long 0), (.putfield 208, 3, 7, 22, .null)] (by decide +kernel) [(0, .ref 20)] [] (uJ σ1 20 22 0) rfl rfl ⟨trivial, trivial, trivial, trivial⟩ hσ2 ?_
  obtain ⟨σ3, hσ3, hF⟩ := nmd hF
  refine aw_run (pc' := 15) hC [(.aload_n 0, 1, 0, 0, .null), (.lconst 1, 1, 0, 0, .long 1), (.putfield 212, 3, 7, 23, .null)] (by decide +kernel) [(0, .ref 20)] [] (uJ σ2 20 23 1) rfl rfl ⟨trivial, trivial, trivial, trivial⟩ hσ3 ?_
  exact aw_vret hC hr (by decide +kernel)  hF
def f_mo_look_c74 (a6 : Int64) (a8 : Int64) (σ : Sg) : Sg := nm (uJ σ 20 22 a6) fun σ1 => nm (uJ σ1 20 23 a8) fun σ2 => nm (uI σ2 20 21 1) fun σ3 => σ3
def f_mo_look_c26 (a5 : Int32) (a6 : Int64) (t0 : Int64) (σ : Sg) : Sg := if (σ.1 20 21) = 0 then (f_mo_look_c74 a6 t0 σ) else (if a5 = 0 then (if (0 : Int64) ≤ ((a6 * (σ.2 20 23)) - ((σ.2 20 22) * t0)) then (nm (uI σ 20 21 1) fun σ4 => σ4) else (f_mo_look_c74 a6 t0 σ)) else (if ((a6 * (σ.2 20 23)) - ((σ.2 20 22) * t0)) ≤ 0 then (nm (uI σ 20 21 1) fun σ5 => σ5) else (f_mo_look_c74 a6 t0 σ)))
def f_mo_look_c12 (a3 : Int64) (a5 : Int32) (t0 : Int64) (σ : Sg) : Sg := if (0 : Int64) ≤ a3 then (f_mo_look_c26 a5 t0 a3 σ) else (f_mo_look_c26 a5 t0 (-a3) σ)
def f_mo_look (σ : Sg) (a1 : Int64) (a3 : Int64) (a5 : Int32) : Sg := if (0 : Int64) ≤ a3 then (f_mo_look_c12 a3 a5 a1 σ) else (f_mo_look_c12 a3 a5 (-a1) σ)
def rm_mo_look : Room := { frames := 0, cells := 0, slots := 0, locals := 0 }
set_option maxHeartbeats 4000000 in
set_option maxRecDepth 100000 in
theorem c_mo_look (σ : Sg) (a1 : Int64) (a3 : Int64) (a5 : Int32) (z : Sg) (hF : f_mo_look σ a1 a3 a5 = z) : Ctr yX7_look cX7_look 12 none rm_mo_look [.ref 20, .long a1, .long a3, .int a5] σ none z := by
  refine ct_start 7 (by decide) rfl (fun ad => Nat.le_of_ble_eq_true rfl) [(0, .ref 20), (1, .long a1), (3, .long a3), (5, .int a5)] (fun ad => rfl) ?_
  intro p l e s m args below meth c D ad tc A hC hA hr
  have Jc74 : ∀ (a6 : Int64) (a8 : Int64) (σ : Sg), f_mo_look_c74 a6 a8 σ = z → AW p l e rm_mo_look s m args below meth c D ad tc 12 A s.heap 0 0 (MQ below (Qr none D ad tc z A) args s 0 0 A) 74 [(0, .ref 20), (6, .long a6), (8, .long a8)] [] σ := by
    intro a6 a8 σ hF
    unfold f_mo_look_c74 at hF
    obtain ⟨σ1, hσ1, hF⟩ := nmd hF
    refine aw_run (pc' := 80) hC [(.aload_n 0, 1, 0, 0, .null), (.lload 6, 2, 0, 0, .null), (.putfield 208, 3, 7, 22, .null)] (by decide +kernel) [(0, .ref 20), (6, .long a6), (8, .long a8)] [] (uJ σ 20 22 a6) rfl rfl ⟨trivial, trivial, trivial, trivial⟩ hσ1 ?_
    obtain ⟨σ2, hσ2, hF⟩ := nmd hF
    refine aw_run (pc' := 86) hC [(.aload_n 0, 1, 0, 0, .null), (.lload 8, 2, 0, 0, .null), (.putfield 212, 3, 7, 23, .null)] (by decide +kernel) [(0, .ref 20), (6, .long a6), (8, .long a8)] [] (uJ σ1 20 23 a8) rfl rfl ⟨trivial, trivial, trivial, trivial⟩ hσ2 ?_
    obtain ⟨σ3, hσ3, hF⟩ := nmd hF
    refine aw_run (pc' := 91) hC [(.aload_n 0, 1, 0, 0, .null), (.iconst 1, 1, 0, 0, .int 1), (.putfield 205, 3, 7, 21, .null)] (by decide +kernel) [(0, .ref 20), (6, .long a6), (8, .long a8)] [] (uI σ2 20 21 1) rfl rfl ⟨trivial, trivial, (Or.inr rfl), trivial⟩ hσ3 ?_
    exact aw_vret hC hr (by decide +kernel)  hF
  have Jc26 : ∀ (a5 : Int32) (a6 : Int64) (t0 : Int64) (σ : Sg), f_mo_look_c26 a5 a6 t0 σ = z → AW p l e rm_mo_look s m args below meth c D ad tc 12 A s.heap 0 0 (MQ below (Qr none D ad tc z A) args s 0 0 A) 26 [(0, .ref 20), (5, .int a5), (6, .long a6)] [.long t0] σ := by
    intro a5 a6 t0 σ hF
    unfold f_mo_look_c26 at hF
    refine aw_run (pc' := 49) hC [(.lstore 8, 2, 0, 0, .null), (.lload 6, 2, 0, 0, .null), (.aload_n 0, 1, 0, 0, .null), (.getfield 212, 3, 7, 23, .null), (.lmul, 1, 0, 0, .null), (.aload_n 0, 1, 0, 0, .null), (.getfield 208, 3, 7, 22, .null), (.lload 8, 2, 0, 0, .null), (.lmul, 1, 0, 0, .null), (.lsub, 1, 0, 0, .null), (.lstore 10, 2, 0, 0, .null), (.aload_n 0, 1, 0, 0, .null), (.getfield 205, 3, 7, 21, .null)] (by decide +kernel) [(0, .ref 20), (5, .int a5), (6, .long a6), (8, .long t0), (10, .long ((a6 * (σ.2 20 23)) - ((σ.2 20 22) * t0)))] [.int (σ.1 20 21)] σ rfl rfl ⟨trivial, trivial, trivial, trivial, trivial, trivial, trivial, trivial, trivial, trivial, trivial, trivial, trivial, trivial⟩ rfl ?_
    refine aw_if_eq (off := 25) hC 74 Iff.rfl (by decide +kernel) (by decide) (fun h => ?_) (fun h => ?_)
    · have hF := (if_pos h).symm.trans hF
      refine aw_pick [0, 2, 3] [(0, .ref 20), (6, .long a6), (8, .long t0)] rfl ?_
      exact Jc74 a6 t0 σ hF
    · have hF := (if_neg h).symm.trans hF
      refine aw_run (pc' := 54) hC [(.iload 5, 2, 0, 0, .null)] (by decide +kernel) [(0, .ref 20), (5, .int a5), (6, .long a6), (8, .long t0), (10, .long ((a6 * (σ.2 20 23)) - ((σ.2 20 22) * t0)))] [.int a5] σ rfl rfl ⟨trivial, trivial⟩ rfl ?_
      refine aw_if_eq (off := 13) hC 67 Iff.rfl (by decide +kernel) (by decide) (fun h => ?_) (fun h => ?_)
      · have hF := (if_pos h).symm.trans hF
        refine aw_run (pc' := 71) hC [(.lload 10, 2, 0, 0, .null), (.lconst 0, 1, 0, 0, .long 0), (.lcmp, 1, 0, 0, .null)] (by decide +kernel) [(0, .ref 20), (5, .int a5), (6, .long a6), (8, .long t0), (10, .long ((a6 * (σ.2 20 23)) - ((σ.2 20 22) * t0)))] [.int (lg_cmp ((a6 * (σ.2 20 23)) - ((σ.2 20 22) * t0)) 0)] σ rfl rfl ⟨trivial, trivial, trivial, trivial⟩ rfl ?_
        refine aw_if_ge (off := 15) hC 86 (lc_ge _ _) (by decide +kernel) (by decide) (fun h => ?_) (fun h => ?_)
        · have hF := (if_pos h).symm.trans hF
          obtain ⟨σ4, hσ4, hF⟩ := nmd hF
          refine aw_run (pc' := 91) hC [(.aload_n 0, 1, 0, 0, .null), (.iconst 1, 1, 0, 0, .int 1), (.putfield 205, 3, 7, 21, .null)] (by decide +kernel) [(0, .ref 20), (5, .int a5), (6, .long a6), (8, .long t0), (10, .long ((a6 * (σ.2 20 23)) - ((σ.2 20 22) * t0)))] [] (uI σ 20 21 1) rfl rfl ⟨trivial, trivial, (Or.inr rfl), trivial⟩ hσ4 ?_
          exact aw_vret hC hr (by decide +kernel)  hF
        · have hF := (if_neg h).symm.trans hF
          refine aw_pick [0, 2, 3] [(0, .ref 20), (6, .long a6), (8, .long t0)] rfl ?_
          exact Jc74 a6 t0 σ hF
      · have hF := (if_neg h).symm.trans hF
        refine aw_run (pc' := 61) hC [(.lload 10, 2, 0, 0, .null), (.lconst 0, 1, 0, 0, .long 0), (.lcmp, 1, 0, 0, .null)] (by decide +kernel) [(0, .ref 20), (5, .int a5), (6, .long a6), (8, .long t0), (10, .long ((a6 * (σ.2 20 23)) - ((σ.2 20 22) * t0)))] [.int (lg_cmp ((a6 * (σ.2 20 23)) - ((σ.2 20 22) * t0)) 0)] σ rfl rfl ⟨trivial, trivial, trivial, trivial⟩ rfl ?_
        refine aw_if_le (off := 25) hC 86 (lc_le _ _) (by decide +kernel) (by decide) (fun h => ?_) (fun h => ?_)
        · have hF := (if_pos h).symm.trans hF
          obtain ⟨σ5, hσ5, hF⟩ := nmd hF
          refine aw_run (pc' := 91) hC [(.aload_n 0, 1, 0, 0, .null), (.iconst 1, 1, 0, 0, .int 1), (.putfield 205, 3, 7, 21, .null)] (by decide +kernel) [(0, .ref 20), (5, .int a5), (6, .long a6), (8, .long t0), (10, .long ((a6 * (σ.2 20 23)) - ((σ.2 20 22) * t0)))] [] (uI σ 20 21 1) rfl rfl ⟨trivial, trivial, (Or.inr rfl), trivial⟩ hσ5 ?_
          exact aw_vret hC hr (by decide +kernel)  hF
        · have hF := (if_neg h).symm.trans hF
          refine aw_goto (off := 10) hC 74 (by decide +kernel) (by decide) ?_
          refine aw_pick [0, 2, 3] [(0, .ref 20), (6, .long a6), (8, .long t0)] rfl ?_
          exact Jc74 a6 t0 σ hF
  have Jc12 : ∀ (a3 : Int64) (a5 : Int32) (t0 : Int64) (σ : Sg), f_mo_look_c12 a3 a5 t0 σ = z → AW p l e rm_mo_look s m args below meth c D ad tc 12 A s.heap 0 0 (MQ below (Qr none D ad tc z A) args s 0 0 A) 12 [(0, .ref 20), (3, .long a3), (5, .int a5)] [.long t0] σ := by
    intro a3 a5 t0 σ hF
    unfold f_mo_look_c12 at hF
    refine aw_run (pc' := 17) hC [(.lstore 6, 2, 0, 0, .null), (.lload_n 3, 1, 0, 0, .null), (.lconst 0, 1, 0, 0, .long 0), (.lcmp, 1, 0, 0, .null)] (by decide +kernel) [(0, .ref 20), (3, .long a3), (5, .int a5), (6, .long t0)] [.int (lg_cmp a3 0)] σ rfl rfl ⟨trivial, trivial, trivial, trivial, trivial⟩ rfl ?_
    refine aw_if_ge (off := 8) hC 25 (lc_ge _ _) (by decide +kernel) (by decide) (fun h => ?_) (fun h => ?_)
    · have hF := (if_pos h).symm.trans hF
      refine aw_run (pc' := 26) hC [(.lload_n 3, 1, 0, 0, .null)] (by decide +kernel) [(0, .ref 20), (3, .long a3), (5, .int a5), (6, .long t0)] [.long a3] σ rfl rfl ⟨trivial, trivial⟩ rfl ?_
      refine aw_pick [0, 2, 3] [(0, .ref 20), (5, .int a5), (6, .long t0)] rfl ?_
      exact Jc26 a5 t0 a3 σ hF
    · have hF := (if_neg h).symm.trans hF
      refine aw_run (pc' := 22) hC [(.lload_n 3, 1, 0, 0, .null), (.lneg, 1, 0, 0, .null)] (by decide +kernel) [(0, .ref 20), (3, .long a3), (5, .int a5), (6, .long t0)] [.long (-a3)] σ rfl rfl ⟨trivial, trivial, trivial⟩ rfl ?_
      refine aw_goto (off := 4) hC 26 (by decide +kernel) (by decide) ?_
      refine aw_pick [0, 2, 3] [(0, .ref 20), (5, .int a5), (6, .long t0)] rfl ?_
      exact Jc26 a5 t0 (-a3) σ hF
  unfold f_mo_look at hF
  refine aw_run (pc' := 3) hC [(.lload_n 3, 1, 0, 0, .null), (.lconst 0, 1, 0, 0, .long 0), (.lcmp, 1, 0, 0, .null)] (by decide +kernel) [(0, .ref 20), (1, .long a1), (3, .long a3), (5, .int a5)] [.int (lg_cmp a3 0)] σ rfl rfl ⟨trivial, trivial, trivial, trivial⟩ rfl ?_
  refine aw_if_ge (off := 8) hC 11 (lc_ge _ _) (by decide +kernel) (by decide) (fun h => ?_) (fun h => ?_)
  · have hF := (if_pos h).symm.trans hF
    refine aw_run (pc' := 12) hC [(.lload_n 1, 1, 0, 0, .null)] (by decide +kernel) [(0, .ref 20), (1, .long a1), (3, .long a3), (5, .int a5)] [.long a1] σ rfl rfl ⟨trivial, trivial⟩ rfl ?_
    refine aw_pick [0, 2, 3] [(0, .ref 20), (3, .long a3), (5, .int a5)] rfl ?_
    exact Jc12 a3 a5 a1 σ hF
  · have hF := (if_neg h).symm.trans hF
    refine aw_run (pc' := 8) hC [(.lload_n 1, 1, 0, 0, .null), (.lneg, 1, 0, 0, .null)] (by decide +kernel) [(0, .ref 20), (1, .long a1), (3, .long a3), (5, .int a5)] [.long (-a1)] σ rfl rfl ⟨trivial, trivial, trivial⟩ rfl ?_
    refine aw_goto (off := 4) hC 12 (by decide +kernel) (by decide) ?_
    refine aw_pick [0, 2, 3] [(0, .ref 20), (3, .long a3), (5, .int a5)] rfl ?_
    exact Jc12 a3 a5 (-a1) σ hF
def f_mo_layHeld_c17_s (N : Nat) (kc6 : Int32 → Int32 → Int32 → Sg → Option Sg) (kc17 : Int32 → Int32 → Int32 → Int32 → Sg → Option Sg) (a1 : Int32) (a2 : Int32) (a3 : Int32) (a4 : Int32) (σ : Sg) : Option Sg := if (σ.1 20 2) ≤ a4 then (kc6 a1 a2 (a3 + 1) σ) else (if ib a3 8 then if (σ.1 23 a3.toNatClampNeg) = 0 then (if ib a4 8 then if (σ.1 23 a4.toNatClampNeg) = 0 then (if a1 < (σ.1 22 a3.toNatClampNeg) then (kc17 a1 a2 a3 (a4 + 1) σ) else (if a1 ≤ (σ.1 22 a4.toNatClampNeg) then (if ((σ.1 22 a4.toNatClampNeg) - (σ.1 22 a3.toNatClampNeg)).toInt64 = 0 then ((f_mo_bound σ a3 (1 + a2)).bind fun q8 => if a2 = 1 then (nm (f_mo_look σ q8.toInt64 1 1) fun q10 => kc17 a1 a2 a3 (a4 + 1) q10) else (nm (f_mo_look σ q8.toInt64 1 0) fun q9 => kc17 a1 a2 a3 (a4 + 1) q9)) else ((f_mo_bound σ a3 (1 + a2)).bind fun q4 => (f_mo_bound σ a4 (1 + a2)).bind fun q5 => if a2 = 1 then (nm (f_mo_look σ ((q4.toInt64 * (((σ.1 22 a4.toNatClampNeg) - (σ.1 22 a3.toNatClampNeg)).toInt64 - (a1 - (σ.1 22 a3.toNatClampNeg)).toInt64)) + (q5.toInt64 * (a1 - (σ.1 22 a3.toNatClampNeg)).toInt64)) ((σ.1 22 a4.toNatClampNeg) - (σ.1 22 a3.toNatClampNeg)).toInt64 1) fun q7 => kc17 a1 a2 a3 (a4 + 1) q7) else (nm (f_mo_look σ ((q4.toInt64 * (((σ.1 22 a4.toNatClampNeg) - (σ.1 22 a3.toNatClampNeg)).toInt64 - (a1 - (σ.1 22 a3.toNatClampNeg)).toInt64)) + (q5.toInt64 * (a1 - (σ.1 22 a3.toNatClampNeg)).toInt64)) ((σ.1 22 a4.toNatClampNeg) - (σ.1 22 a3.toNatClampNeg)).toInt64 0) fun q6 => kc17 a1 a2 a3 (a4 + 1) q6))) else (kc17 a1 a2 a3 (a4 + 1) σ))) else (kc17 a1 a2 a3 (a4 + 1) σ) else none) else (kc17 a1 a2 a3 (a4 + 1) σ) else none)
def f_mo_layHeld_c17 (N : Nat) (kc6 : Int32 → Int32 → Int32 → Sg → Option Sg) : Nat → Int32 → Int32 → Int32 → Int32 → Sg → Option Sg
  | 0 => fun _ _ _ _ _ => none
  | n + 1 => f_mo_layHeld_c17_s N kc6 (f_mo_layHeld_c17 N kc6 n)
def f_mo_layHeld_c6_s (N : Nat) (kc6 : Int32 → Int32 → Int32 → Sg → Option Sg) (a1 : Int32) (a2 : Int32) (a3 : Int32) (σ : Sg) : Option Sg := if (σ.1 20 2) ≤ a3 then (some σ) else (f_mo_layHeld_c17 N kc6 N a1 a2 a3 0 σ)
def f_mo_layHeld_c6 (N : Nat) : Nat → Int32 → Int32 → Int32 → Sg → Option Sg
  | 0 => fun _ _ _ _ => none
  | n + 1 => f_mo_layHeld_c6_s N (f_mo_layHeld_c6 N n)
def f_mo_layHeld (N : Nat) (σ : Sg) (a1 : Int32) (a2 : Int32) : Option Sg := nm (f_mo_begins σ) fun q1 => f_mo_layHeld_c6 N N a1 a2 0 q1
def rm_mo_layHeld : Room := { frames := 1, cells := 0, slots := 0, locals := 31 }
set_option maxHeartbeats 4000000 in
set_option maxRecDepth 100000 in
theorem c_mo_layHeld (N : Nat) (σ : Sg) (a1 : Int32) (a2 : Int32) (z : Sg) (hF : f_mo_layHeld N σ a1 a2 = some z) : Ctr yX7_layHeld cX7_layHeld 9 none rm_mo_layHeld [.ref 20, .int a1, .int a2] σ none z := by
  refine ct_start 7 (by decide) rfl (fun ad => Nat.le_of_ble_eq_true rfl) [(0, .ref 20), (1, .int a1), (2, .int a2)] (fun ad => rfl) ?_
  intro p l e s m args below meth c D ad tc A hC hA hr
  have Jc17 : ∀ (kc6 : Int32 → Int32 → Int32 → Sg → Option Sg) (Hc6 : ∀ (a1 : Int32) (a2 : Int32) (a3 : Int32) (σ : Sg), kc6 a1 a2 a3 σ = some z → AW p l e rm_mo_layHeld s m args below meth c D ad tc 9 A s.heap 0 0 (MQ below (Qr none D ad tc z A) args s 0 0 A) 6 [(0, .ref 20), (1, .int a1), (2, .int a2), (3, .int a3)] [] σ) (n : Nat) (a1 : Int32) (a2 : Int32) (a3 : Int32) (a4 : Int32) (σ : Sg), f_mo_layHeld_c17 N kc6 n a1 a2 a3 a4 σ = some z → AW p l e rm_mo_layHeld s m args below meth c D ad tc 9 A s.heap 0 0 (MQ below (Qr none D ad tc z A) args s 0 0 A) 17 [(0, .ref 20), (1, .int a1), (2, .int a2), (3, .int a3), (4, .int a4)] [] σ := by
    intro kc6 Hc6 n
    induction n with
    | zero =>
      intro a1 a2 a3 a4 σ hF
      cases hF
    | succ n ih =>
      intro a1 a2 a3 a4 σ hF
      have hF : f_mo_layHeld_c17_s N kc6 (f_mo_layHeld_c17 N kc6 n) a1 a2 a3 a4 σ = some z := hF
      unfold f_mo_layHeld_c17_s at hF
      refine aw_run (pc' := 23) hC [(.iload 4, 2, 0, 0, .null), (.aload_n 0, 1, 0, 0, .null), (.getfield 98, 3, 7, 2, .null)] (by decide +kernel) [(0, .ref 20), (1, .int a1), (2, .int a2), (3, .int a3), (4, .int a4)] [.int (σ.1 20 2), .int a4] σ rfl rfl ⟨trivial, trivial, trivial, trivial⟩ rfl ?_
      refine aw_icmp_ge (off := 159) hC 182 (by decide +kernel) (by decide) (fun h => ?_) (fun h => ?_)
      · have hF := (if_pos h).symm.trans hF
        refine aw_run (pc' := 185) hC [(.iinc 3 1, 3, 0, 0, .int 1)] (by decide +kernel) [(0, .ref 20), (1, .int a1), (2, .int a2), (3, .int (a3 + 1)), (4, .int a4)] [] σ rfl rfl ⟨trivial, trivial⟩ rfl ?_
        refine aw_goto (off := -179) hC 6 (by decide +kernel) (by decide) ?_
        refine aw_pick [0, 1, 2, 3] [(0, .ref 20), (1, .int a1), (2, .int a2), (3, .int (a3 + 1))] rfl ?_
        exact Hc6 a1 a2 (a3 + 1) σ hF
      · have hF := (if_neg h).symm.trans hF
        obtain ⟨g2, hF⟩ := gd hF
        refine aw_run (pc' := 32) hC [(.aload_n 0, 1, 0, 0, .null), (.getfield 16, 3, 7, 4, .null), (.iload_n 3, 1, 0, 0, .null), (.baload, 1, 0, 0, .null)] (by decide +kernel) [(0, .ref 20), (1, .int a1), (2, .int a2), (3, .int a3), (4, .int a4)] [.int (σ.1 23 a3.toNatClampNeg)] σ rfl rfl ⟨trivial, trivial, trivial, g2, trivial⟩ rfl ?_
        refine aw_if_ne (off := 144) hC 176 Iff.rfl (by decide +kernel) (by decide) (fun h => ?_) (fun h => ?_)
        · have hF := (if_neg h).symm.trans hF
          refine aw_run (pc' := 179) hC [(.iinc 4 1, 3, 0, 0, .int 1)] (by decide +kernel) [(0, .ref 20), (1, .int a1), (2, .int a2), (3, .int a3), (4, .int (a4 + 1))] [] σ rfl rfl ⟨trivial, trivial⟩ rfl ?_
          refine aw_goto (off := -162) hC 17 (by decide +kernel) (by decide) ?_
          exact ih a1 a2 a3 (a4 + 1) σ hF
        · have hF := (if_pos h).symm.trans hF
          obtain ⟨g3, hF⟩ := gd hF
          refine aw_run (pc' := 42) hC [(.aload_n 0, 1, 0, 0, .null), (.getfield 16, 3, 7, 4, .null), (.iload 4, 2, 0, 0, .null), (.baload, 1, 0, 0, .null)] (by decide +kernel) [(0, .ref 20), (1, .int a1), (2, .int a2), (3, .int a3), (4, .int a4)] [.int (σ.1 23 a4.toNatClampNeg)] σ rfl rfl ⟨trivial, trivial, trivial, g3, trivial⟩ rfl ?_
          refine aw_if_ne (off := 134) hC 176 Iff.rfl (by decide +kernel) (by decide) (fun h => ?_) (fun h => ?_)
          · have hF := (if_neg h).symm.trans hF
            refine aw_run (pc' := 179) hC [(.iinc 4 1, 3, 0, 0, .int 1)] (by decide +kernel) [(0, .ref 20), (1, .int a1), (2, .int a2), (3, .int a3), (4, .int (a4 + 1))] [] σ rfl rfl ⟨trivial, trivial⟩ rfl ?_
            refine aw_goto (off := -162) hC 17 (by decide +kernel) (by decide) ?_
            exact ih a1 a2 a3 (a4 + 1) σ hF
          · have hF := (if_pos h).symm.trans hF
            refine aw_run (pc' := 52) hC [(.aload_n 0, 1, 0, 0, .null), (.getfield 13, 3, 7, 3, .null), (.iload_n 3, 1, 0, 0, .null), (.iaload, 1, 0, 0, .null), (.iload_n 1, 1, 0, 0, .null)] (by decide +kernel) [(0, .ref 20), (1, .int a1), (2, .int a2), (3, .int a3), (4, .int a4)] [.int a1, .int (σ.1 22 a3.toNatClampNeg)] σ rfl rfl ⟨trivial, trivial, trivial, g2, trivial, trivial⟩ rfl ?_
            refine aw_icmp_gt (off := 124) hC 176 (by decide +kernel) (by decide) (fun h => ?_) (fun h => ?_)
            · have hF := (if_pos h).symm.trans hF
              refine aw_run (pc' := 179) hC [(.iinc 4 1, 3, 0, 0, .int 1)] (by decide +kernel) [(0, .ref 20), (1, .int a1), (2, .int a2), (3, .int a3), (4, .int (a4 + 1))] [] σ rfl rfl ⟨trivial, trivial⟩ rfl ?_
              refine aw_goto (off := -162) hC 17 (by decide +kernel) (by decide) ?_
              exact ih a1 a2 a3 (a4 + 1) σ hF
            · have hF := (if_neg h).symm.trans hF
              refine aw_run (pc' := 63) hC [(.aload_n 0, 1, 0, 0, .null), (.getfield 13, 3, 7, 3, .null), (.iload 4, 2, 0, 0, .null), (.iaload, 1, 0, 0, .null), (.iload_n 1, 1, 0, 0, .null)] (by decide +kernel) [(0, .ref 20), (1, .int a1), (2, .int a2), (3, .int a3), (4, .int a4)] [.int a1, .int (σ.1 22 a4.toNatClampNeg)] σ rfl rfl ⟨trivial, trivial, trivial, g3, trivial, trivial⟩ rfl ?_
              refine aw_icmp_ge (off := 6) hC 69 (by decide +kernel) (by decide) (fun h => ?_) (fun h => ?_)
              · have hF := (if_pos h).symm.trans hF
                refine aw_run (pc' := 101) hC [(.aload_n 0, 1, 0, 0, .null), (.getfield 13, 3, 7, 3, .null), (.iload 4, 2, 0, 0, .null), (.iaload, 1, 0, 0, .null), (.aload_n 0, 1, 0, 0, .null), (.getfield 13, 3, 7, 3, .null), (.iload_n 3, 1, 0, 0, .null), (.iaload, 1, 0, 0, .null), (.isub, 1, 0, 0, .null), (.i2l, 1, 0, 0, .null), (.lstore 5, 2, 0, 0, .null), (.iload_n 1, 1, 0, 0, .null), (.aload_n 0, 1, 0, 0, .null), (.getfield 13, 3, 7, 3, .null), (.iload_n 3, 1, 0, 0, .null), (.iaload, 1, 0, 0, .null), (.isub, 1, 0, 0, .null), (.i2l, 1, 0, 0, .null), (.lstore 7, 2, 0, 0, .null), (.lload 5, 2, 0, 0, .null), (.lconst 0, 1, 0, 0, .long 0), (.lcmp, 1, 0, 0, .null)] (by decide +kernel) [(0, .ref 20), (1, .int a1), (2, .int a2), (3, .int a3), (4, .int a4), (5, .long ((σ.1 22 a4.toNatClampNeg) - (σ.1 22 a3.toNatClampNeg)).toInt64), (7, .long (a1 - (σ.1 22 a3.toNatClampNeg)).toInt64)] [.int (lg_cmp ((σ.1 22 a4.toNatClampNeg) - (σ.1 22 a3.toNatClampNeg)).toInt64 0)] σ rfl rfl ⟨trivial, trivial, trivial, g3, trivial, trivial, trivial, g2, trivial, trivial, trivial, trivial, trivial, trivial, trivial, g2, trivial, trivial, trivial, trivial, trivial, trivial, trivial⟩ rfl ?_
                refine aw_if_ne (off := 30) hC 131 (lc_eq _ _) (by decide +kernel) (by decide) (fun h => ?_) (fun h => ?_)
                · have hF := (if_neg h).symm.trans hF
                  refine aw_run (pc' := 137) hC [(.aload_n 0, 1, 0, 0, .null), (.aload_n 0, 1, 0, 0, .null), (.iload_n 3, 1, 0, 0, .null), (.iconst 1, 1, 0, 0, .int 1), (.iload_n 2, 1, 0, 0, .null), (.iadd, 1, 0, 0, .null)] (by decide +kernel) [(0, .ref 20), (1, .int a1), (2, .int a2), (3, .int a3), (4, .int a4), (5, .long ((σ.1 22 a4.toNatClampNeg) - (σ.1 22 a3.toNatClampNeg)).toInt64), (7, .long (a1 - (σ.1 22 a3.toNatClampNeg)).toInt64)] [.int (1 + a2), .int a3, .ref 20, .ref 20] σ rfl rfl ⟨trivial, trivial, trivial, trivial, trivial, trivial, trivial⟩ rfl ?_
                  obtain ⟨q4, eq4, hF⟩ := bd hF
                  refine aw_callV hC hA (rest := [.ref 20]) (c_mo_bound σ a3 (1 + a2) q4 eq4) mt_X7_bound ln_7_118 (by decide +kernel) ⟨_, rfl⟩ rfl rfl (Nat.le_of_ble_eq_true rfl) ⟨⟨rfl, rfl⟩, Nat.le_of_ble_eq_true rfl, Nat.le_of_ble_eq_true rfl⟩ ⟨Nat.zero_le _, Nat.zero_le _⟩ rfl ?_
                  refine aw_run (pc' := 153) hC [(.i2l, 1, 0, 0, .null), (.lload 5, 2, 0, 0, .null), (.lload 7, 2, 0, 0, .null), (.lsub, 1, 0, 0, .null), (.lmul, 1, 0, 0, .null), (.aload_n 0, 1, 0, 0, .null), (.iload 4, 2, 0, 0, .null), (.iconst 1, 1, 0, 0, .int 1), (.iload_n 2, 1, 0, 0, .null), (.iadd, 1, 0, 0, .null)] (by decide +kernel) [(0, .ref 20), (1, .int a1), (2, .int a2), (3, .int a3), (4, .int a4), (5, .long ((σ.1 22 a4.toNatClampNeg) - (σ.1 22 a3.toNatClampNeg)).toInt64), (7, .long (a1 - (σ.1 22 a3.toNatClampNeg)).toInt64)] [.int (1 + a2), .int a4, .ref 20, .long (q4.toInt64 * (((σ.1 22 a4.toNatClampNeg) - (σ.1 22 a3.toNatClampNeg)).toInt64 - (a1 - (σ.1 22 a3.toNatClampNeg)).toInt64)), .ref 20] σ rfl rfl ⟨trivial, trivial, trivial, trivial, trivial, trivial, trivial, trivial, trivial, trivial, trivial⟩ rfl ?_
                  obtain ⟨q5, eq5, hF⟩ := bd hF
                  refine aw_callV hC hA (rest := [.long (q4.toInt64 * (((σ.1 22 a4.toNatClampNeg) - (σ.1 22 a3.toNatClampNeg)).toInt64 - (a1 - (σ.1 22 a3.toNatClampNeg)).toInt64)), .ref 20]) (c_mo_bound σ a4 (1 + a2) q5 eq5) mt_X7_bound ln_7_118 (by decide +kernel) ⟨_, rfl⟩ rfl rfl (Nat.le_of_ble_eq_true rfl) ⟨⟨rfl, rfl⟩, Nat.le_of_ble_eq_true rfl, Nat.le_of_ble_eq_true rfl⟩ ⟨Nat.zero_le _, Nat.zero_le _⟩ rfl ?_
                  refine aw_run (pc' := 165) hC [(.i2l, 1, 0, 0, .null), (.lload 7, 2, 0, 0, .null), (.lmul, 1, 0, 0, .null), (.ladd, 1, 0, 0, .null), (.lload 5, 2, 0, 0, .null), (.iload_n 2, 1, 0, 0, .null), (.iconst 1, 1, 0, 0, .int 1)] (by decide +kernel) [(0, .ref 20), (1, .int a1), (2, .int a2), (3, .int a3), (4, .int a4), (5, .long ((σ.1 22 a4.toNatClampNeg) - (σ.1 22 a3.toNatClampNeg)).toInt64), (7, .long (a1 - (σ.1 22 a3.toNatClampNeg)).toInt64)] [.int 1, .int a2, .long ((σ.1 22 a4.toNatClampNeg) - (σ.1 22 a3.toNatClampNeg)).toInt64, .long ((q4.toInt64 * (((σ.1 22 a4.toNatClampNeg) - (σ.1 22 a3.toNatClampNeg)).toInt64 - (a1 - (σ.1 22 a3.toNatClampNeg)).toInt64)) + (q5.toInt64 * (a1 - (σ.1 22 a3.toNatClampNeg)).toInt64)), .ref 20] σ rfl rfl ⟨trivial, trivial, trivial, trivial, trivial, trivial, trivial, trivial⟩ rfl ?_
                  refine aw_icmp_ne (off := 7) hC 172 (by decide +kernel) (by decide) (fun h => ?_) (fun h => ?_)
                  · have hF := (if_neg h).symm.trans hF
                    refine aw_run (pc' := 173) hC [(.iconst 0, 1, 0, 0, .int 0)] (by decide +kernel) [(0, .ref 20), (1, .int a1), (2, .int a2), (3, .int a3), (4, .int a4), (5, .long ((σ.1 22 a4.toNatClampNeg) - (σ.1 22 a3.toNatClampNeg)).toInt64), (7, .long (a1 - (σ.1 22 a3.toNatClampNeg)).toInt64)] [.int 0, .long ((σ.1 22 a4.toNatClampNeg) - (σ.1 22 a3.toNatClampNeg)).toInt64, .long ((q4.toInt64 * (((σ.1 22 a4.toNatClampNeg) - (σ.1 22 a3.toNatClampNeg)).toInt64 - (a1 - (σ.1 22 a3.toNatClampNeg)).toInt64)) + (q5.toInt64 * (a1 - (σ.1 22 a3.toNatClampNeg)).toInt64)), .ref 20] σ rfl rfl ⟨trivial, trivial⟩ rfl ?_
                    obtain ⟨q6, eq6, hF⟩ := nmd hF
                    refine aw_callV hC hA (rest := []) (c_mo_look σ ((q4.toInt64 * (((σ.1 22 a4.toNatClampNeg) - (σ.1 22 a3.toNatClampNeg)).toInt64 - (a1 - (σ.1 22 a3.toNatClampNeg)).toInt64)) + (q5.toInt64 * (a1 - (σ.1 22 a3.toNatClampNeg)).toInt64)) ((σ.1 22 a4.toNatClampNeg) - (σ.1 22 a3.toNatClampNeg)).toInt64 0 q6 eq6) mt_X7_look ln_7_222 (by decide +kernel) ⟨_, rfl⟩ rfl rfl (Nat.le_of_ble_eq_true rfl) ⟨⟨rfl, rfl⟩, Nat.le_of_ble_eq_true rfl, Nat.le_of_ble_eq_true rfl⟩ ⟨Nat.zero_le _, Nat.zero_le _⟩ rfl ?_
                    refine aw_run (pc' := 179) hC [(.iinc 4 1, 3, 0, 0, .int 1)] (by decide +kernel) [(0, .ref 20), (1, .int a1), (2, .int a2), (3, .int a3), (4, .int (a4 + 1)), (5, .long ((σ.1 22 a4.toNatClampNeg) - (σ.1 22 a3.toNatClampNeg)).toInt64), (7, .long (a1 - (σ.1 22 a3.toNatClampNeg)).toInt64)] [] q6 rfl rfl ⟨trivial, trivial⟩ rfl ?_
                    refine aw_goto (off := -162) hC 17 (by decide +kernel) (by decide) ?_
                    refine aw_pick [0, 1, 2, 3, 4] [(0, .ref 20), (1, .int a1), (2, .int a2), (3, .int a3), (4, .int (a4 + 1))] rfl ?_
                    exact ih a1 a2 a3 (a4 + 1) q6 hF
                  · have hF := (if_pos h).symm.trans hF
                    refine aw_run (pc' := 169) hC [(.iconst 1, 1, 0, 0, .int 1)] (by decide +kernel) [(0, .ref 20), (1, .int a1), (2, .int a2), (3, .int a3), (4, .int a4), (5, .long ((σ.1 22 a4.toNatClampNeg) - (σ.1 22 a3.toNatClampNeg)).toInt64), (7, .long (a1 - (σ.1 22 a3.toNatClampNeg)).toInt64)] [.int 1, .long ((σ.1 22 a4.toNatClampNeg) - (σ.1 22 a3.toNatClampNeg)).toInt64, .long ((q4.toInt64 * (((σ.1 22 a4.toNatClampNeg) - (σ.1 22 a3.toNatClampNeg)).toInt64 - (a1 - (σ.1 22 a3.toNatClampNeg)).toInt64)) + (q5.toInt64 * (a1 - (σ.1 22 a3.toNatClampNeg)).toInt64)), .ref 20] σ rfl rfl ⟨trivial, trivial⟩ rfl ?_
                    refine aw_goto (off := 4) hC 173 (by decide +kernel) (by decide) ?_
                    obtain ⟨q7, eq7, hF⟩ := nmd hF
                    refine aw_callV hC hA (rest := []) (c_mo_look σ ((q4.toInt64 * (((σ.1 22 a4.toNatClampNeg) - (σ.1 22 a3.toNatClampNeg)).toInt64 - (a1 - (σ.1 22 a3.toNatClampNeg)).toInt64)) + (q5.toInt64 * (a1 - (σ.1 22 a3.toNatClampNeg)).toInt64)) ((σ.1 22 a4.toNatClampNeg) - (σ.1 22 a3.toNatClampNeg)).toInt64 1 q7 eq7) mt_X7_look ln_7_222 (by decide +kernel) ⟨_, rfl⟩ rfl rfl (Nat.le_of_ble_eq_true rfl) ⟨⟨rfl, rfl⟩, Nat.le_of_ble_eq_true rfl, Nat.le_of_ble_eq_true rfl⟩ ⟨Nat.zero_le _, Nat.zero_le _⟩ rfl ?_
                    refine aw_run (pc' := 179) hC [(.iinc 4 1, 3, 0, 0, .int 1)] (by decide +kernel) [(0, .ref 20), (1, .int a1), (2, .int a2), (3, .int a3), (4, .int (a4 + 1)), (5, .long ((σ.1 22 a4.toNatClampNeg) - (σ.1 22 a3.toNatClampNeg)).toInt64), (7, .long (a1 - (σ.1 22 a3.toNatClampNeg)).toInt64)] [] q7 rfl rfl ⟨trivial, trivial⟩ rfl ?_
                    refine aw_goto (off := -162) hC 17 (by decide +kernel) (by decide) ?_
                    refine aw_pick [0, 1, 2, 3, 4] [(0, .ref 20), (1, .int a1), (2, .int a2), (3, .int a3), (4, .int (a4 + 1))] rfl ?_
                    exact ih a1 a2 a3 (a4 + 1) q7 hF
                · have hF := (if_pos h).symm.trans hF
                  refine aw_run (pc' := 110) hC [(.aload_n 0, 1, 0, 0, .null), (.aload_n 0, 1, 0, 0, .null), (.iload_n 3, 1, 0, 0, .null), (.iconst 1, 1, 0, 0, .int 1), (.iload_n 2, 1, 0, 0, .null), (.iadd, 1, 0, 0, .null)] (by decide +kernel) [(0, .ref 20), (1, .int a1), (2, .int a2), (3, .int a3), (4, .int a4), (5, .long ((σ.1 22 a4.toNatClampNeg) - (σ.1 22 a3.toNatClampNeg)).toInt64), (7, .long (a1 - (σ.1 22 a3.toNatClampNeg)).toInt64)] [.int (1 + a2), .int a3, .ref 20, .ref 20] σ rfl rfl ⟨trivial, trivial, trivial, trivial, trivial, trivial, trivial⟩ rfl ?_
                  obtain ⟨q8, eq8, hF⟩ := bd hF
                  refine aw_callV hC hA (rest := [.ref 20]) (c_mo_bound σ a3 (1 + a2) q8 eq8) mt_X7_bound ln_7_118 (by decide +kernel) ⟨_, rfl⟩ rfl rfl (Nat.le_of_ble_eq_true rfl) ⟨⟨rfl, rfl⟩, Nat.le_of_ble_eq_true rfl, Nat.le_of_ble_eq_true rfl⟩ ⟨Nat.zero_le _, Nat.zero_le _⟩ rfl ?_
                  refine aw_run (pc' := 117) hC [(.i2l, 1, 0, 0, .null), (.lconst 1, 1, 0, 0, .long 1), (.iload_n 2, 1, 0, 0, .null), (.iconst 1, 1, 0, 0, .int 1)] (by decide +kernel) [(0, .ref 20), (1, .int a1), (2, .int a2), (3, .int a3), (4, .int a4), (5, .long ((σ.1 22 a4.toNatClampNeg) - (σ.1 22 a3.toNatClampNeg)).toInt64), (7, .long (a1 - (σ.1 22 a3.toNatClampNeg)).toInt64)] [.int 1, .int a2, .long 1, .long q8.toInt64, .ref 20] σ rfl rfl ⟨trivial, trivial, trivial, trivial, trivial⟩ rfl ?_
                  refine aw_icmp_ne (off := 7) hC 124 (by decide +kernel) (by decide) (fun h => ?_) (fun h => ?_)
                  · have hF := (if_neg h).symm.trans hF
                    refine aw_run (pc' := 125) hC [(.iconst 0, 1, 0, 0, .int 0)] (by decide +kernel) [(0, .ref 20), (1, .int a1), (2, .int a2), (3, .int a3), (4, .int a4), (5, .long ((σ.1 22 a4.toNatClampNeg) - (σ.1 22 a3.toNatClampNeg)).toInt64), (7, .long (a1 - (σ.1 22 a3.toNatClampNeg)).toInt64)] [.int 0, .long 1, .long q8.toInt64, .ref 20] σ rfl rfl ⟨trivial, trivial⟩ rfl ?_
                    obtain ⟨q9, eq9, hF⟩ := nmd hF
                    refine aw_callV hC hA (rest := []) (c_mo_look σ q8.toInt64 1 0 q9 eq9) mt_X7_look ln_7_222 (by decide +kernel) ⟨_, rfl⟩ rfl rfl (Nat.le_of_ble_eq_true rfl) ⟨⟨rfl, rfl⟩, Nat.le_of_ble_eq_true rfl, Nat.le_of_ble_eq_true rfl⟩ ⟨Nat.zero_le _, Nat.zero_le _⟩ rfl ?_
                    refine aw_goto (off := 48) hC 176 (by decide +kernel) (by decide) ?_
                    refine aw_run (pc' := 179) hC [(.iinc 4 1, 3, 0, 0, .int 1)] (by decide +kernel) [(0, .ref 20), (1, .int a1), (2, .int a2), (3, .int a3), (4, .int (a4 + 1)), (5, .long ((σ.1 22 a4.toNatClampNeg) - (σ.1 22 a3.toNatClampNeg)).toInt64), (7, .long (a1 - (σ.1 22 a3.toNatClampNeg)).toInt64)] [] q9 rfl rfl ⟨trivial, trivial⟩ rfl ?_
                    refine aw_goto (off := -162) hC 17 (by decide +kernel) (by decide) ?_
                    refine aw_pick [0, 1, 2, 3, 4] [(0, .ref 20), (1, .int a1), (2, .int a2), (3, .int a3), (4, .int (a4 + 1))] rfl ?_
                    exact ih a1 a2 a3 (a4 + 1) q9 hF
                  · have hF := (if_pos h).symm.trans hF
                    refine aw_run (pc' := 121) hC [(.iconst 1, 1, 0, 0, .int 1)] (by decide +kernel) [(0, .ref 20), (1, .int a1), (2, .int a2), (3, .int a3), (4, .int a4), (5, .long ((σ.1 22 a4.toNatClampNeg) - (σ.1 22 a3.toNatClampNeg)).toInt64), (7, .long (a1 - (σ.1 22 a3.toNatClampNeg)).toInt64)] [.int 1, .long 1, .long q8.toInt64, .ref 20] σ rfl rfl ⟨trivial, trivial⟩ rfl ?_
                    refine aw_goto (off := 4) hC 125 (by decide +kernel) (by decide) ?_
                    obtain ⟨q10, eq10, hF⟩ := nmd hF
                    refine aw_callV hC hA (rest := []) (c_mo_look σ q8.toInt64 1 1 q10 eq10) mt_X7_look ln_7_222 (by decide +kernel) ⟨_, rfl⟩ rfl rfl (Nat.le_of_ble_eq_true rfl) ⟨⟨rfl, rfl⟩, Nat.le_of_ble_eq_true rfl, Nat.le_of_ble_eq_true rfl⟩ ⟨Nat.zero_le _, Nat.zero_le _⟩ rfl ?_
                    refine aw_goto (off := 48) hC 176 (by decide +kernel) (by decide) ?_
                    refine aw_run (pc' := 179) hC [(.iinc 4 1, 3, 0, 0, .int 1)] (by decide +kernel) [(0, .ref 20), (1, .int a1), (2, .int a2), (3, .int a3), (4, .int (a4 + 1)), (5, .long ((σ.1 22 a4.toNatClampNeg) - (σ.1 22 a3.toNatClampNeg)).toInt64), (7, .long (a1 - (σ.1 22 a3.toNatClampNeg)).toInt64)] [] q10 rfl rfl ⟨trivial, trivial⟩ rfl ?_
                    refine aw_goto (off := -162) hC 17 (by decide +kernel) (by decide) ?_
                    refine aw_pick [0, 1, 2, 3, 4] [(0, .ref 20), (1, .int a1), (2, .int a2), (3, .int a3), (4, .int (a4 + 1))] rfl ?_
                    exact ih a1 a2 a3 (a4 + 1) q10 hF
              · have hF := (if_neg h).symm.trans hF
                refine aw_goto (off := 110) hC 176 (by decide +kernel) (by decide) ?_
                refine aw_run (pc' := 179) hC [(.iinc 4 1, 3, 0, 0, .int 1)] (by decide +kernel) [(0, .ref 20), (1, .int a1), (2, .int a2), (3, .int a3), (4, .int (a4 + 1))] [] σ rfl rfl ⟨trivial, trivial⟩ rfl ?_
                refine aw_goto (off := -162) hC 17 (by decide +kernel) (by decide) ?_
                exact ih a1 a2 a3 (a4 + 1) σ hF
  have Jc6 : ∀ (n : Nat) (a1 : Int32) (a2 : Int32) (a3 : Int32) (σ : Sg), f_mo_layHeld_c6 N n a1 a2 a3 σ = some z → AW p l e rm_mo_layHeld s m args below meth c D ad tc 9 A s.heap 0 0 (MQ below (Qr none D ad tc z A) args s 0 0 A) 6 [(0, .ref 20), (1, .int a1), (2, .int a2), (3, .int a3)] [] σ := by
    intro n
    induction n with
    | zero =>
      intro a1 a2 a3 σ hF
      cases hF
    | succ n ih =>
      intro a1 a2 a3 σ hF
      have hF : f_mo_layHeld_c6_s N (f_mo_layHeld_c6 N n) a1 a2 a3 σ = some z := hF
      unfold f_mo_layHeld_c6_s at hF
      refine aw_run (pc' := 11) hC [(.iload_n 3, 1, 0, 0, .null), (.aload_n 0, 1, 0, 0, .null), (.getfield 98, 3, 7, 2, .null)] (by decide +kernel) [(0, .ref 20), (1, .int a1), (2, .int a2), (3, .int a3)] [.int (σ.1 20 2), .int a3] σ rfl rfl ⟨trivial, trivial, trivial, trivial⟩ rfl ?_
      refine aw_icmp_ge (off := 177) hC 188 (by decide +kernel) (by decide) (fun h => ?_) (fun h => ?_)
      · have hF := (if_pos h).symm.trans hF
        exact aw_vret hC hr (by decide +kernel)  (Option.some.inj hF)
      · have hF := (if_neg h).symm.trans hF
        refine aw_run (pc' := 17) hC [(.iconst 0, 1, 0, 0, .int 0), (.istore 4, 2, 0, 0, .null)] (by decide +kernel) [(0, .ref 20), (1, .int a1), (2, .int a2), (3, .int a3), (4, .int 0)] [] σ rfl rfl ⟨trivial, trivial, trivial⟩ rfl ?_
        exact Jc17 (f_mo_layHeld_c6 N n) ih N a1 a2 a3 0 σ hF
  unfold f_mo_layHeld at hF
  refine aw_run (pc' := 1) hC [(.aload_n 0, 1, 0, 0, .null)] (by decide +kernel) [(0, .ref 20), (1, .int a1), (2, .int a2)] [.ref 20] σ rfl rfl ⟨trivial, trivial⟩ rfl ?_
  obtain ⟨q1, eq1, hF⟩ := nmd hF
  refine aw_callV hC hA (rest := []) (c_mo_begins σ q1 eq1) mt_X7_begins ln_7_219 (by decide +kernel) ⟨_, rfl⟩ rfl rfl (Nat.le_of_ble_eq_true rfl) ⟨⟨rfl, rfl⟩, Nat.le_of_ble_eq_true rfl, Nat.le_of_ble_eq_true rfl⟩ ⟨Nat.zero_le _, Nat.zero_le _⟩ rfl ?_
  refine aw_run (pc' := 6) hC [(.iconst 0, 1, 0, 0, .int 0), (.istore_n 3, 1, 0, 0, .null)] (by decide +kernel) [(0, .ref 20), (1, .int a1), (2, .int a2), (3, .int 0)] [] q1 rfl rfl ⟨trivial, trivial, trivial⟩ rfl ?_
  exact Jc6 N a1 a2 0 q1 hF
def f_mo_common_c17_s (N : Nat) (kc17 : Int64 → Int64 → Option Int64) (a4 : Int64) (a6 : Int64) : Option Int64 := if a6 = 0 then (some a4) else (if ¬ a6 = 0 then kc17 a6 (a4 - a4 / a6 * a6) else none)
def f_mo_common_c17 (N : Nat) : Nat → Int64 → Int64 → Option Int64
  | 0 => fun _ _ => none
  | n + 1 => f_mo_common_c17_s N (f_mo_common_c17 N n)
def f_mo_common (N : Nat) (a0 : Int64) (a2 : Int64) : Option Int64 := if (0 : Int64) ≤ a0 then (f_mo_common_c17 N N a0 a2) else (f_mo_common_c17 N N (-a0) a2)
def rm_mo_common : Room := { frames := 0, cells := 0, slots := 0, locals := 0 }
set_option maxHeartbeats 4000000 in
set_option maxRecDepth 100000 in
theorem c_mo_common (N : Nat) (σ : Sg) (a0 : Int64) (a2 : Int64) (z : Int64) (hF : f_mo_common N a0 a2 = some z) : Ctr yX7_common cX7_common 10 (some .long) rm_mo_common [.long a0, .long a2] σ (some (.long z)) σ := by
  refine ct_start 7 (by decide) rfl (fun ad => Nat.le_of_ble_eq_true rfl) [(0, .long a0), (2, .long a2)] (fun ad => rfl) ?_
  intro p l e s m args below meth c D ad tc A hC hA hr
  have Jc17 : ∀ (n : Nat) (a4 : Int64) (a6 : Int64), f_mo_common_c17 N n a4 a6 = some z → AW p l e rm_mo_common s m args below meth c D ad tc 10 A s.heap 0 0 (MQ below (Qr (some (.long z)) D ad tc σ A) args s 0 0 A) 17 [(4, .long a4), (6, .long a6)] [] σ := by
    intro n
    induction n with
    | zero =>
      intro a4 a6 hF
      cases hF
    | succ n ih =>
      intro a4 a6 hF
      have hF : f_mo_common_c17_s N (f_mo_common_c17 N n) a4 a6 = some z := hF
      unfold f_mo_common_c17_s at hF
      refine aw_run (pc' := 21) hC [(.lload 6, 2, 0, 0, .null), (.lconst 0, 1, 0, 0, .long 0), (.lcmp, 1, 0, 0, .null)] (by decide +kernel) [(4, .long a4), (6, .long a6)] [.int (lg_cmp a6 0)] σ rfl rfl ⟨trivial, trivial, trivial, trivial⟩ rfl ?_
      refine aw_if_eq (off := 21) hC 42 (lc_eq _ _) (by decide +kernel) (by decide) (fun h => ?_) (fun h => ?_)
      · have hF := (if_pos h).symm.trans hF
        refine aw_run (pc' := 44) hC [(.lload 4, 2, 0, 0, .null)] (by decide +kernel) [(4, .long a4), (6, .long a6)] [.long a4] σ rfl rfl ⟨trivial, trivial⟩ rfl ?_
        exact aw_lret hC hr (by decide +kernel) (Option.some.inj hF) rfl
      · have hF := (if_neg h).symm.trans hF
        obtain ⟨g1, hF⟩ := gd hF
        refine aw_run (pc' := 39) hC [(.lload 4, 2, 0, 0, .null), (.lload 6, 2, 0, 0, .null), (.lrem, 1, 0, 0, .null), (.lstore 8, 2, 0, 0, .null), (.lload 6, 2, 0, 0, .null), (.lstore 4, 2, 0, 0, .null), (.lload 8, 2, 0, 0, .null), (.lstore 6, 2, 0, 0, .null)] (by decide +kernel) [(4, .long a6), (6, .long (a4 - a4 / a6 * a6)), (8, .long (a4 - a4 / a6 * a6))] [] σ rfl rfl ⟨trivial, trivial, g1, trivial, trivial, trivial, trivial, trivial, trivial⟩ rfl ?_
        refine aw_goto (off := -22) hC 17 (by decide +kernel) (by decide) ?_
        refine aw_pick [0, 1] [(4, .long a6), (6, .long (a4 - a4 / a6 * a6))] rfl ?_
        exact ih a6 (a4 - a4 / a6 * a6) hF
  unfold f_mo_common at hF
  refine aw_run (pc' := 3) hC [(.lload_n 0, 1, 0, 0, .null), (.lconst 0, 1, 0, 0, .long 0), (.lcmp, 1, 0, 0, .null)] (by decide +kernel) [(0, .long a0), (2, .long a2)] [.int (lg_cmp a0 0)] σ rfl rfl ⟨trivial, trivial, trivial, trivial⟩ rfl ?_
  refine aw_if_ge (off := 8) hC 11 (lc_ge _ _) (by decide +kernel) (by decide) (fun h => ?_) (fun h => ?_)
  · have hF := (if_pos h).symm.trans hF
    refine aw_run (pc' := 17) hC [(.lload_n 0, 1, 0, 0, .null), (.lstore 4, 2, 0, 0, .null), (.lload_n 2, 1, 0, 0, .null), (.lstore 6, 2, 0, 0, .null)] (by decide +kernel) [(0, .long a0), (2, .long a2), (4, .long a0), (6, .long a2)] [] σ rfl rfl ⟨trivial, trivial, trivial, trivial, trivial⟩ rfl ?_
    refine aw_pick [2, 3] [(4, .long a0), (6, .long a2)] rfl ?_
    exact Jc17 N a0 a2 hF
  · have hF := (if_neg h).symm.trans hF
    refine aw_run (pc' := 8) hC [(.lload_n 0, 1, 0, 0, .null), (.lneg, 1, 0, 0, .null)] (by decide +kernel) [(0, .long a0), (2, .long a2)] [.long (-a0)] σ rfl rfl ⟨trivial, trivial, trivial⟩ rfl ?_
    refine aw_goto (off := 4) hC 12 (by decide +kernel) (by decide) ?_
    refine aw_run (pc' := 17) hC [(.lstore 4, 2, 0, 0, .null), (.lload_n 2, 1, 0, 0, .null), (.lstore 6, 2, 0, 0, .null)] (by decide +kernel) [(0, .long a0), (2, .long a2), (4, .long (-a0)), (6, .long a2)] [] σ rfl rfl ⟨trivial, trivial, trivial, trivial⟩ rfl ?_
    refine aw_pick [2, 3] [(4, .long (-a0)), (6, .long a2)] rfl ?_
    exact Jc17 N (-a0) a2 hF
def f_mo_told (N : Nat) (σ : Sg) (a1 : Int32) : Option Int32 := (f_mo_common N (σ.2 20 22) (σ.2 20 23)).bind fun q1 => if a1 = 0 then (if ¬ q1 = 0 then some (((σ.2 20 22) / q1).toInt32) else none) else (if ¬ q1 = 0 then some (((σ.2 20 23) / q1).toInt32) else none)
def rm_mo_told : Room := { frames := 1, cells := 0, slots := 0, locals := 29 }
set_option maxHeartbeats 4000000 in
set_option maxRecDepth 100000 in
theorem c_mo_told (N : Nat) (σ : Sg) (a1 : Int32) (z : Int32) (hF : f_mo_told N σ a1 = some z) : Ctr yX7_told cX7_told 4 (some .int) rm_mo_told [.ref 20, .int a1] σ (some (.int z)) σ := by
  refine ct_start 7 (by decide) rfl (fun ad => Nat.le_of_ble_eq_true rfl) [(0, .ref 20), (1, .int a1)] (fun ad => rfl) ?_
  intro p l e s m args below meth c D ad tc A hC hA hr
  unfold f_mo_told at hF
  refine aw_run (pc' := 8) hC [(.aload_n 0, 1, 0, 0, .null), (.getfield 208, 3, 7, 22, .null), (.aload_n 0, 1, 0, 0, .null), (.getfield 212, 3, 7, 23, .null)] (by decide +kernel) [(0, .ref 20), (1, .int a1)] [.long (σ.2 20 23), .long (σ.2 20 22)] σ rfl rfl ⟨trivial, trivial, trivial, trivial, trivial⟩ rfl ?_
  obtain ⟨q1, eq1, hF⟩ := bd hF
  refine aw_callS hC hA (rest := []) (c_mo_common N σ (σ.2 20 22) (σ.2 20 23) q1 eq1) mt_X7_common ln_7_215 (by decide +kernel) rfl rfl (Nat.le_of_ble_eq_true rfl) ⟨⟨rfl, rfl⟩, Nat.le_of_ble_eq_true rfl, Nat.le_of_ble_eq_true rfl⟩ ⟨Nat.zero_le _, Nat.zero_le _⟩ rfl ?_
  refine aw_run (pc' := 13) hC [(.lstore_n 2, 1, 0, 0, .null), (.iload_n 1, 1, 0, 0, .null)] (by decide +kernel) [(0, .ref 20), (1, .int a1), (2, .long q1)] [.int a1] σ rfl rfl ⟨trivial, trivial, trivial⟩ rfl ?_
  refine aw_if_ne (off := 12) hC 25 Iff.rfl (by decide +kernel) (by decide) (fun h => ?_) (fun h => ?_)
  · have hF := (if_neg h).symm.trans hF
    obtain ⟨g2, hF⟩ := gd hF
    refine aw_run (pc' := 32) hC [(.aload_n 0, 1, 0, 0, .null), (.getfield 212, 3, 7, 23, .null), (.lload_n 2, 1, 0, 0, .null), (.ldiv, 1, 0, 0, .null), (.l2i, 1, 0, 0, .null)] (by decide +kernel) [(0, .ref 20), (1, .int a1), (2, .long q1)] [.int ((σ.2 20 23) / q1).toInt32] σ rfl rfl ⟨trivial, trivial, trivial, g2, trivial, trivial⟩ rfl ?_
    exact aw_iret hC hr (by decide +kernel) (Option.some.inj hF) rfl
  · have hF := (if_pos h).symm.trans hF
    obtain ⟨g3, hF⟩ := gd hF
    refine aw_run (pc' := 22) hC [(.aload_n 0, 1, 0, 0, .null), (.getfield 208, 3, 7, 22, .null), (.lload_n 2, 1, 0, 0, .null), (.ldiv, 1, 0, 0, .null)] (by decide +kernel) [(0, .ref 20), (1, .int a1), (2, .long q1)] [.long ((σ.2 20 22) / q1)] σ rfl rfl ⟨trivial, trivial, trivial, g3, trivial⟩ rfl ?_
    refine aw_goto (off := 9) hC 31 (by decide +kernel) (by decide) ?_
    refine aw_run (pc' := 32) hC [(.l2i, 1, 0, 0, .null)] (by decide +kernel) [(0, .ref 20), (1, .int a1), (2, .long q1)] [.int ((σ.2 20 22) / q1).toInt32] σ rfl rfl ⟨trivial, trivial⟩ rfl ?_
    exact aw_iret hC hr (by decide +kernel) (Option.some.inj hF) rfl
def f_mo_heldNow (N : Nat) (σ : Sg) (a1 : Int32) (a2 : Int32) (a3 : Int32) : Option (Int32 × Sg) := (f_mo_layHeld N σ a1 a2).bind fun q1 => if (q1.1 20 21) = 0 then (some (-100000006, q1)) else ((f_mo_told N q1 a3).bind fun q2 => some (q2, q1))
def rm_mo_heldNow : Room := { frames := 2, cells := 0, slots := 0, locals := 59 }
set_option maxHeartbeats 4000000 in
set_option maxRecDepth 100000 in
theorem c_mo_heldNow (N : Nat) (σ : Sg) (a1 : Int32) (a2 : Int32) (a3 : Int32) (z : Int32 × Sg) (hF : f_mo_heldNow N σ a1 a2 a3 = some z) : Ctr yX7_heldNow cX7_heldNow 4 (some .int) rm_mo_heldNow [.ref 20, .int a1, .int a2, .int a3] σ (some (.int z.1)) z.2 := by
  refine ct_start 7 (by decide) rfl (fun ad => Nat.le_of_ble_eq_true rfl) [(0, .ref 20), (1, .int a1), (2, .int a2), (3, .int a3)] (fun ad => rfl) ?_
  intro p l e s m args below meth c D ad tc A hC hA hr
  unfold f_mo_heldNow at hF
  refine aw_run (pc' := 3) hC [(.aload_n 0, 1, 0, 0, .null), (.iload_n 1, 1, 0, 0, .null), (.iload_n 2, 1, 0, 0, .null)] (by decide +kernel) [(0, .ref 20), (1, .int a1), (2, .int a2), (3, .int a3)] [.int a2, .int a1, .ref 20] σ rfl rfl ⟨trivial, trivial, trivial, trivial⟩ rfl ?_
  obtain ⟨q1, eq1, hF⟩ := bd hF
  refine aw_callV hC hA (rest := []) (c_mo_layHeld N σ a1 a2 q1 eq1) mt_X7_layHeld ln_7_226 (by decide +kernel) ⟨_, rfl⟩ rfl rfl (Nat.le_of_ble_eq_true rfl) ⟨⟨rfl, rfl⟩, Nat.le_of_ble_eq_true rfl, Nat.le_of_ble_eq_true rfl⟩ ⟨Nat.zero_le _, Nat.zero_le _⟩ rfl ?_
  refine aw_run (pc' := 10) hC [(.aload_n 0, 1, 0, 0, .null), (.getfield 205, 3, 7, 21, .null)] (by decide +kernel) [(0, .ref 20), (1, .int a1), (2, .int a2), (3, .int a3)] [.int (q1.1 20 21)] q1 rfl rfl ⟨trivial, trivial, trivial⟩ rfl ?_
  refine aw_if_eq (off := 11) hC 21 Iff.rfl (by decide +kernel) (by decide) (fun h => ?_) (fun h => ?_)
  · have hF := (if_pos h).symm.trans hF
    refine aw_run (pc' := 23) hC [(.ldc 233, 2, 0, 0, .int (-100000006))] (by decide +kernel) [(0, .ref 20), (1, .int a1), (2, .int a2), (3, .int a3)] [.int (-100000006)] q1 rfl rfl ⟨trivial, trivial⟩ rfl ?_
    exact aw_iret hC hr (by decide +kernel) (pS1 hF) (pS2 hF)
  · have hF := (if_neg h).symm.trans hF
    refine aw_run (pc' := 15) hC [(.aload_n 0, 1, 0, 0, .null), (.iload_n 3, 1, 0, 0, .null)] (by decide +kernel) [(0, .ref 20), (1, .int a1), (2, .int a2), (3, .int a3)] [.int a3, .ref 20] q1 rfl rfl ⟨trivial, trivial, trivial⟩ rfl ?_
    obtain ⟨q2, eq2, hF⟩ := bd hF
    refine aw_callV hC hA (rest := []) (c_mo_told N q1 a3 q2 eq2) mt_X7_told ln_7_230 (by decide +kernel) ⟨_, rfl⟩ rfl rfl (Nat.le_of_ble_eq_true rfl) ⟨⟨rfl, rfl⟩, Nat.le_of_ble_eq_true rfl, Nat.le_of_ble_eq_true rfl⟩ ⟨Nat.zero_le _, Nat.zero_le _⟩ rfl ?_
    refine aw_goto (off := 5) hC 23 (by decide +kernel) (by decide) ?_
    exact aw_iret hC hr (by decide +kernel) (pS1 hF) (pS2 hF)
def f_mo_holds (N : Nat) (σ : Sg) (a1 : Int32) (a2 : Int32) (a3 : Int32) : Option (Int32 × Sg) := if (f_mo_isAsk a1 a2 a3) = 0 then (some (-100000003, σ)) else ((f_mo_fit N σ).bind fun q1 => if q1 = 0 then (some (-100000004, σ)) else ((f_mo_heldNow N σ a1 a2 a3).bind fun q2 => some (q2.1, q2.2)))
def rm_mo_holds : Room := { frames := 4, cells := 0, slots := 0, locals := 99 }
set_option maxHeartbeats 4000000 in
set_option maxRecDepth 100000 in
theorem c_mo_holds (N : Nat) (σ : Sg) (a1 : Int32) (a2 : Int32) (a3 : Int32) (z : Int32 × Sg) (hF : f_mo_holds N σ a1 a2 a3 = some z) : Ctr yX7_holds cX7_holds 4 (some .int) rm_mo_holds [.ref 20, .int a1, .int a2, .int a3] σ (some (.int z.1)) z.2 := by
  refine ct_start 7 (by decide) rfl (fun ad => Nat.le_of_ble_eq_true rfl) [(0, .ref 20), (1, .int a1), (2, .int a2), (3, .int a3)] (fun ad => rfl) ?_
  intro p l e s m args below meth c D ad tc A hC hA hr
  unfold f_mo_holds at hF
  refine aw_run (pc' := 3) hC [(.iload_n 1, 1, 0, 0, .null), (.iload_n 2, 1, 0, 0, .null), (.iload_n 3, 1, 0, 0, .null)] (by decide +kernel) [(0, .ref 20), (1, .int a1), (2, .int a2), (3, .int a3)] [.int a3, .int a2, .int a1] σ rfl rfl ⟨trivial, trivial, trivial, trivial⟩ rfl ?_
  refine aw_callS hC hA (rest := []) (c_mo_isAsk σ a1 a2 a3 _ rfl) mt_X7_isAsk ln_7_234 (by decide +kernel) rfl rfl (Nat.le_of_ble_eq_true rfl) ⟨⟨rfl, rfl⟩, Nat.le_of_ble_eq_true rfl, Nat.le_of_ble_eq_true rfl⟩ ⟨Nat.zero_le _, Nat.zero_le _⟩ rfl ?_
  refine aw_if_ne (off := 6) hC 12 Iff.rfl (by decide +kernel) (by decide) (fun h => ?_) (fun h => ?_)
  · have hF := (if_neg h).symm.trans hF
    refine aw_run (pc' := 13) hC [(.aload_n 0, 1, 0, 0, .null)] (by decide +kernel) [(0, .ref 20), (1, .int a1), (2, .int a2), (3, .int a3)] [.ref 20] σ rfl rfl ⟨trivial, trivial⟩ rfl ?_
    obtain ⟨q1, eq1, hF⟩ := bd hF
    refine aw_callV hC hA (rest := []) (c_mo_fit N σ q1 eq1) mt_X7_fit ln_7_151 (by decide +kernel) ⟨_, rfl⟩ rfl rfl (Nat.le_of_ble_eq_true rfl) ⟨⟨rfl, rfl⟩, Nat.le_of_ble_eq_true rfl, Nat.le_of_ble_eq_true rfl⟩ ⟨Nat.zero_le _, Nat.zero_le _⟩ rfl ?_
    refine aw_if_eq (off := 13) hC 29 Iff.rfl (by decide +kernel) (by decide) (fun h => ?_) (fun h => ?_)
    · have hF := (if_pos h).symm.trans hF
      refine aw_run (pc' := 31) hC [(.ldc 105, 2, 0, 0, .int (-100000004))] (by decide +kernel) [(0, .ref 20), (1, .int a1), (2, .int a2), (3, .int a3)] [.int (-100000004)] σ rfl rfl ⟨trivial, trivial⟩ rfl ?_
      exact aw_iret hC hr (by decide +kernel) (pS1 hF) (pS2 hF)
    · have hF := (if_neg h).symm.trans hF
      refine aw_run (pc' := 23) hC [(.aload_n 0, 1, 0, 0, .null), (.iload_n 1, 1, 0, 0, .null), (.iload_n 2, 1, 0, 0, .null), (.iload_n 3, 1, 0, 0, .null)] (by decide +kernel) [(0, .ref 20), (1, .int a1), (2, .int a2), (3, .int a3)] [.int a3, .int a2, .int a1, .ref 20] σ rfl rfl ⟨trivial, trivial, trivial, trivial, trivial⟩ rfl ?_
      obtain ⟨q2, eq2, hF⟩ := bd hF
      refine aw_callV hC hA (rest := []) (c_mo_heldNow N σ a1 a2 a3 q2 eq2) mt_X7_heldNow ln_7_237 (by decide +kernel) ⟨_, rfl⟩ rfl rfl (Nat.le_of_ble_eq_true rfl) ⟨⟨rfl, rfl⟩, Nat.le_of_ble_eq_true rfl, Nat.le_of_ble_eq_true rfl⟩ ⟨Nat.zero_le _, Nat.zero_le _⟩ rfl ?_
      refine aw_goto (off := 5) hC 31 (by decide +kernel) (by decide) ?_
      exact aw_iret hC hr (by decide +kernel) (pS1 hF) (pS2 hF)
  · have hF := (if_pos h).symm.trans hF
    refine aw_run (pc' := 11) hC [(.ldc 54, 2, 0, 0, .int (-100000003))] (by decide +kernel) [(0, .ref 20), (1, .int a1), (2, .int a2), (3, .int a3)] [.int (-100000003)] σ rfl rfl ⟨trivial, trivial⟩ rfl ?_
    exact aw_iret hC hr (by decide +kernel) (pS1 hF) (pS2 hF)
def f_mo_hits_c4_s (N : Nat) (kc4 : Int32 → Int32 → Sg → Option Int32) (a1 : Int32) (a2 : Int32) (σ : Sg) : Option Int32 := if (σ.1 20 2) ≤ a2 then (some a1) else (if ib a2 8 then if (σ.1 23 a2.toNatClampNeg) = 0 then (kc4 (a1 + 1) (a2 + 1) σ) else (kc4 (a1 + 0) (a2 + 1) σ) else none)
def f_mo_hits_c4 (N : Nat) : Nat → Int32 → Int32 → Sg → Option Int32
  | 0 => fun _ _ _ => none
  | n + 1 => f_mo_hits_c4_s N (f_mo_hits_c4 N n)
def f_mo_hits (N : Nat) (σ : Sg) : Option Int32 := f_mo_hits_c4 N N 0 0 σ
def rm_mo_hits : Room := { frames := 0, cells := 0, slots := 0, locals := 0 }
set_option maxHeartbeats 4000000 in
set_option maxRecDepth 100000 in
theorem c_mo_hits (N : Nat) (σ : Sg) (z : Int32) (hF : f_mo_hits N σ = some z) : Ctr yX7_hits cX7_hits 3 (some .int) rm_mo_hits [.ref 20] σ (some (.int z)) σ := by
  refine ct_start 7 (by decide) rfl (fun ad => Nat.le_of_ble_eq_true rfl) [(0, .ref 20)] (fun ad => rfl) ?_
  intro p l e s m args below meth c D ad tc A hC hA hr
  have Jc4 : ∀ (n : Nat) (a1 : Int32) (a2 : Int32), f_mo_hits_c4 N n a1 a2 σ = some z → AW p l e rm_mo_hits s m args below meth c D ad tc 3 A s.heap 0 0 (MQ below (Qr (some (.int z)) D ad tc σ A) args s 0 0 A) 4 [(0, .ref 20), (1, .int a1), (2, .int a2)] [] σ := by
    intro n
    induction n with
    | zero =>
      intro a1 a2 hF
      cases hF
    | succ n ih =>
      intro a1 a2 hF
      have hF : f_mo_hits_c4_s N (f_mo_hits_c4 N n) a1 a2 σ = some z := hF
      unfold f_mo_hits_c4_s at hF
      refine aw_run (pc' := 9) hC [(.iload_n 2, 1, 0, 0, .null), (.aload_n 0, 1, 0, 0, .null), (.getfield 98, 3, 7, 2, .null)] (by decide +kernel) [(0, .ref 20), (1, .int a1), (2, .int a2)] [.int (σ.1 20 2), .int a2] σ rfl rfl ⟨trivial, trivial, trivial, trivial⟩ rfl ?_
      refine aw_icmp_ge (off := 26) hC 35 (by decide +kernel) (by decide) (fun h => ?_) (fun h => ?_)
      · have hF := (if_pos h).symm.trans hF
        refine aw_run (pc' := 36) hC [(.iload_n 1, 1, 0, 0, .null)] (by decide +kernel) [(0, .ref 20), (1, .int a1), (2, .int a2)] [.int a1] σ rfl rfl ⟨trivial, trivial⟩ rfl ?_
        exact aw_iret hC hr (by decide +kernel) (Option.some.inj hF) rfl
      · have hF := (if_neg h).symm.trans hF
        obtain ⟨g1, hF⟩ := gd hF
        refine aw_run (pc' := 19) hC [(.iload_n 1, 1, 0, 0, .null), (.aload_n 0, 1, 0, 0, .null), (.getfield 16, 3, 7, 4, .null), (.iload_n 2, 1, 0, 0, .null), (.baload, 1, 0, 0, .null)] (by decide +kernel) [(0, .ref 20), (1, .int a1), (2, .int a2)] [.int (σ.1 23 a2.toNatClampNeg), .int a1] σ rfl rfl ⟨trivial, trivial, trivial, trivial, g1, trivial⟩ rfl ?_
        refine aw_if_eq (off := 7) hC 26 Iff.rfl (by decide +kernel) (by decide) (fun h => ?_) (fun h => ?_)
        · have hF := (if_pos h).symm.trans hF
          refine aw_run (pc' := 32) hC [(.iconst 1, 1, 0, 0, .int 1), (.iadd, 1, 0, 0, .null), (.istore_n 1, 1, 0, 0, .null), (.iinc 2 1, 3, 0, 0, .int 1)] (by decide +kernel) [(0, .ref 20), (1, .int (a1 + 1)), (2, .int (a2 + 1))] [] σ rfl rfl ⟨trivial, trivial, trivial, trivial, trivial⟩ rfl ?_
          refine aw_goto (off := -28) hC 4 (by decide +kernel) (by decide) ?_
          exact ih (a1 + 1) (a2 + 1) hF
        · have hF := (if_neg h).symm.trans hF
          refine aw_run (pc' := 23) hC [(.iconst 0, 1, 0, 0, .int 0)] (by decide +kernel) [(0, .ref 20), (1, .int a1), (2, .int a2)] [.int 0, .int a1] σ rfl rfl ⟨trivial, trivial⟩ rfl ?_
          refine aw_goto (off := 4) hC 27 (by decide +kernel) (by decide) ?_
          refine aw_run (pc' := 32) hC [(.iadd, 1, 0, 0, .null), (.istore_n 1, 1, 0, 0, .null), (.iinc 2 1, 3, 0, 0, .int 1)] (by decide +kernel) [(0, .ref 20), (1, .int (a1 + 0)), (2, .int (a2 + 1))] [] σ rfl rfl ⟨trivial, trivial, trivial, trivial⟩ rfl ?_
          refine aw_goto (off := -28) hC 4 (by decide +kernel) (by decide) ?_
          exact ih (a1 + 0) (a2 + 1) hF
  unfold f_mo_hits at hF
  refine aw_run (pc' := 4) hC [(.iconst 0, 1, 0, 0, .int 0), (.istore_n 1, 1, 0, 0, .null), (.iconst 0, 1, 0, 0, .int 0), (.istore_n 2, 1, 0, 0, .null)] (by decide +kernel) [(0, .ref 20), (1, .int 0), (2, .int 0)] [] σ rfl rfl ⟨trivial, trivial, trivial, trivial, trivial⟩ rfl ?_
  exact Jc4 N 0 0 hF
def f_mo_canReach (N : Nat) (σ : Sg) : Option Int32 := (f_mo_hits N σ).bind fun q1 => if q1 ≤ 0 then (some 0) else ((f_mo_fit N σ).bind fun q2 => if q2 = 0 then (some 0) else (some 1))
def rm_mo_canReach : Room := { frames := 4, cells := 0, slots := 0, locals := 99 }
set_option maxHeartbeats 4000000 in
set_option maxRecDepth 100000 in
theorem c_mo_canReach (N : Nat) (σ : Sg) (z : Int32) (hF : f_mo_canReach N σ = some z) : Ctr yX7_canReach cX7_canReach 1 (some .boolean) rm_mo_canReach [.ref 20] σ (some (.int z)) σ := by
  refine ct_start 7 (by decide) rfl (fun ad => Nat.le_of_ble_eq_true rfl) [(0, .ref 20)] (fun ad => rfl) ?_
  intro p l e s m args below meth c D ad tc A hC hA hr
  unfold f_mo_canReach at hF
  refine aw_run (pc' := 1) hC [(.aload_n 0, 1, 0, 0, .null)] (by decide +kernel) [(0, .ref 20)] [.ref 20] σ rfl rfl ⟨trivial, trivial⟩ rfl ?_
  obtain ⟨q1, eq1, hF⟩ := bd hF
  refine aw_callV hC hA (rest := []) (c_mo_hits N σ q1 eq1) mt_X7_hits ln_7_253 (by decide +kernel) ⟨_, rfl⟩ rfl rfl (Nat.le_of_ble_eq_true rfl) ⟨⟨rfl, rfl⟩, Nat.le_of_ble_eq_true rfl, Nat.le_of_ble_eq_true rfl⟩ ⟨Nat.zero_le _, Nat.zero_le _⟩ rfl ?_
  refine aw_if_le (off := 14) hC 18 Iff.rfl (by decide +kernel) (by decide) (fun h => ?_) (fun h => ?_)
  · have hF := (if_pos h).symm.trans hF
    refine aw_run (pc' := 19) hC [(.iconst 0, 1, 0, 0, .int 0)] (by decide +kernel) [(0, .ref 20)] [.int 0] σ rfl rfl ⟨trivial, trivial⟩ rfl ?_
    exact aw_zret hC hr (Or.inl rfl) (by decide +kernel) (Option.some.inj hF) rfl
  · have hF := (if_neg h).symm.trans hF
    refine aw_run (pc' := 8) hC [(.aload_n 0, 1, 0, 0, .null)] (by decide +kernel) [(0, .ref 20)] [.ref 20] σ rfl rfl ⟨trivial, trivial⟩ rfl ?_
    obtain ⟨q2, eq2, hF⟩ := bd hF
    refine aw_callV hC hA (rest := []) (c_mo_fit N σ q2 eq2) mt_X7_fit ln_7_151 (by decide +kernel) ⟨_, rfl⟩ rfl rfl (Nat.le_of_ble_eq_true rfl) ⟨⟨rfl, rfl⟩, Nat.le_of_ble_eq_true rfl, Nat.le_of_ble_eq_true rfl⟩ ⟨Nat.zero_le _, Nat.zero_le _⟩ rfl ?_
    refine aw_if_eq (off := 7) hC 18 Iff.rfl (by decide +kernel) (by decide) (fun h => ?_) (fun h => ?_)
    · have hF := (if_pos h).symm.trans hF
      refine aw_run (pc' := 19) hC [(.iconst 0, 1, 0, 0, .int 0)] (by decide +kernel) [(0, .ref 20)] [.int 0] σ rfl rfl ⟨trivial, trivial⟩ rfl ?_
      exact aw_zret hC hr (Or.inl rfl) (by decide +kernel) (Option.some.inj hF) rfl
    · have hF := (if_neg h).symm.trans hF
      refine aw_run (pc' := 15) hC [(.iconst 1, 1, 0, 0, .int 1)] (by decide +kernel) [(0, .ref 20)] [.int 1] σ rfl rfl ⟨trivial, trivial⟩ rfl ?_
      refine aw_goto (off := 4) hC 19 (by decide +kernel) (by decide) ?_
      exact aw_zret hC hr (Or.inr rfl) (by decide +kernel) (Option.some.inj hF) rfl
def f_mo_isBarred_c15_s (N : Nat) (kc4 : Int32 → Int32 → Int32 → Sg → Option Int32) (kc15 : Int32 → Int32 → Int32 → Int32 → Sg → Option Int32) (a1 : Int32) (a2 : Int32) (a3 : Int32) (a4 : Int32) (σ : Sg) : Option Int32 := if (σ.1 20 2) ≤ a4 then (kc4 a1 a2 (a3 + 1) σ) else (if a2 = 0 then (if ib a3 8 then if (σ.1 23 a3.toNatClampNeg) = 0 then (kc15 a1 0 a3 (a4 + 1) σ) else (if ib a4 8 then if (σ.1 23 a4.toNatClampNeg) = 0 then (if (σ.1 22 a3.toNatClampNeg) = a1 then (kc15 a1 1 a3 (a4 + 1) σ) else (if (f_mo_isBetween (σ.1 22 a3.toNatClampNeg) (σ.1 22 a4.toNatClampNeg) a1) = 0 then (kc15 a1 0 a3 (a4 + 1) σ) else (kc15 a1 1 a3 (a4 + 1) σ))) else (kc15 a1 0 a3 (a4 + 1) σ) else none) else none) else (kc15 a1 1 a3 (a4 + 1) σ))
def f_mo_isBarred_c15 (N : Nat) (kc4 : Int32 → Int32 → Int32 → Sg → Option Int32) : Nat → Int32 → Int32 → Int32 → Int32 → Sg → Option Int32
  | 0 => fun _ _ _ _ _ => none
  | n + 1 => f_mo_isBarred_c15_s N kc4 (f_mo_isBarred_c15 N kc4 n)
def f_mo_isBarred_c4_s (N : Nat) (kc4 : Int32 → Int32 → Int32 → Sg → Option Int32) (a1 : Int32) (a2 : Int32) (a3 : Int32) (σ : Sg) : Option Int32 := if (σ.1 20 2) ≤ a3 then (if a2 = 0 ∨ a2 = 1 then some a2 else none) else (f_mo_isBarred_c15 N kc4 N a1 a2 a3 0 σ)
def f_mo_isBarred_c4 (N : Nat) : Nat → Int32 → Int32 → Int32 → Sg → Option Int32
  | 0 => fun _ _ _ _ => none
  | n + 1 => f_mo_isBarred_c4_s N (f_mo_isBarred_c4 N n)
def f_mo_isBarred (N : Nat) (σ : Sg) (a1 : Int32) : Option Int32 := f_mo_isBarred_c4 N N a1 0 0 σ
def rm_mo_isBarred : Room := { frames := 1, cells := 0, slots := 0, locals := 22 }
set_option maxHeartbeats 4000000 in
set_option maxRecDepth 100000 in
theorem c_mo_isBarred (N : Nat) (σ : Sg) (a1 : Int32) (z : Int32) (hF : f_mo_isBarred N σ a1 = some z) : Ctr yX7_isBarred cX7_isBarred 5 (some .boolean) rm_mo_isBarred [.ref 20, .int a1] σ (some (.int z)) σ := by
  refine ct_start 7 (by decide) rfl (fun ad => Nat.le_of_ble_eq_true rfl) [(0, .ref 20), (1, .int a1)] (fun ad => rfl) ?_
  intro p l e s m args below meth c D ad tc A hC hA hr
  have Jc15 : ∀ (kc4 : Int32 → Int32 → Int32 → Sg → Option Int32) (Hc4 : ∀ (a1 : Int32) (a2 : Int32) (a3 : Int32), kc4 a1 a2 a3 σ = some z → AW p l e rm_mo_isBarred s m args below meth c D ad tc 5 A s.heap 0 0 (MQ below (Qr (some (.int z)) D ad tc σ A) args s 0 0 A) 4 [(0, .ref 20), (1, .int a1), (2, .int a2), (3, .int a3)] [] σ) (n : Nat) (a1 : Int32) (a2 : Int32) (a3 : Int32) (a4 : Int32), f_mo_isBarred_c15 N kc4 n a1 a2 a3 a4 σ = some z → AW p l e rm_mo_isBarred s m args below meth c D ad tc 5 A s.heap 0 0 (MQ below (Qr (some (.int z)) D ad tc σ A) args s 0 0 A) 15 [(0, .ref 20), (1, .int a1), (2, .int a2), (3, .int a3), (4, .int a4)] [] σ := by
    intro kc4 Hc4 n
    induction n with
    | zero =>
      intro a1 a2 a3 a4 hF
      cases hF
    | succ n ih =>
      intro a1 a2 a3 a4 hF
      have hF : f_mo_isBarred_c15_s N kc4 (f_mo_isBarred_c15 N kc4 n) a1 a2 a3 a4 σ = some z := hF
      unfold f_mo_isBarred_c15_s at hF
      refine aw_run (pc' := 21) hC [(.iload 4, 2, 0, 0, .null), (.aload_n 0, 1, 0, 0, .null), (.getfield 98, 3, 7, 2, .null)] (by decide +kernel) [(0, .ref 20), (1, .int a1), (2, .int a2), (3, .int a3), (4, .int a4)] [.int (σ.1 20 2), .int a4] σ rfl rfl ⟨trivial, trivial, trivial, trivial⟩ rfl ?_
      refine aw_icmp_ge (off := 68) hC 89 (by decide +kernel) (by decide) (fun h => ?_) (fun h => ?_)
      · have hF := (if_pos h).symm.trans hF
        refine aw_run (pc' := 92) hC [(.iinc 3 1, 3, 0, 0, .int 1)] (by decide +kernel) [(0, .ref 20), (1, .int a1), (2, .int a2), (3, .int (a3 + 1)), (4, .int a4)] [] σ rfl rfl ⟨trivial, trivial⟩ rfl ?_
        refine aw_goto (off := -88) hC 4 (by decide +kernel) (by decide) ?_
        refine aw_pick [0, 1, 2, 3] [(0, .ref 20), (1, .int a1), (2, .int a2), (3, .int (a3 + 1))] rfl ?_
        exact Hc4 a1 a2 (a3 + 1) hF
      · have hF := (if_neg h).symm.trans hF
        refine aw_run (pc' := 25) hC [(.iload_n 2, 1, 0, 0, .null)] (by decide +kernel) [(0, .ref 20), (1, .int a1), (2, .int a2), (3, .int a3), (4, .int a4)] [.int a2] σ rfl rfl ⟨trivial, trivial⟩ rfl ?_
        refine aw_if_ne (off := 52) hC 77 Iff.rfl (by decide +kernel) (by decide) (fun h => ?_) (fun h => ?_)
        · have hF := (if_neg h).symm.trans hF
          refine aw_run (pc' := 78) hC [(.iconst 1, 1, 0, 0, .int 1)] (by decide +kernel) [(0, .ref 20), (1, .int a1), (2, .int a2), (3, .int a3), (4, .int a4)] [.int 1] σ rfl rfl ⟨trivial, trivial⟩ rfl ?_
          refine aw_goto (off := 4) hC 82 (by decide +kernel) (by decide) ?_
          refine aw_run (pc' := 86) hC [(.istore_n 2, 1, 0, 0, .null), (.iinc 4 1, 3, 0, 0, .int 1)] (by decide +kernel) [(0, .ref 20), (1, .int a1), (2, .int 1), (3, .int a3), (4, .int (a4 + 1))] [] σ rfl rfl ⟨trivial, trivial, trivial⟩ rfl ?_
          refine aw_goto (off := -71) hC 15 (by decide +kernel) (by decide) ?_
          exact ih a1 1 a3 (a4 + 1) hF
        · have hF := (if_pos h).symm.trans hF
          obtain ⟨g2, hF⟩ := gd hF
          refine aw_run (pc' := 34) hC [(.aload_n 0, 1, 0, 0, .null), (.getfield 16, 3, 7, 4, .null), (.iload_n 3, 1, 0, 0, .null), (.baload, 1, 0, 0, .null)] (by decide +kernel) [(0, .ref 20), (1, .int a1), (2, .int a2), (3, .int a3), (4, .int a4)] [.int (σ.1 23 a3.toNatClampNeg)] σ rfl rfl ⟨trivial, trivial, trivial, g2, trivial⟩ rfl ?_
          refine aw_if_eq (off := 47) hC 81 Iff.rfl (by decide +kernel) (by decide) (fun h => ?_) (fun h => ?_)
          · have hF := (if_pos h).symm.trans hF
            refine aw_run (pc' := 86) hC [(.iconst 0, 1, 0, 0, .int 0), (.istore_n 2, 1, 0, 0, .null), (.iinc 4 1, 3, 0, 0, .int 1)] (by decide +kernel) [(0, .ref 20), (1, .int a1), (2, .int 0), (3, .int a3), (4, .int (a4 + 1))] [] σ rfl rfl ⟨trivial, trivial, trivial, trivial⟩ rfl ?_
            refine aw_goto (off := -71) hC 15 (by decide +kernel) (by decide) ?_
            exact ih a1 0 a3 (a4 + 1) hF
          · have hF := (if_neg h).symm.trans hF
            obtain ⟨g3, hF⟩ := gd hF
            refine aw_run (pc' := 44) hC [(.aload_n 0, 1, 0, 0, .null), (.getfield 16, 3, 7, 4, .null), (.iload 4, 2, 0, 0, .null), (.baload, 1, 0, 0, .null)] (by decide +kernel) [(0, .ref 20), (1, .int a1), (2, .int a2), (3, .int a3), (4, .int a4)] [.int (σ.1 23 a4.toNatClampNeg)] σ rfl rfl ⟨trivial, trivial, trivial, g3, trivial⟩ rfl ?_
            refine aw_if_ne (off := 37) hC 81 Iff.rfl (by decide +kernel) (by decide) (fun h => ?_) (fun h => ?_)
            · have hF := (if_neg h).symm.trans hF
              refine aw_run (pc' := 86) hC [(.iconst 0, 1, 0, 0, .int 0), (.istore_n 2, 1, 0, 0, .null), (.iinc 4 1, 3, 0, 0, .int 1)] (by decide +kernel) [(0, .ref 20), (1, .int a1), (2, .int 0), (3, .int a3), (4, .int (a4 + 1))] [] σ rfl rfl ⟨trivial, trivial, trivial, trivial⟩ rfl ?_
              refine aw_goto (off := -71) hC 15 (by decide +kernel) (by decide) ?_
              exact ih a1 0 a3 (a4 + 1) hF
            · have hF := (if_pos h).symm.trans hF
              refine aw_run (pc' := 54) hC [(.aload_n 0, 1, 0, 0, .null), (.getfield 13, 3, 7, 3, .null), (.iload_n 3, 1, 0, 0, .null), (.iaload, 1, 0, 0, .null), (.iload_n 1, 1, 0, 0, .null)] (by decide +kernel) [(0, .ref 20), (1, .int a1), (2, .int a2), (3, .int a3), (4, .int a4)] [.int a1, .int (σ.1 22 a3.toNatClampNeg)] σ rfl rfl ⟨trivial, trivial, trivial, g2, trivial, trivial⟩ rfl ?_
              refine aw_icmp_eq (off := 23) hC 77 (by decide +kernel) (by decide) (fun h => ?_) (fun h => ?_)
              · have hF := (if_pos h).symm.trans hF
                refine aw_run (pc' := 78) hC [(.iconst 1, 1, 0, 0, .int 1)] (by decide +kernel) [(0, .ref 20), (1, .int a1), (2, .int a2), (3, .int a3), (4, .int a4)] [.int 1] σ rfl rfl ⟨trivial, trivial⟩ rfl ?_
                refine aw_goto (off := 4) hC 82 (by decide +kernel) (by decide) ?_
                refine aw_run (pc' := 86) hC [(.istore_n 2, 1, 0, 0, .null), (.iinc 4 1, 3, 0, 0, .int 1)] (by decide +kernel) [(0, .ref 20), (1, .int a1), (2, .int 1), (3, .int a3), (4, .int (a4 + 1))] [] σ rfl rfl ⟨trivial, trivial, trivial⟩ rfl ?_
                refine aw_goto (off := -71) hC 15 (by decide +kernel) (by decide) ?_
                exact ih a1 1 a3 (a4 + 1) hF
              · have hF := (if_neg h).symm.trans hF
                refine aw_run (pc' := 71) hC [(.aload_n 0, 1, 0, 0, .null), (.getfield 13, 3, 7, 3, .null), (.iload_n 3, 1, 0, 0, .null), (.iaload, 1, 0, 0, .null), (.aload_n 0, 1, 0, 0, .null), (.getfield 13, 3, 7, 3, .null), (.iload 4, 2, 0, 0, .null), (.iaload, 1, 0, 0, .null), (.iload_n 1, 1, 0, 0, .null)] (by decide +kernel) [(0, .ref 20), (1, .int a1), (2, .int a2), (3, .int a3), (4, .int a4)] [.int a1, .int (σ.1 22 a4.toNatClampNeg), .int (σ.1 22 a3.toNatClampNeg)] σ rfl rfl ⟨trivial, trivial, trivial, g2, trivial, trivial, trivial, g3, trivial, trivial⟩ rfl ?_
                refine aw_callS hC hA (rest := []) (c_mo_isBetween σ (σ.1 22 a3.toNatClampNeg) (σ.1 22 a4.toNatClampNeg) a1 _ rfl) mt_X7_isBetween ln_7_138 (by decide +kernel) rfl rfl (Nat.le_of_ble_eq_true rfl) ⟨⟨rfl, rfl⟩, Nat.le_of_ble_eq_true rfl, Nat.le_of_ble_eq_true rfl⟩ ⟨Nat.zero_le _, Nat.zero_le _⟩ rfl ?_
                refine aw_if_eq (off := 7) hC 81 Iff.rfl (by decide +kernel) (by decide) (fun h => ?_) (fun h => ?_)
                · have hF := (if_pos h).symm.trans hF
                  refine aw_run (pc' := 86) hC [(.iconst 0, 1, 0, 0, .int 0), (.istore_n 2, 1, 0, 0, .null), (.iinc 4 1, 3, 0, 0, .int 1)] (by decide +kernel) [(0, .ref 20), (1, .int a1), (2, .int 0), (3, .int a3), (4, .int (a4 + 1))] [] σ rfl rfl ⟨trivial, trivial, trivial, trivial⟩ rfl ?_
                  refine aw_goto (off := -71) hC 15 (by decide +kernel) (by decide) ?_
                  exact ih a1 0 a3 (a4 + 1) hF
                · have hF := (if_neg h).symm.trans hF
                  refine aw_run (pc' := 78) hC [(.iconst 1, 1, 0, 0, .int 1)] (by decide +kernel) [(0, .ref 20), (1, .int a1), (2, .int a2), (3, .int a3), (4, .int a4)] [.int 1] σ rfl rfl ⟨trivial, trivial⟩ rfl ?_
                  refine aw_goto (off := 4) hC 82 (by decide +kernel) (by decide) ?_
                  refine aw_run (pc' := 86) hC [(.istore_n 2, 1, 0, 0, .null), (.iinc 4 1, 3, 0, 0, .int 1)] (by decide +kernel) [(0, .ref 20), (1, .int a1), (2, .int 1), (3, .int a3), (4, .int (a4 + 1))] [] σ rfl rfl ⟨trivial, trivial, trivial⟩ rfl ?_
                  refine aw_goto (off := -71) hC 15 (by decide +kernel) (by decide) ?_
                  exact ih a1 1 a3 (a4 + 1) hF
  have Jc4 : ∀ (n : Nat) (a1 : Int32) (a2 : Int32) (a3 : Int32), f_mo_isBarred_c4 N n a1 a2 a3 σ = some z → AW p l e rm_mo_isBarred s m args below meth c D ad tc 5 A s.heap 0 0 (MQ below (Qr (some (.int z)) D ad tc σ A) args s 0 0 A) 4 [(0, .ref 20), (1, .int a1), (2, .int a2), (3, .int a3)] [] σ := by
    intro n
    induction n with
    | zero =>
      intro a1 a2 a3 hF
      cases hF
    | succ n ih =>
      intro a1 a2 a3 hF
      have hF : f_mo_isBarred_c4_s N (f_mo_isBarred_c4 N n) a1 a2 a3 σ = some z := hF
      unfold f_mo_isBarred_c4_s at hF
      refine aw_run (pc' := 9) hC [(.iload_n 3, 1, 0, 0, .null), (.aload_n 0, 1, 0, 0, .null), (.getfield 98, 3, 7, 2, .null)] (by decide +kernel) [(0, .ref 20), (1, .int a1), (2, .int a2), (3, .int a3)] [.int (σ.1 20 2), .int a3] σ rfl rfl ⟨trivial, trivial, trivial, trivial⟩ rfl ?_
      refine aw_icmp_ge (off := 86) hC 95 (by decide +kernel) (by decide) (fun h => ?_) (fun h => ?_)
      · have hF := (if_pos h).symm.trans hF
        refine aw_run (pc' := 96) hC [(.iload_n 2, 1, 0, 0, .null)] (by decide +kernel) [(0, .ref 20), (1, .int a1), (2, .int a2), (3, .int a3)] [.int a2] σ rfl rfl ⟨trivial, trivial⟩ rfl ?_
        obtain ⟨g1, hF⟩ := gd hF
        exact aw_zret hC hr g1 (by decide +kernel) (Option.some.inj hF) rfl
      · have hF := (if_neg h).symm.trans hF
        refine aw_run (pc' := 15) hC [(.iconst 0, 1, 0, 0, .int 0), (.istore 4, 2, 0, 0, .null)] (by decide +kernel) [(0, .ref 20), (1, .int a1), (2, .int a2), (3, .int a3), (4, .int 0)] [] σ rfl rfl ⟨trivial, trivial, trivial⟩ rfl ?_
        exact Jc15 (f_mo_isBarred_c4 N n) ih N a1 a2 a3 0 hF
  unfold f_mo_isBarred at hF
  refine aw_run (pc' := 4) hC [(.iconst 0, 1, 0, 0, .int 0), (.istore_n 2, 1, 0, 0, .null), (.iconst 0, 1, 0, 0, .int 0), (.istore_n 3, 1, 0, 0, .null)] (by decide +kernel) [(0, .ref 20), (1, .int a1), (2, .int 0), (3, .int 0)] [] σ rfl rfl ⟨trivial, trivial, trivial, trivial, trivial⟩ rfl ?_
  exact Jc4 N a1 0 0 hF
