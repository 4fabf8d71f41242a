def f_mo_fitsFor_c27_s (N : Nat) (kc15 : Int32 → Int32 → Int32 → Int32 → Sg → Option Int32) (kc27 : Int32 → Int32 → Int32 → Int32 → Int32 → Sg → Option Int32) (a1 : Int32) (a2 : Int32) (a3 : Int32) (a4 : Int32) (a5 : Int32) (σ : Sg) : Option Int32 := if (σ.1 20 2) ≤ a5 then (kc15 a1 a2 a3 (a4 + 1) σ) else ((f_mo_isHit σ a1 a3).bind fun q2 => if q2 = 0 then (kc15 a1 a2 a3 (a4 + 1) σ) else ((f_mo_isHit σ a1 a4).bind fun q3 => if q3 = 0 then (kc15 a1 a2 a3 (a4 + 1) σ) else (if ib a3 8 then if ib a4 8 then if (σ.1 22 a4.toNatClampNeg) ≤ (σ.1 22 a3.toNatClampNeg) then (kc15 a1 a2 a3 (a4 + 1) σ) else (if (f_mo_has a1 a5) = 0 then (kc27 a1 a2 a3 a4 (a5 + 1) σ) else (if ib a5 8 then if (f_mo_isBetween (σ.1 22 a5.toNatClampNeg) (σ.1 22 a3.toNatClampNeg) (σ.1 22 a4.toNatClampNeg)) = 0 then (kc27 a1 a2 a3 a4 (a5 + 1) σ) else (if a2 = 0 then (kc27 a1 0 a3 a4 (a5 + 1) σ) else (if (σ.1 23 a5.toNatClampNeg) = 0 then ((f_mo_letsBoth σ a3 a5 a4).bind fun q7 => if q7 = 0 then (kc27 a1 0 a3 a4 (a5 + 1) σ) else (kc27 a1 1 a3 a4 (a5 + 1) σ)) else (kc27 a1 0 a3 a4 (a5 + 1) σ))) else none)) else none else none)))
def f_mo_fitsFor_c27 (N : Nat) (kc15 : Int32 → Int32 → Int32 → Int32 → Sg → Option Int32) : Nat → Int32 → Int32 → Int32 → Int32 → Int32 → Sg → Option Int32
  | 0 => fun _ _ _ _ _ _ => none
  | n + 1 => f_mo_fitsFor_c27_s N kc15 (f_mo_fitsFor_c27 N kc15 n)
def f_mo_fitsFor_c15_s (N : Nat) (kc4 : Int32 → Int32 → Int32 → Sg → Option Int32) (kc15 : Int32 → Int32 → Int32 → Int32 → Sg → Option Int32) (a1 : Int32) (a2 : Int32) (a3 : Int32) (a4 : Int32) (σ : Sg) : Option Int32 := if (σ.1 20 2) ≤ a4 then (kc4 a1 a2 (a3 + 1) σ) else (f_mo_fitsFor_c27 N kc15 N a1 a2 a3 a4 0 σ)
def f_mo_fitsFor_c15 (N : Nat) (kc4 : Int32 → Int32 → Int32 → Sg → Option Int32) : Nat → Int32 → Int32 → Int32 → Int32 → Sg → Option Int32
  | 0 => fun _ _ _ _ _ => none
  | n + 1 => f_mo_fitsFor_c15_s N kc4 (f_mo_fitsFor_c15 N kc4 n)
def f_mo_fitsFor_c4_s (N : Nat) (kc4 : Int32 → Int32 → Int32 → Sg → Option Int32) (a1 : Int32) (a2 : Int32) (a3 : Int32) (σ : Sg) : Option Int32 := if (σ.1 20 2) ≤ a3 then (if a2 = 0 ∨ a2 = 1 then some a2 else none) else (f_mo_fitsFor_c15 N kc4 N a1 a2 a3 0 σ)
def f_mo_fitsFor_c4 (N : Nat) : Nat → Int32 → Int32 → Int32 → Sg → Option Int32
  | 0 => fun _ _ _ _ => none
  | n + 1 => f_mo_fitsFor_c4_s N (f_mo_fitsFor_c4 N n)
def f_mo_fitsFor (N : Nat) (σ : Sg) (a1 : Int32) : Option Int32 := f_mo_fitsFor_c4 N N a1 1 0 σ
def rm_mo_fitsFor : Room := { frames := 2, cells := 0, slots := 0, locals := 54 }
set_option maxHeartbeats 4000000 in
set_option maxRecDepth 100000 in
theorem c_mo_fitsFor (N : Nat) (σ : Sg) (a1 : Int32) (z : Int32) (hF : f_mo_fitsFor N σ a1 = some z) : Ctr yX7_fitsFor cX7_fitsFor 6 (some .boolean) rm_mo_fitsFor [.ref 20, .int a1] σ (some (.int z)) σ := by
  refine ct_start 7 (by decide) rfl (fun ad => Nat.le_of_ble_eq_true rfl) [(0, .ref 20), (1, .int a1)] (fun ad => rfl) ?_
  intro p l e s m args below meth c D ad tc A hC hA hr
  have Jc27 : ∀ (kc15 : Int32 → Int32 → Int32 → Int32 → Sg → Option Int32) (Hc15 : ∀ (a1 : Int32) (a2 : Int32) (a3 : Int32) (a4 : Int32), kc15 a1 a2 a3 a4 σ = some z → AW p l e rm_mo_fitsFor s m args below meth c D ad tc 6 A s.heap 0 0 (MQ below (Qr (some (.int z)) D ad tc σ A) args s 0 0 A) 15 [(0, .ref 20), (1, .int a1), (2, .int a2), (3, .int a3), (4, .int a4)] [] σ) (n : Nat) (a1 : Int32) (a2 : Int32) (a3 : Int32) (a4 : Int32) (a5 : Int32), f_mo_fitsFor_c27 N kc15 n a1 a2 a3 a4 a5 σ = some z → AW p l e rm_mo_fitsFor s m args below meth c D ad tc 6 A s.heap 0 0 (MQ below (Qr (some (.int z)) D ad tc σ A) args s 0 0 A) 27 [(0, .ref 20), (1, .int a1), (2, .int a2), (3, .int a3), (4, .int a4), (5, .int a5)] [] σ := by
    intro kc15 Hc15 n
    induction n with
    | zero =>
      intro a1 a2 a3 a4 a5 hF
      cases hF
    | succ n ih =>
      intro a1 a2 a3 a4 a5 hF
      have hF : f_mo_fitsFor_c27_s N kc15 (f_mo_fitsFor_c27 N kc15 n) a1 a2 a3 a4 a5 σ = some z := hF
      unfold f_mo_fitsFor_c27_s at hF
      refine aw_run (pc' := 33) hC [(.iload 5, 2, 0, 0, .null), (.aload_n 0, 1, 0, 0, .null), (.getfield 98, 3, 7, 2, .null)] (by decide +kernel) [(0, .ref 20), (1, .int a1), (2, .int a2), (3, .int a3), (4, .int a4), (5, .int a5)] [.int (σ.1 20 2), .int a5] σ rfl rfl ⟨trivial, trivial, trivial, trivial⟩ rfl ?_
      refine aw_icmp_ge (off := 111) hC 144 (by decide +kernel) (by decide) (fun h => ?_) (fun h => ?_)
      · have hF := (if_pos h).symm.trans hF
        refine aw_run (pc' := 147) hC [(.iinc 4 1, 3, 0, 0, .int 1)] (by decide +kernel) [(0, .ref 20), (1, .int a1), (2, .int a2), (3, .int a3), (4, .int (a4 + 1)), (5, .int a5)] [] σ rfl rfl ⟨trivial, trivial⟩ rfl ?_
        refine aw_goto (off := -132) hC 15 (by decide +kernel) (by decide) ?_
        refine aw_pick [0, 1, 2, 3, 4] [(0, .ref 20), (1, .int a1), (2, .int a2), (3, .int a3), (4, .int (a4 + 1))] rfl ?_
        exact Hc15 a1 a2 a3 (a4 + 1) hF
      · have hF := (if_neg h).symm.trans hF
        refine aw_run (pc' := 39) hC [(.aload_n 0, 1, 0, 0, .null), (.iload_n 1, 1, 0, 0, .null), (.iload_n 3, 1, 0, 0, .null)] (by decide +kernel) [(0, .ref 20), (1, .int a1), (2, .int a2), (3, .int a3), (4, .int a4), (5, .int a5)] [.int a3, .int a1, .ref 20] σ rfl rfl ⟨trivial, trivial, trivial, trivial⟩ rfl ?_
        obtain ⟨q2, eq2, hF⟩ := bd hF
        refine aw_callV hC hA (rest := []) (c_mo_isHit σ a1 a3 q2 eq2) mt_X7_isHit ln_7_135 (by decide +kernel) ⟨_, rfl⟩ rfl rfl (Nat.le_of_ble_eq_true rfl) ⟨⟨rfl, rfl⟩, Nat.le_of_ble_eq_true rfl, Nat.le_of_ble_eq_true rfl⟩ ⟨Nat.zero_le _, Nat.zero_le _⟩ rfl ?_
        refine aw_if_eq (off := 102) hC 144 Iff.rfl (by decide +kernel) (by decide) (fun h => ?_) (fun h => ?_)
        · have hF := (if_pos h).symm.trans hF
          refine aw_run (pc' := 147) hC [(.iinc 4 1, 3, 0, 0, .int 1)] (by decide +kernel) [(0, .ref 20), (1, .int a1), (2, .int a2), (3, .int a3), (4, .int (a4 + 1)), (5, .int a5)] [] σ rfl rfl ⟨trivial, trivial⟩ rfl ?_
          refine aw_goto (off := -132) hC 15 (by decide +kernel) (by decide) ?_
          refine aw_pick [0, 1, 2, 3, 4] [(0, .ref 20), (1, .int a1), (2, .int a2), (3, .int a3), (4, .int (a4 + 1))] rfl ?_
          exact Hc15 a1 a2 a3 (a4 + 1) hF
        · have hF := (if_neg h).symm.trans hF
          refine aw_run (pc' := 49) hC [(.aload_n 0, 1, 0, 0, .null), (.iload_n 1, 1, 0, 0, .null), (.iload 4, 2, 0, 0, .null)] (by decide +kernel) [(0, .ref 20), (1, .int a1), (2, .int a2), (3, .int a3), (4, .int a4), (5, .int a5)] [.int a4, .int a1, .ref 20] σ rfl rfl ⟨trivial, trivial, trivial, trivial⟩ rfl ?_
          obtain ⟨q3, eq3, hF⟩ := bd hF
          refine aw_callV hC hA (rest := []) (c_mo_isHit σ a1 a4 q3 eq3) mt_X7_isHit ln_7_135 (by decide +kernel) ⟨_, rfl⟩ rfl rfl (Nat.le_of_ble_eq_true rfl) ⟨⟨rfl, rfl⟩, Nat.le_of_ble_eq_true rfl, Nat.le_of_ble_eq_true rfl⟩ ⟨Nat.zero_le _, Nat.zero_le _⟩ rfl ?_
          refine aw_if_eq (off := 92) hC 144 Iff.rfl (by decide +kernel) (by decide) (fun h => ?_) (fun h => ?_)
          · have hF := (if_pos h).symm.trans hF
            refine aw_run (pc' := 147) hC [(.iinc 4 1, 3, 0, 0, .int 1)] (by decide +kernel) [(0, .ref 20), (1, .int a1), (2, .int a2), (3, .int a3), (4, .int (a4 + 1)), (5, .int a5)] [] σ rfl rfl ⟨trivial, trivial⟩ rfl ?_
            refine aw_goto (off := -132) hC 15 (by decide +kernel) (by decide) ?_
            refine aw_pick [0, 1, 2, 3, 4] [(0, .ref 20), (1, .int a1), (2, .int a2), (3, .int a3), (4, .int (a4 + 1))] rfl ?_
            exact Hc15 a1 a2 a3 (a4 + 1) hF
          · have hF := (if_neg h).symm.trans hF
            obtain ⟨g4, hF⟩ := gd hF
            obtain ⟨g5, hF⟩ := gd hF
            refine aw_run (pc' := 68) hC [(.aload_n 0, 1, 0, 0, .null), (.getfield 13, 3, 7, 3, .null), (.iload_n 3, 1, 0, 0, .null), (.iaload, 1, 0, 0, .null), (.aload_n 0, 1, 0, 0, .null), (.getfield 13, 3, 7, 3, .null), (.iload 4, 2, 0, 0, .null), (.iaload, 1, 0, 0, .null)] (by decide +kernel) [(0, .ref 20), (1, .int a1), (2, .int a2), (3, .int a3), (4, .int a4), (5, .int a5)] [.int (σ.1 22 a4.toNatClampNeg), .int (σ.1 22 a3.toNatClampNeg)] σ rfl rfl ⟨trivial, trivial, trivial, g4, trivial, trivial, trivial, g5, trivial⟩ rfl ?_
            refine aw_icmp_ge (off := 76) hC 144 (by decide +kernel) (by decide) (fun h => ?_) (fun h => ?_)
            · have hF := (if_pos h).symm.trans hF
              refine aw_run (pc' := 147) hC [(.iinc 4 1, 3, 0, 0, .int 1)] (by decide +kernel) [(0, .ref 20), (1, .int a1), (2, .int a2), (3, .int a3), (4, .int (a4 + 1)), (5, .int a5)] [] σ rfl rfl ⟨trivial, trivial⟩ rfl ?_
              refine aw_goto (off := -132) hC 15 (by decide +kernel) (by decide) ?_
              refine aw_pick [0, 1, 2, 3, 4] [(0, .ref 20), (1, .int a1), (2, .int a2), (3, .int a3), (4, .int (a4 + 1))] rfl ?_
              exact Hc15 a1 a2 a3 (a4 + 1) hF
            · have hF := (if_neg h).symm.trans hF
              refine aw_run (pc' := 74) hC [(.iload_n 1, 1, 0, 0, .null), (.iload 5, 2, 0, 0, .null)] (by decide +kernel) [(0, .ref 20), (1, .int a1), (2, .int a2), (3, .int a3), (4, .int a4), (5, .int a5)] [.int a5, .int a1] σ rfl rfl ⟨trivial, trivial, trivial⟩ rfl ?_
              refine aw_callS hC hA (rest := []) (c_mo_has σ a1 a5 _ rfl) mt_X7_has ln_7_131 (by decide +kernel) rfl rfl (Nat.le_of_ble_eq_true rfl) ⟨⟨rfl, rfl⟩, Nat.le_of_ble_eq_true rfl, Nat.le_of_ble_eq_true rfl⟩ ⟨Nat.zero_le _, Nat.zero_le _⟩ rfl ?_
              refine aw_if_eq (off := 61) hC 138 Iff.rfl (by decide +kernel) (by decide) (fun h => ?_) (fun h => ?_)
              · have hF := (if_pos h).symm.trans hF
                refine aw_run (pc' := 141) hC [(.iinc 5 1, 3, 0, 0, .int 1)] (by decide +kernel) [(0, .ref 20), (1, .int a1), (2, .int a2), (3, .int a3), (4, .int a4), (5, .int (a5 + 1))] [] σ rfl rfl ⟨trivial, trivial⟩ rfl ?_
                refine aw_goto (off := -114) hC 27 (by decide +kernel) (by decide) ?_
                exact ih a1 a2 a3 a4 (a5 + 1) hF
              · have hF := (if_neg h).symm.trans hF
                obtain ⟨g6, hF⟩ := gd hF
                refine aw_run (pc' := 100) hC [(.aload_n 0, 1, 0, 0, .null), (.getfield 13, 3, 7, 3, .null), (.iload 5, 2, 0, 0, .null), (.iaload, 1, 0, 0, .null), (.aload_n 0, 1, 0, 0, .null), (.getfield 13, 3, 7, 3, .null), (.iload_n 3, 1, 0, 0, .null), (.iaload, 1, 0, 0, .null), (.aload_n 0, 1, 0, 0, .null), (.getfield 13, 3, 7, 3, .null), (.iload 4, 2, 0, 0, .null), (.iaload, 1, 0, 0, .null)] (by decide +kernel) [(0, .ref 20), (1, .int a1), (2, .int a2), (3, .int a3), (4, .int a4), (5, .int a5)] [.int (σ.1 22 a4.toNatClampNeg), .int (σ.1 22 a3.toNatClampNeg), .int (σ.1 22 a5.toNatClampNeg)] σ rfl rfl ⟨trivial, trivial, trivial, g6, trivial, trivial, trivial, g4, trivial, trivial, trivial, g5, trivial⟩ rfl ?_
                refine aw_callS hC hA (rest := []) (c_mo_isBetween σ (σ.1 22 a5.toNatClampNeg) (σ.1 22 a3.toNatClampNeg) (σ.1 22 a4.toNatClampNeg) _ rfl) mt_X7_isBetween ln_7_138 (by decide +kernel) rfl rfl (Nat.le_of_ble_eq_true rfl) ⟨⟨rfl, rfl⟩, Nat.le_of_ble_eq_true rfl, Nat.le_of_ble_eq_true rfl⟩ ⟨Nat.zero_le _, Nat.zero_le _⟩ rfl ?_
                refine aw_if_eq (off := 35) hC 138 Iff.rfl (by decide +kernel) (by decide) (fun h => ?_) (fun h => ?_)
                · have hF := (if_pos h).symm.trans hF
                  refine aw_run (pc' := 141) hC [(.iinc 5 1, 3, 0, 0, .int 1)] (by decide +kernel) [(0, .ref 20), (1, .int a1), (2, .int a2), (3, .int a3), (4, .int a4), (5, .int (a5 + 1))] [] σ rfl rfl ⟨trivial, trivial⟩ rfl ?_
                  refine aw_goto (off := -114) hC 27 (by decide +kernel) (by decide) ?_
                  exact ih a1 a2 a3 a4 (a5 + 1) hF
                · have hF := (if_neg h).symm.trans hF
                  refine aw_run (pc' := 107) hC [(.iload_n 2, 1, 0, 0, .null)] (by decide +kernel) [(0, .ref 20), (1, .int a1), (2, .int a2), (3, .int a3), (4, .int a4), (5, .int a5)] [.int a2] σ rfl rfl ⟨trivial, trivial⟩ rfl ?_
                  refine aw_if_eq (off := 29) hC 136 Iff.rfl (by decide +kernel) (by decide) (fun h => ?_) (fun h => ?_)
                  · have hF := (if_pos h).symm.trans hF
                    refine aw_run (pc' := 141) hC [(.iconst 0, 1, 0, 0, .int 0), (.istore_n 2, 1, 0, 0, .null), (.iinc 5 1, 3, 0, 0, .int 1)] (by decide +kernel) [(0, .ref 20), (1, .int a1), (2, .int 0), (3, .int a3), (4, .int a4), (5, .int (a5 + 1))] [] σ rfl rfl ⟨trivial, trivial, trivial, trivial⟩ rfl ?_
                    refine aw_goto (off := -114) hC 27 (by decide +kernel) (by decide) ?_
                    exact ih a1 0 a3 a4 (a5 + 1) hF
                  · have hF := (if_neg h).symm.trans hF
                    refine aw_run (pc' := 117) hC [(.aload_n 0, 1, 0, 0, .null), (.getfield 16, 3, 7, 4, .null), (.iload 5, 2, 0, 0, .null), (.baload, 1, 0, 0, .null)] (by decide +kernel) [(0, .ref 20), (1, .int a1), (2, .int a2), (3, .int a3), (4, .int a4), (5, .int a5)] [.int (σ.1 23 a5.toNatClampNeg)] σ rfl rfl ⟨trivial, trivial, trivial, g6, trivial⟩ rfl ?_
                    refine aw_if_ne (off := 19) hC 136 Iff.rfl (by decide +kernel) (by decide) (fun h => ?_) (fun h => ?_)
                    · have hF := (if_neg h).symm.trans hF
                      refine aw_run (pc' := 141) hC [(.iconst 0, 1, 0, 0, .int 0), (.istore_n 2, 1, 0, 0, .null), (.iinc 5 1, 3, 0, 0, .int 1)] (by decide +kernel) [(0, .ref 20), (1, .int a1), (2, .int 0), (3, .int a3), (4, .int a4), (5, .int (a5 + 1))] [] σ rfl rfl ⟨trivial, trivial, trivial, trivial⟩ rfl ?_
                      refine aw_goto (off := -114) hC 27 (by decide +kernel) (by decide) ?_
                      exact ih a1 0 a3 a4 (a5 + 1) hF
                    · have hF := (if_pos h).symm.trans hF
                      refine aw_run (pc' := 126) hC [(.aload_n 0, 1, 0, 0, .null), (.iload_n 3, 1, 0, 0, .null), (.iload 5, 2, 0, 0, .null), (.iload 4, 2, 0, 0, .null)] (by decide +kernel) [(0, .ref 20), (1, .int a1), (2, .int a2), (3, .int a3), (4, .int a4), (5, .int a5)] [.int a4, .int a5, .int a3, .ref 20] σ rfl rfl ⟨trivial, trivial, trivial, trivial, trivial⟩ rfl ?_
                      obtain ⟨q7, eq7, hF⟩ := bd hF
                      refine aw_callV hC hA (rest := []) (c_mo_letsBoth σ a3 a5 a4 q7 eq7) mt_X7_letsBoth ln_7_142 (by decide +kernel) ⟨_, rfl⟩ rfl rfl (Nat.le_of_ble_eq_true rfl) ⟨⟨rfl, rfl⟩, Nat.le_of_ble_eq_true rfl, Nat.le_of_ble_eq_true rfl⟩ ⟨Nat.zero_le _, Nat.zero_le _⟩ rfl ?_
                      refine aw_if_eq (off := 7) hC 136 Iff.rfl (by decide +kernel) (by decide) (fun h => ?_) (fun h => ?_)
                      · have hF := (if_pos h).symm.trans hF
                        refine aw_run (pc' := 141) hC [(.iconst 0, 1, 0, 0, .int 0), (.istore_n 2, 1, 0, 0, .null), (.iinc 5 1, 3, 0, 0, .int 1)] (by decide +kernel) [(0, .ref 20), (1, .int a1), (2, .int 0), (3, .int a3), (4, .int a4), (5, .int (a5 + 1))] [] σ rfl rfl ⟨trivial, trivial, trivial, trivial⟩ rfl ?_
                        refine aw_goto (off := -114) hC 27 (by decide +kernel) (by decide) ?_
                        exact ih a1 0 a3 a4 (a5 + 1) hF
                      · have hF := (if_neg h).symm.trans hF
                        refine aw_run (pc' := 133) hC [(.iconst 1, 1, 0, 0, .int 1)] (by decide +kernel) [(0, .ref 20), (1, .int a1), (2, .int a2), (3, .int a3), (4, .int a4), (5, .int a5)] [.int 1] σ rfl rfl ⟨trivial, trivial⟩ rfl ?_
                        refine aw_goto (off := 4) hC 137 (by decide +kernel) (by decide) ?_
                        refine aw_run (pc' := 141) hC [(.istore_n 2, 1, 0, 0, .null), (.iinc 5 1, 3, 0, 0, .int 1)] (by decide +kernel) [(0, .ref 20), (1, .int a1), (2, .int 1), (3, .int a3), (4, .int a4), (5, .int (a5 + 1))] [] σ rfl rfl ⟨trivial, trivial, trivial⟩ rfl ?_
                        refine aw_goto (off := -114) hC 27 (by decide +kernel) (by decide) ?_
                        exact ih a1 1 a3 a4 (a5 + 1) hF
  have Jc15 : ∀ (kc4 : Int32 → Int32 → Int32 → Sg → Option Int32) (Hc4 : ∀ (a1 : Int32) (a2 : Int32) (a3 : Int32), kc4 a1 a2 a3 σ = some z → AW p l e rm_mo_fitsFor s m args below meth c D ad tc 6 A s.heap 0 0 (MQ below (Qr (some (.int z)) D ad tc σ A) args s 0 0 A) 4 [(0, .ref 20), (1, .int a1), (2, .int a2), (3, .int a3)] [] σ) (n : Nat) (a1 : Int32) (a2 : Int32) (a3 : Int32) (a4 : Int32), f_mo_fitsFor_c15 N kc4 n a1 a2 a3 a4 σ = some z → AW p l e rm_mo_fitsFor s m args below meth c D ad tc 6 A s.heap 0 0 (MQ below (Qr (some (.int z)) D ad tc σ A) args s 0 0 A) 15 [(0, .ref 20), (1, .int a1), (2, .int a2), (3, .int a3), (4, .int a4)] [] σ := by
    intro kc4 Hc4 n
    induction n with
    | zero =>
      intro a1 a2 a3 a4 hF
      cases hF
    | succ n ih =>
      intro a1 a2 a3 a4 hF
      have hF : f_mo_fitsFor_c15_s N kc4 (f_mo_fitsFor_c15 N kc4 n) a1 a2 a3 a4 σ = some z := hF
      unfold f_mo_fitsFor_c15_s at hF
      refine aw_run (pc' := 21) hC [(.iload 4, 2, 0, 0, .null), (.aload_n 0, 1, 0, 0, .null), (.getfield 98, 3, 7, 2, .null)] (by decide +kernel) [(0, .ref 20), (1, .int a1), (2, .int a2), (3, .int a3), (4, .int a4)] [.int (σ.1 20 2), .int a4] σ rfl rfl ⟨trivial, trivial, trivial, trivial⟩ rfl ?_
      refine aw_icmp_ge (off := 129) hC 150 (by decide +kernel) (by decide) (fun h => ?_) (fun h => ?_)
      · have hF := (if_pos h).symm.trans hF
        refine aw_run (pc' := 153) hC [(.iinc 3 1, 3, 0, 0, .int 1)] (by decide +kernel) [(0, .ref 20), (1, .int a1), (2, .int a2), (3, .int (a3 + 1)), (4, .int a4)] [] σ rfl rfl ⟨trivial, trivial⟩ rfl ?_
        refine aw_goto (off := -149) hC 4 (by decide +kernel) (by decide) ?_
        refine aw_pick [0, 1, 2, 3] [(0, .ref 20), (1, .int a1), (2, .int a2), (3, .int (a3 + 1))] rfl ?_
        exact Hc4 a1 a2 (a3 + 1) hF
      · have hF := (if_neg h).symm.trans hF
        refine aw_run (pc' := 27) hC [(.iconst 0, 1, 0, 0, .int 0), (.istore 5, 2, 0, 0, .null)] (by decide +kernel) [(0, .ref 20), (1, .int a1), (2, .int a2), (3, .int a3), (4, .int a4), (5, .int 0)] [] σ rfl rfl ⟨trivial, trivial, trivial⟩ rfl ?_
        exact Jc27 (f_mo_fitsFor_c15 N kc4 n) ih N a1 a2 a3 a4 0 hF
  have Jc4 : ∀ (n : Nat) (a1 : Int32) (a2 : Int32) (a3 : Int32), f_mo_fitsFor_c4 N n a1 a2 a3 σ = some z → AW p l e rm_mo_fitsFor s m args below meth c D ad tc 6 A s.heap 0 0 (MQ below (Qr (some (.int z)) D ad tc σ A) args s 0 0 A) 4 [(0, .ref 20), (1, .int a1), (2, .int a2), (3, .int a3)] [] σ := by
    intro n
    induction n with
    | zero =>
      intro a1 a2 a3 hF
      cases hF
    | succ n ih =>
      intro a1 a2 a3 hF
      have hF : f_mo_fitsFor_c4_s N (f_mo_fitsFor_c4 N n) a1 a2 a3 σ = some z := hF
      unfold f_mo_fitsFor_c4_s at hF
      refine aw_run (pc' := 9) hC [(.iload_n 3, 1, 0, 0, .null), (.aload_n 0, 1, 0, 0, .null), (.getfield 98, 3, 7, 2, .null)] (by decide +kernel) [(0, .ref 20), (1, .int a1), (2, .int a2), (3, .int a3)] [.int (σ.1 20 2), .int a3] σ rfl rfl ⟨trivial, trivial, trivial, trivial⟩ rfl ?_
      refine aw_icmp_ge (off := 147) hC 156 (by decide +kernel) (by decide) (fun h => ?_) (fun h => ?_)
      · have hF := (if_pos h).symm.trans hF
        refine aw_run (pc' := 157) hC [(.iload_n 2, 1, 0, 0, .null)] (by decide +kernel) [(0, .ref 20), (1, .int a1), (2, .int a2), (3, .int a3)] [.int a2] σ rfl rfl ⟨trivial, trivial⟩ rfl ?_
        obtain ⟨g1, hF⟩ := gd hF
        exact aw_zret hC hr g1 (by decide +kernel) (Option.some.inj hF) rfl
      · have hF := (if_neg h).symm.trans hF
        refine aw_run (pc' := 15) hC [(.iconst 0, 1, 0, 0, .int 0), (.istore 4, 2, 0, 0, .null)] (by decide +kernel) [(0, .ref 20), (1, .int a1), (2, .int a2), (3, .int a3), (4, .int 0)] [] σ rfl rfl ⟨trivial, trivial, trivial⟩ rfl ?_
        exact Jc15 (f_mo_fitsFor_c4 N n) ih N a1 a2 a3 0 hF
  unfold f_mo_fitsFor at hF
  refine aw_run (pc' := 4) hC [(.iconst 1, 1, 0, 0, .int 1), (.istore_n 2, 1, 0, 0, .null), (.iconst 0, 1, 0, 0, .int 0), (.istore_n 3, 1, 0, 0, .null)] (by decide +kernel) [(0, .ref 20), (1, .int a1), (2, .int 1), (3, .int 0)] [] σ rfl rfl ⟨trivial, trivial, trivial, trivial, trivial⟩ rfl ?_
  exact Jc4 N a1 1 0 hF
def f_mo_fit (N : Nat) (σ : Sg) : Option Int32 := (f_mo_fitsFor N σ (f_mo_all σ)).bind fun q1 => if q1 = 0 ∨ q1 = 1 then some q1 else none
def rm_mo_fit : Room := { frames := 3, cells := 0, slots := 0, locals := 79 }
set_option maxHeartbeats 4000000 in
set_option maxRecDepth 100000 in
theorem c_mo_fit (N : Nat) (σ : Sg) (z : Int32) (hF : f_mo_fit N σ = some z) : Ctr yX7_fit cX7_fit 1 (some .boolean) rm_mo_fit [.ref 20] σ (some (.int z)) σ := by
  refine ct_start 7 (by decide) rfl (fun ad => Nat.le_of_ble_eq_true rfl) [(0, .ref 20)] (fun ad => rfl) ?_
  intro p l e s m args below meth c D ad tc A hC hA hr
  unfold f_mo_fit at hF
  refine aw_run (pc' := 2) hC [(.aload_n 0, 1, 0, 0, .null), (.aload_n 0, 1, 0, 0, .null)] (by decide +kernel) [(0, .ref 20)] [.ref 20, .ref 20] σ rfl rfl ⟨trivial, trivial, trivial⟩ rfl ?_
  refine aw_callV hC hA (rest := [.ref 20]) (c_mo_all σ _ rfl) mt_X7_all ln_7_145 (by decide +kernel) ⟨_, rfl⟩ rfl rfl (Nat.le_of_ble_eq_true rfl) ⟨⟨rfl, rfl⟩, Nat.le_of_ble_eq_true rfl, Nat.le_of_ble_eq_true rfl⟩ ⟨Nat.zero_le _, Nat.zero_le _⟩ rfl ?_
  obtain ⟨q1, eq1, hF⟩ := bd hF
  refine aw_callV hC hA (rest := []) (c_mo_fitsFor N σ (f_mo_all σ) q1 eq1) mt_X7_fitsFor ln_7_148 (by decide +kernel) ⟨_, rfl⟩ rfl rfl (Nat.le_of_ble_eq_true rfl) ⟨⟨rfl, rfl⟩, Nat.le_of_ble_eq_true rfl, Nat.le_of_ble_eq_true rfl⟩ ⟨Nat.zero_le _, Nat.zero_le _⟩ rfl ?_
  obtain ⟨g2, hF⟩ := gd hF
  exact aw_zret hC hr g2 (by decide +kernel) (Option.some.inj hF) rfl
def f_mo_fits (N : Nat) (σ : Sg) : Option Int32 := (f_mo_fit N σ).bind fun q1 => if q1 = 0 then (some 0) else (some 1)
def rm_mo_fits : Room := { frames := 4, cells := 0, slots := 0, locals := 99 }
set_option maxHeartbeats 4000000 in
set_option maxRecDepth 100000 in
theorem c_mo_fits (N : Nat) (σ : Sg) (z : Int32) (hF : f_mo_fits N σ = some z) : Ctr yX7_fits cX7_fits 1 (some .int) rm_mo_fits [.ref 20] σ (some (.int z)) σ := by
  refine ct_start 7 (by decide) rfl (fun ad => Nat.le_of_ble_eq_true rfl) [(0, .ref 20)] (fun ad => rfl) ?_
  intro p l e s m args below meth c D ad tc A hC hA hr
  unfold f_mo_fits at hF
  refine aw_run (pc' := 1) hC [(.aload_n 0, 1, 0, 0, .null)] (by decide +kernel) [(0, .ref 20)] [.ref 20] σ rfl rfl ⟨trivial, trivial⟩ rfl ?_
  obtain ⟨q1, eq1, hF⟩ := bd hF
  refine aw_callV hC hA (rest := []) (c_mo_fit N σ q1 eq1) mt_X7_fit ln_7_151 (by decide +kernel) ⟨_, rfl⟩ rfl rfl (Nat.le_of_ble_eq_true rfl) ⟨⟨rfl, rfl⟩, Nat.le_of_ble_eq_true rfl, Nat.le_of_ble_eq_true rfl⟩ ⟨Nat.zero_le _, Nat.zero_le _⟩ rfl ?_
  refine aw_if_eq (off := 7) hC 11 Iff.rfl (by decide +kernel) (by decide) (fun h => ?_) (fun h => ?_)
  · have hF := (if_pos h).symm.trans hF
    refine aw_run (pc' := 12) hC [(.iconst 0, 1, 0, 0, .int 0)] (by decide +kernel) [(0, .ref 20)] [.int 0] σ rfl rfl ⟨trivial, trivial⟩ rfl ?_
    exact aw_iret hC hr (by decide +kernel) (Option.some.inj hF) rfl
  · have hF := (if_neg h).symm.trans hF
    refine aw_run (pc' := 8) hC [(.iconst 1, 1, 0, 0, .int 1)] (by decide +kernel) [(0, .ref 20)] [.int 1] σ rfl rfl ⟨trivial, trivial⟩ rfl ?_
    refine aw_goto (off := 4) hC 12 (by decide +kernel) (by decide) ?_
    exact aw_iret hC hr (by decide +kernel) (Option.some.inj hF) rfl
def f_mo_many_c4_s (N : Nat) (kc4 : Int32 → Int32 → Int32 → Option Int32) (a0 : Int32) (a1 : Int32) (a2 : Int32) : Option Int32 := if (8 : Int32) ≤ a2 then (some a1) else (kc4 a0 (a1 + ((a0 >>> (a2 &&& 31)) &&& 1)) (a2 + 1))
def f_mo_many_c4 (N : Nat) : Nat → Int32 → Int32 → Int32 → Option Int32
  | 0 => fun _ _ _ => none
  | n + 1 => f_mo_many_c4_s N (f_mo_many_c4 N n)
def f_mo_many (N : Nat) (a0 : Int32) : Option Int32 := f_mo_many_c4 N N a0 0 0
def rm_mo_many : Room := { frames := 0, cells := 0, slots := 0, locals := 0 }
set_option maxHeartbeats 4000000 in
set_option maxRecDepth 100000 in
theorem c_mo_many (N : Nat) (σ : Sg) (a0 : Int32) (z : Int32) (hF : f_mo_many N a0 = some z) : Ctr yX7_many cX7_many 3 (some .int) rm_mo_many [.int a0] σ (some (.int z)) σ := by
  refine ct_start 7 (by decide) rfl (fun ad => Nat.le_of_ble_eq_true rfl) [(0, .int a0)] (fun ad => rfl) ?_
  intro p l e s m args below meth c D ad tc A hC hA hr
  have Jc4 : ∀ (n : Nat) (a0 : Int32) (a1 : Int32) (a2 : Int32), f_mo_many_c4 N n a0 a1 a2 = some z → AW p l e rm_mo_many s m args below meth c D ad tc 3 A s.heap 0 0 (MQ below (Qr (some (.int z)) D ad tc σ A) args s 0 0 A) 4 [(0, .int a0), (1, .int a1), (2, .int a2)] [] σ := by
    intro n
    induction n with
    | zero =>
      intro a0 a1 a2 hF
      cases hF
    | succ n ih =>
      intro a0 a1 a2 hF
      have hF : f_mo_many_c4_s N (f_mo_many_c4 N n) a0 a1 a2 = some z := hF
      unfold f_mo_many_c4_s at hF
      refine aw_run (pc' := 7) hC [(.iload_n 2, 1, 0, 0, .null), (.bipush 8, 2, 0, 0, .int 8)] (by decide +kernel) [(0, .int a0), (1, .int a1), (2, .int a2)] [.int 8, .int a2] σ rfl rfl ⟨trivial, trivial, trivial⟩ rfl ?_
      refine aw_icmp_ge (off := 17) hC 24 (by decide +kernel) (by decide) (fun h => ?_) (fun h => ?_)
      · have hF := (if_pos h).symm.trans hF
        refine aw_run (pc' := 25) hC [(.iload_n 1, 1, 0, 0, .null)] (by decide +kernel) [(0, .int a0), (1, .int a1), (2, .int a2)] [.int a1] σ rfl rfl ⟨trivial, trivial⟩ rfl ?_
        exact aw_iret hC hr (by decide +kernel) (Option.some.inj hF) rfl
      · have hF := (if_neg h).symm.trans hF
        refine aw_run (pc' := 21) hC [(.iload_n 1, 1, 0, 0, .null), (.iload_n 0, 1, 0, 0, .null), (.iload_n 2, 1, 0, 0, .null), (.ishr, 1, 0, 0, .null), (.iconst 1, 1, 0, 0, .int 1), (.iand, 1, 0, 0, .null), (.iadd, 1, 0, 0, .null), (.istore_n 1, 1, 0, 0, .null), (.iinc 2 1, 3, 0, 0, .int 1)] (by decide +kernel) [(0, .int a0), (1, .int (a1 + ((a0 >>> (a2 &&& 31)) &&& 1))), (2, .int (a2 + 1))] [] σ rfl rfl ⟨trivial, trivial, trivial, trivial, trivial, trivial, trivial, trivial, trivial, trivial⟩ rfl ?_
        refine aw_goto (off := -17) hC 4 (by decide +kernel) (by decide) ?_
        exact ih a0 (a1 + ((a0 >>> (a2 &&& 31)) &&& 1)) (a2 + 1) hF
  unfold f_mo_many at hF
  refine aw_run (pc' := 4) hC [(.iconst 0, 1, 0, 0, .int 0), (.istore_n 1, 1, 0, 0, .null), (.iconst 0, 1, 0, 0, .int 0), (.istore_n 2, 1, 0, 0, .null)] (by decide +kernel) [(0, .int a0), (1, .int 0), (2, .int 0)] [] σ rfl rfl ⟨trivial, trivial, trivial, trivial, trivial⟩ rfl ?_
  exact Jc4 N a0 0 0 hF
def f_mo_wrongNow_c31 (N : Nat) (kc7 : Int32 → Int32 → Sg → Option Int32) (a1 : Int32) (a2 : Int32) (t0 : Int32) (σ : Sg) : Option Int32 := if t0 = 0 then (kc7 a1 (a2 + 1) σ) else ((f_mo_fitsFor N σ ((f_mo_all σ) &&& (a2 ^^^ (-1)))).bind fun q3 => if q3 = 0 then (kc7 a1 (a2 + 1) σ) else (kc7 a2 (a2 + 1) σ))
def f_mo_wrongNow_c7_s (N : Nat) (kc7 : Int32 → Int32 → Sg → Option Int32) (a1 : Int32) (a2 : Int32) (σ : Sg) : Option Int32 := if (f_mo_all σ) < a2 then (some a1) else ((f_mo_many N a2).bind fun q1 => (f_mo_many N a1).bind fun q2 => if q2 ≤ q1 then (f_mo_wrongNow_c31 N kc7 a1 a2 0 σ) else (f_mo_wrongNow_c31 N kc7 a1 a2 1 σ))
def f_mo_wrongNow_c7 (N : Nat) : Nat → Int32 → Int32 → Sg → Option Int32
  | 0 => fun _ _ _ => none
  | n + 1 => f_mo_wrongNow_c7_s N (f_mo_wrongNow_c7 N n)
def f_mo_wrongNow (N : Nat) (σ : Sg) : Option Int32 := f_mo_wrongNow_c7 N N (f_mo_all σ) 0 σ
def rm_mo_wrongNow : Room := { frames := 3, cells := 0, slots := 0, locals := 79 }
set_option maxHeartbeats 4000000 in
set_option maxRecDepth 100000 in
theorem c_mo_wrongNow (N : Nat) (σ : Sg) (z : Int32) (hF : f_mo_wrongNow N σ = some z) : Ctr yX7_wrongNow cX7_wrongNow 4 (some .int) rm_mo_wrongNow [.ref 20] σ (some (.int z)) σ := by
  refine ct_start 7 (by decide) rfl (fun ad => Nat.le_of_ble_eq_true rfl) [(0, .ref 20)] (fun ad => rfl) ?_
  intro p l e s m args below meth c D ad tc A hC hA hr
  have Jc31 : ∀ (kc7 : Int32 → Int32 → Sg → Option Int32) (Hc7 : ∀ (a1 : Int32) (a2 : Int32), kc7 a1 a2 σ = some z → AW p l e rm_mo_wrongNow s m args below meth c D ad tc 4 A s.heap 0 0 (MQ below (Qr (some (.int z)) D ad tc σ A) args s 0 0 A) 7 [(0, .ref 20), (1, .int a1), (2, .int a2)] [] σ) (a1 : Int32) (a2 : Int32) (t0 : Int32), f_mo_wrongNow_c31 N kc7 a1 a2 t0 σ = some z → AW p l e rm_mo_wrongNow s m args below meth c D ad tc 4 A s.heap 0 0 (MQ below (Qr (some (.int z)) D ad tc σ A) args s 0 0 A) 31 [(0, .ref 20), (1, .int a1), (2, .int a2)] [.int t0] σ := by
    intro kc7 Hc7 a1 a2 t0 hF
    unfold f_mo_wrongNow_c31 at hF
    refine aw_run (pc' := 33) hC [(.istore_n 3, 1, 0, 0, .null), (.iload_n 3, 1, 0, 0, .null)] (by decide +kernel) [(0, .ref 20), (1, .int a1), (2, .int a2), (3, .int t0)] [.int t0] σ rfl rfl ⟨trivial, trivial, trivial⟩ rfl ?_
    refine aw_if_eq (off := 22) hC 55 Iff.rfl (by decide +kernel) (by decide) (fun h => ?_) (fun h => ?_)
    · have hF := (if_pos h).symm.trans hF
      refine aw_run (pc' := 60) hC [(.iload_n 1, 1, 0, 0, .null), (.istore_n 1, 1, 0, 0, .null), (.iinc 2 1, 3, 0, 0, .int 1)] (by decide +kernel) [(0, .ref 20), (1, .int a1), (2, .int (a2 + 1)), (3, .int t0)] [] σ rfl rfl ⟨trivial, trivial, trivial, trivial⟩ rfl ?_
      refine aw_goto (off := -53) hC 7 (by decide +kernel) (by decide) ?_
      refine aw_pick [0, 1, 2] [(0, .ref 20), (1, .int a1), (2, .int (a2 + 1))] rfl ?_
      exact Hc7 a1 (a2 + 1) hF
    · have hF := (if_neg h).symm.trans hF
      refine aw_run (pc' := 38) hC [(.aload_n 0, 1, 0, 0, .null), (.aload_n 0, 1, 0, 0, .null)] (by decide +kernel) [(0, .ref 20), (1, .int a1), (2, .int a2), (3, .int t0)] [.ref 20, .ref 20] σ rfl rfl ⟨trivial, trivial, trivial⟩ rfl ?_
      refine aw_callV hC hA (rest := [.ref 20]) (c_mo_all σ _ rfl) mt_X7_all ln_7_145 (by decide +kernel) ⟨_, rfl⟩ rfl rfl (Nat.le_of_ble_eq_true rfl) ⟨⟨rfl, rfl⟩, Nat.le_of_ble_eq_true rfl, Nat.le_of_ble_eq_true rfl⟩ ⟨Nat.zero_le _, Nat.zero_le _⟩ rfl ?_
      refine aw_run (pc' := 45) hC [(.iload_n 2, 1, 0, 0, .null), (.iconst (-1), 1, 0, 0, .int (-1)), (.ixor, 1, 0, 0, .null), (.iand, 1, 0, 0, .null)] (by decide +kernel) [(0, .ref 20), (1, .int a1), (2, .int a2), (3, .int t0)] [.int ((f_mo_all σ) &&& (a2 ^^^ (-1))), .ref 20] σ rfl rfl ⟨trivial, trivial, trivial, trivial, trivial⟩ rfl ?_
      obtain ⟨q3, eq3, hF⟩ := bd hF
      refine aw_callV hC hA (rest := []) (c_mo_fitsFor N σ ((f_mo_all σ) &&& (a2 ^^^ (-1))) q3 eq3) mt_X7_fitsFor ln_7_148 (by decide +kernel) ⟨_, rfl⟩ rfl rfl (Nat.le_of_ble_eq_true rfl) ⟨⟨rfl, rfl⟩, Nat.le_of_ble_eq_true rfl, Nat.le_of_ble_eq_true rfl⟩ ⟨Nat.zero_le _, Nat.zero_le _⟩ rfl ?_
      refine aw_if_eq (off := 7) hC 55 Iff.rfl (by decide +kernel) (by decide) (fun h => ?_) (fun h => ?_)
      · have hF := (if_pos h).symm.trans hF
        refine aw_run (pc' := 60) hC [(.iload_n 1, 1, 0, 0, .null), (.istore_n 1, 1, 0, 0, .null), (.iinc 2 1, 3, 0, 0, .int 1)] (by decide +kernel) [(0, .ref 20), (1, .int a1), (2, .int (a2 + 1)), (3, .int t0)] [] σ rfl rfl ⟨trivial, trivial, trivial, trivial⟩ rfl ?_
        refine aw_goto (off := -53) hC 7 (by decide +kernel) (by decide) ?_
        refine aw_pick [0, 1, 2] [(0, .ref 20), (1, .int a1), (2, .int (a2 + 1))] rfl ?_
        exact Hc7 a1 (a2 + 1) hF
      · have hF := (if_neg h).symm.trans hF
        refine aw_run (pc' := 52) hC [(.iload_n 2, 1, 0, 0, .null)] (by decide +kernel) [(0, .ref 20), (1, .int a1), (2, .int a2), (3, .int t0)] [.int a2] σ rfl rfl ⟨trivial, trivial⟩ rfl ?_
        refine aw_goto (off := 4) hC 56 (by decide +kernel) (by decide) ?_
        refine aw_run (pc' := 60) hC [(.istore_n 1, 1, 0, 0, .null), (.iinc 2 1, 3, 0, 0, .int 1)] (by decide +kernel) [(0, .ref 20), (1, .int a2), (2, .int (a2 + 1)), (3, .int t0)] [] σ rfl rfl ⟨trivial, trivial, trivial⟩ rfl ?_
        refine aw_goto (off := -53) hC 7 (by decide +kernel) (by decide) ?_
        refine aw_pick [0, 1, 2] [(0, .ref 20), (1, .int a2), (2, .int (a2 + 1))] rfl ?_
        exact Hc7 a2 (a2 + 1) hF
  have Jc7 : ∀ (n : Nat) (a1 : Int32) (a2 : Int32), f_mo_wrongNow_c7 N n a1 a2 σ = some z → AW p l e rm_mo_wrongNow s m args below meth c D ad tc 4 A s.heap 0 0 (MQ below (Qr (some (.int z)) D ad tc σ A) args s 0 0 A) 7 [(0, .ref 20), (1, .int a1), (2, .int a2)] [] σ := by
    intro n
    induction n with
    | zero =>
      intro a1 a2 hF
      cases hF
    | succ n ih =>
      intro a1 a2 hF
      have hF : f_mo_wrongNow_c7_s N (f_mo_wrongNow_c7 N n) a1 a2 σ = some z := hF
      unfold f_mo_wrongNow_c7_s at hF
      refine aw_run (pc' := 9) hC [(.iload_n 2, 1, 0, 0, .null), (.aload_n 0, 1, 0, 0, .null)] (by decide +kernel) [(0, .ref 20), (1, .int a1), (2, .int a2)] [.ref 20, .int a2] σ rfl rfl ⟨trivial, trivial, trivial⟩ rfl ?_
      refine aw_callV hC hA (rest := [.int a2]) (c_mo_all σ _ rfl) mt_X7_all ln_7_145 (by decide +kernel) ⟨_, rfl⟩ rfl rfl (Nat.le_of_ble_eq_true rfl) ⟨⟨rfl, rfl⟩, Nat.le_of_ble_eq_true rfl, Nat.le_of_ble_eq_true rfl⟩ ⟨Nat.zero_le _, Nat.zero_le _⟩ rfl ?_
      refine aw_icmp_gt (off := 51) hC 63 (by decide +kernel) (by decide) (fun h => ?_) (fun h => ?_)
      · have hF := (if_pos h).symm.trans hF
        refine aw_run (pc' := 64) hC [(.iload_n 1, 1, 0, 0, .null)] (by decide +kernel) [(0, .ref 20), (1, .int a1), (2, .int a2)] [.int a1] σ rfl rfl ⟨trivial, trivial⟩ rfl ?_
        exact aw_iret hC hr (by decide +kernel) (Option.some.inj hF) rfl
      · have hF := (if_neg h).symm.trans hF
        refine aw_run (pc' := 16) hC [(.iload_n 2, 1, 0, 0, .null)] (by decide +kernel) [(0, .ref 20), (1, .int a1), (2, .int a2)] [.int a2] σ rfl rfl ⟨trivial, trivial⟩ rfl ?_
        obtain ⟨q1, eq1, hF⟩ := bd hF
        refine aw_callS hC hA (rest := []) (c_mo_many N σ a2 q1 eq1) mt_X7_many ln_7_154 (by decide +kernel) rfl rfl (Nat.le_of_ble_eq_true rfl) ⟨⟨rfl, rfl⟩, Nat.le_of_ble_eq_true rfl, Nat.le_of_ble_eq_true rfl⟩ ⟨Nat.zero_le _, Nat.zero_le _⟩ rfl ?_
        refine aw_run (pc' := 20) hC [(.iload_n 1, 1, 0, 0, .null)] (by decide +kernel) [(0, .ref 20), (1, .int a1), (2, .int a2)] [.int a1, .int q1] σ rfl rfl ⟨trivial, trivial⟩ rfl ?_
        obtain ⟨q2, eq2, hF⟩ := bd hF
        refine aw_callS hC hA (rest := [.int q1]) (c_mo_many N σ a1 q2 eq2) mt_X7_many ln_7_154 (by decide +kernel) rfl rfl (Nat.le_of_ble_eq_true rfl) ⟨⟨rfl, rfl⟩, Nat.le_of_ble_eq_true rfl, Nat.le_of_ble_eq_true rfl⟩ ⟨Nat.zero_le _, Nat.zero_le _⟩ rfl ?_
        refine aw_icmp_ge (off := 7) hC 30 (by decide +kernel) (by decide) (fun h => ?_) (fun h => ?_)
        · have hF := (if_pos h).symm.trans hF
          refine aw_run (pc' := 31) hC [(.iconst 0, 1, 0, 0, .int 0)] (by decide +kernel) [(0, .ref 20), (1, .int a1), (2, .int a2)] [.int 0] σ rfl rfl ⟨trivial, trivial⟩ rfl ?_
          exact Jc31 (f_mo_wrongNow_c7 N n) ih a1 a2 0 hF
        · have hF := (if_neg h).symm.trans hF
          refine aw_run (pc' := 27) hC [(.iconst 1, 1, 0, 0, .int 1)] (by decide +kernel) [(0, .ref 20), (1, .int a1), (2, .int a2)] [.int 1] σ rfl rfl ⟨trivial, trivial⟩ rfl ?_
          refine aw_goto (off := 4) hC 31 (by decide +kernel) (by decide) ?_
          exact Jc31 (f_mo_wrongNow_c7 N n) ih a1 a2 1 hF
  unfold f_mo_wrongNow at hF
  refine aw_run (pc' := 1) hC [(.aload_n 0, 1, 0, 0, .null)] (by decide +kernel) [(0, .ref 20)] [.ref 20] σ rfl rfl ⟨trivial, trivial⟩ rfl ?_
  refine aw_callV hC hA (rest := []) (c_mo_all σ _ rfl) mt_X7_all ln_7_145 (by decide +kernel) ⟨_, rfl⟩ rfl rfl (Nat.le_of_ble_eq_true rfl) ⟨⟨rfl, rfl⟩, Nat.le_of_ble_eq_true rfl, Nat.le_of_ble_eq_true rfl⟩ ⟨Nat.zero_le _, Nat.zero_le _⟩ rfl ?_
  refine aw_run (pc' := 7) hC [(.istore_n 1, 1, 0, 0, .null), (.iconst 0, 1, 0, 0, .int 0), (.istore_n 2, 1, 0, 0, .null)] (by decide +kernel) [(0, .ref 20), (1, .int (f_mo_all σ)), (2, .int 0)] [] σ rfl rfl ⟨trivial, trivial, trivial, trivial⟩ rfl ?_
  exact Jc7 N (f_mo_all σ) 0 hF
def f_mo_wrong (N : Nat) (σ : Sg) : Option Int32 := (f_mo_wrongNow N σ).bind fun q1 => some q1
def rm_mo_wrong : Room := { frames := 4, cells := 0, slots := 0, locals := 102 }
set_option maxHeartbeats 4000000 in
set_option maxRecDepth 100000 in
theorem c_mo_wrong (N : Nat) (σ : Sg) (z : Int32) (hF : f_mo_wrong N σ = some z) : Ctr yX7_wrong cX7_wrong 1 (some .int) rm_mo_wrong [.ref 20] σ (some (.int z)) σ := by
  refine ct_start 7 (by decide) rfl (fun ad => Nat.le_of_ble_eq_true rfl) [(0, .ref 20)] (fun ad => rfl) ?_
  intro p l e s m args below meth c D ad tc A hC hA hr
  unfold f_mo_wrong at hF
  refine aw_run (pc' := 1) hC [(.aload_n 0, 1, 0, 0, .null)] (by decide +kernel) [(0, .ref 20)] [.ref 20] σ rfl rfl ⟨trivial, trivial⟩ rfl ?_
  obtain ⟨q1, eq1, hF⟩ := bd hF
  refine aw_callV hC hA (rest := []) (c_mo_wrongNow N σ q1 eq1) mt_X7_wrongNow ln_7_157 (by decide +kernel) ⟨_, rfl⟩ rfl rfl (Nat.le_of_ble_eq_true rfl) ⟨⟨rfl, rfl⟩, Nat.le_of_ble_eq_true rfl, Nat.le_of_ble_eq_true rfl⟩ ⟨Nat.zero_le _, Nat.zero_le _⟩ rfl ?_
  exact aw_iret hC hr (by decide +kernel) (Option.some.inj hF) rfl
def f_mo_layPoints_c17_s (N : Nat) (kc7 : Int32 → Sg → Option Sg) (kc17 : Int32 → Int32 → Sg → Option Sg) (a1 : Int32) (a2 : Int32) (σ : Sg) : Option Sg := if (3 : Int32) ≤ a2 then (kc7 (a1 + 1) σ) else (if ib a1 8 then if (σ.1 23 a1.toNatClampNeg) = 0 then ((f_mo_bound σ a1 a2).bind fun q3 => if ib (σ.1 20 16) 16 then nm (uJ σ 28 (σ.1 20 16).toNatClampNeg q3.toInt64) fun σ5 => if ib (σ5.1 20 16) 16 then nm (uJ σ5 29 (σ5.1 20 16).toNatClampNeg (σ5.1 22 a1.toNatClampNeg).toInt64) fun σ7 => nm (uI σ7 20 16 ((σ7.1 20 16) + 1)) fun σ8 => kc17 a1 (a2 + 1) σ8 else none else none) else (kc7 (a1 + 1) σ) else none)
def f_mo_layPoints_c17 (N : Nat) (kc7 : Int32 → Sg → Option Sg) : Nat → Int32 → Int32 → Sg → Option Sg
  | 0 => fun _ _ _ => none
  | n + 1 => f_mo_layPoints_c17_s N kc7 (f_mo_layPoints_c17 N kc7 n)
def f_mo_layPoints_c7_s (N : Nat) (kc7 : Int32 → Sg → Option Sg) (a1 : Int32) (σ : Sg) : Option Sg := if (σ.1 20 2) ≤ a1 then (some σ) else (f_mo_layPoints_c17 N kc7 N a1 1 σ)
def f_mo_layPoints_c7 (N : Nat) : Nat → Int32 → Sg → Option Sg
  | 0 => fun _ _ => none
  | n + 1 => f_mo_layPoints_c7_s N (f_mo_layPoints_c7 N n)
def f_mo_layPoints (N : Nat) (σ : Sg) : Option Sg := nm (uI σ 20 16 0) fun σ1 => f_mo_layPoints_c7 N N 0 σ1
def rm_mo_layPoints : Room := { frames := 1, cells := 0, slots := 0, locals := 23 }
set_option maxHeartbeats 4000000 in
set_option maxRecDepth 100000 in
theorem c_mo_layPoints (N : Nat) (σ : Sg) (z : Sg) (hF : f_mo_layPoints N σ = some z) : Ctr yX7_layPoints cX7_layPoints 3 none rm_mo_layPoints [.ref 20] σ none z := by
  refine ct_start 7 (by decide) rfl (fun ad => Nat.le_of_ble_eq_true rfl) [(0, .ref 20)] (fun ad => rfl) ?_
  intro p l e s m args below meth c D ad tc A hC hA hr
  have Jc17 : ∀ (kc7 : Int32 → Sg → Option Sg) (Hc7 : ∀ (a1 : Int32) (σ : Sg), kc7 a1 σ = some z → AW p l e rm_mo_layPoints s m args below meth c D ad tc 3 A s.heap 0 0 (MQ below (Qr none D ad tc z A) args s 0 0 A) 7 [(0, .ref 20), (1, .int a1)] [] σ) (n : Nat) (a1 : Int32) (a2 : Int32) (σ : Sg), f_mo_layPoints_c17 N kc7 n a1 a2 σ = some z → AW p l e rm_mo_layPoints s m args below meth c D ad tc 3 A s.heap 0 0 (MQ below (Qr none D ad tc z A) args s 0 0 A) 17 [(0, .ref 20), (1, .int a1), (2, .int a2)] [] σ := by
    intro kc7 Hc7 n
    induction n with
    | zero =>
      intro a1 a2 σ hF
      cases hF
    | succ n ih =>
      intro a1 a2 σ hF
      have hF : f_mo_layPoints_c17_s N kc7 (f_mo_layPoints_c17 N kc7 n) a1 a2 σ = some z := hF
      unfold f_mo_layPoints_c17_s at hF
      refine aw_run (pc' := 19) hC [(.iload_n 2, 1, 0, 0, .null), (.iconst 3, 1, 0, 0, .int 3)] (by decide +kernel) [(0, .ref 20), (1, .int a1), (2, .int a2)] [.int 3, .int a2] σ rfl rfl ⟨trivial, trivial, trivial⟩ rfl ?_
      refine aw_icmp_ge (off := 60) hC 79 (by decide +kernel) (by decide) (fun h => ?_) (fun h => ?_)
      · have hF := (if_pos h).symm.trans hF
        refine aw_run (pc' := 82) hC [(.iinc 1 1, 3, 0, 0, .int 1)] (by decide +kernel) [(0, .ref 20), (1, .int (a1 + 1)), (2, .int a2)] [] σ rfl rfl ⟨trivial, trivial⟩ rfl ?_
        refine aw_goto (off := -75) hC 7 (by decide +kernel) (by decide) ?_
        refine aw_pick [0, 1] [(0, .ref 20), (1, .int (a1 + 1))] rfl ?_
        exact Hc7 (a1 + 1) σ hF
      · have hF := (if_neg h).symm.trans hF
        obtain ⟨g2, hF⟩ := gd hF
        refine aw_run (pc' := 28) hC [(.aload_n 0, 1, 0, 0, .null), (.getfield 16, 3, 7, 4, .null), (.iload_n 1, 1, 0, 0, .null), (.baload, 1, 0, 0, .null)] (by decide +kernel) [(0, .ref 20), (1, .int a1), (2, .int a2)] [.int (σ.1 23 a1.toNatClampNeg)] σ rfl rfl ⟨trivial, trivial, trivial, g2, trivial⟩ rfl ?_
        refine aw_if_ne (off := 51) hC 79 Iff.rfl (by decide +kernel) (by decide) (fun h => ?_) (fun h => ?_)
        · have hF := (if_neg h).symm.trans hF
          refine aw_run (pc' := 82) hC [(.iinc 1 1, 3, 0, 0, .int 1)] (by decide +kernel) [(0, .ref 20), (1, .int (a1 + 1)), (2, .int a2)] [] σ rfl rfl ⟨trivial, trivial⟩ rfl ?_
          refine aw_goto (off := -75) hC 7 (by decide +kernel) (by decide) ?_
          refine aw_pick [0, 1] [(0, .ref 20), (1, .int (a1 + 1))] rfl ?_
          exact Hc7 (a1 + 1) σ hF
        · have hF := (if_pos h).symm.trans hF
          refine aw_run (pc' := 42) hC [(.aload_n 0, 1, 0, 0, .null), (.getfield 36, 3, 7, 17, .null), (.aload_n 0, 1, 0, 0, .null), (.getfield 160, 3, 7, 16, .null), (.aload_n 0, 1, 0, 0, .null), (.iload_n 1, 1, 0, 0, .null), (.iload_n 2, 1, 0, 0, .null)] (by decide +kernel) [(0, .ref 20), (1, .int a1), (2, .int a2)] [.int a2, .int a1, .ref 20, .int (σ.1 20 16), .ref 28] σ rfl rfl ⟨trivial, trivial, trivial, trivial, trivial, trivial, trivial, trivial⟩ rfl ?_
          obtain ⟨q3, eq3, hF⟩ := bd hF
          refine aw_callV hC hA (rest := [.int (σ.1 20 16), .ref 28]) (c_mo_bound σ a1 a2 q3 eq3) mt_X7_bound ln_7_118 (by decide +kernel) ⟨_, rfl⟩ rfl rfl (Nat.le_of_ble_eq_true rfl) ⟨⟨rfl, rfl⟩, Nat.le_of_ble_eq_true rfl, Nat.le_of_ble_eq_true rfl⟩ ⟨Nat.zero_le _, Nat.zero_le _⟩ rfl ?_
          obtain ⟨g4, hF⟩ := gd hF
          obtain ⟨σ5, hσ5, hF⟩ := nmd hF
          refine aw_run (pc' := 47) hC [(.i2l, 1, 0, 0, .null), (.lastore, 1, 0, 0, .null)] (by decide +kernel) [(0, .ref 20), (1, .int a1), (2, .int a2)] [] (uJ σ 28 (σ.1 20 16).toNatClampNeg q3.toInt64) rfl rfl ⟨trivial, g4, trivial⟩ hσ5 ?_
          obtain ⟨g6, hF⟩ := gd hF
          obtain ⟨σ7, hσ7, hF⟩ := nmd hF
          refine aw_run (pc' := 63) hC [(.aload_n 0, 1, 0, 0, .null), (.getfield 40, 3, 7, 18, .null), (.aload_n 0, 1, 0, 0, .null), (.getfield 160, 3, 7, 16, .null), (.aload_n 0, 1, 0, 0, .null), (.getfield 13, 3, 7, 3, .null), (.iload_n 1, 1, 0, 0, .null), (.iaload, 1, 0, 0, .null), (.i2l, 1, 0, 0, .null), (.lastore, 1, 0, 0, .null)] (by decide +kernel) [(0, .ref 20), (1, .int a1), (2, .int a2)] [] (uJ σ5 29 (σ5.1 20 16).toNatClampNeg (σ5.1 22 a1.toNatClampNeg).toInt64) rfl rfl ⟨trivial, trivial, trivial, trivial, trivial, trivial, trivial, g2, trivial, g6, trivial⟩ hσ7 ?_
          obtain ⟨σ8, hσ8, hF⟩ := nmd hF
          refine aw_run (pc' := 73) hC [(.aload_n 0, 1, 0, 0, .null), (.dup, 1, 0, 0, .null), (.getfield 160, 3, 7, 16, .null), (.iconst 1, 1, 0, 0, .int 1), (.iadd, 1, 0, 0, .null), (.putfield 160, 3, 7, 16, .null)] (by decide +kernel) [(0, .ref 20), (1, .int a1), (2, .int a2)] [] (uI σ7 20 16 ((σ7.1 20 16) + 1)) rfl rfl ⟨trivial, trivial, trivial, trivial, trivial, trivial, trivial⟩ hσ8 ?_
          refine aw_run (pc' := 76) hC [(.iinc 2 1, 3, 0, 0, .int 1)] (by decide +kernel) [(0, .ref 20), (1, .int a1), (2, .int (a2 + 1))] [] σ8 rfl rfl ⟨trivial, trivial⟩ rfl ?_
          refine aw_goto (off := -59) hC 17 (by decide +kernel) (by decide) ?_
          exact ih a1 (a2 + 1) σ8 hF
  have Jc7 : ∀ (n : Nat) (a1 : Int32) (σ : Sg), f_mo_layPoints_c7 N n a1 σ = some z → AW p l e rm_mo_layPoints s m args below meth c D ad tc 3 A s.heap 0 0 (MQ below (Qr none D ad tc z A) args s 0 0 A) 7 [(0, .ref 20), (1, .int a1)] [] σ := by
    intro n
    induction n with
    | zero =>
      intro a1 σ hF
      cases hF
    | succ n ih =>
      intro a1 σ hF
      have hF : f_mo_layPoints_c7_s N (f_mo_layPoints_c7 N n) a1 σ = some z := hF
      unfold f_mo_layPoints_c7_s at hF
      refine aw_run (pc' := 12) hC [(.iload_n 1, 1, 0, 0, .null), (.aload_n 0, 1, 0, 0, .null), (.getfield 98, 3, 7, 2, .null)] (by decide +kernel) [(0, .ref 20), (1, .int a1)] [.int (σ.1 20 2), .int a1] σ rfl rfl ⟨trivial, trivial, trivial, trivial⟩ rfl ?_
      refine aw_icmp_ge (off := 73) hC 85 (by decide +kernel) (by decide) (fun h => ?_) (fun h => ?_)
      · have hF := (if_pos h).symm.trans hF
        exact aw_vret hC hr (by decide +kernel)  (Option.some.inj hF)
      · have hF := (if_neg h).symm.trans hF
        refine aw_run (pc' := 17) hC [(.iconst 1, 1, 0, 0, .int 1), (.istore_n 2, 1, 0, 0, .null)] (by decide +kernel) [(0, .ref 20), (1, .int a1), (2, .int 1)] [] σ rfl rfl ⟨trivial, trivial, trivial⟩ rfl ?_
        exact Jc17 (f_mo_layPoints_c7 N n) ih N a1 1 σ hF
  unfold f_mo_layPoints at hF
  obtain ⟨σ1, hσ1, hF⟩ := nmd hF
  refine aw_run (pc' := 5) hC [(.aload_n 0, 1, 0, 0, .null), (.iconst 0, 1, 0, 0, .int 0), (.putfield 160, 3, 7, 16, .null)] (by decide +kernel) [(0, .ref 20)] [] (uI σ 20 16 0) rfl rfl ⟨trivial, trivial, trivial, trivial⟩ hσ1 ?_
  refine aw_run (pc' := 7) hC [(.iconst 0, 1, 0, 0, .int 0), (.istore_n 1, 1, 0, 0, .null)] (by decide +kernel) [(0, .ref 20), (1, .int 0)] [] σ1 rfl rfl ⟨trivial, trivial, trivial⟩ rfl ?_
  exact Jc7 N 0 σ1 hF
def f_mo_turn (σ : Sg) (a1 : Int32) (a2 : Int32) (a3 : Int32) : Option Int64 := if ib a2 16 then if ib a1 16 then if ib a3 16 then some ((((σ.2 28 a2.toNatClampNeg) - (σ.2 28 a1.toNatClampNeg)) * ((σ.2 29 a3.toNatClampNeg) - (σ.2 29 a1.toNatClampNeg))) - (((σ.2 29 a2.toNatClampNeg) - (σ.2 29 a1.toNatClampNeg)) * ((σ.2 28 a3.toNatClampNeg) - (σ.2 28 a1.toNatClampNeg)))) else none else none else none
def rm_mo_turn : Room := { frames := 0, cells := 0, slots := 0, locals := 0 }
set_option maxHeartbeats 4000000 in
set_option maxRecDepth 100000 in
theorem c_mo_turn (σ : Sg) (a1 : Int32) (a2 : Int32) (a3 : Int32) (z : Int64) (hF : f_mo_turn σ a1 a2 a3 = some z) : Ctr yX7_turn cX7_turn 4 (some .long) rm_mo_turn [.ref 20, .int a1, .int a2, .int a3] σ (some (.long z)) σ := by
  refine ct_start 7 (by decide) rfl (fun ad => Nat.le_of_ble_eq_true rfl) [(0, .ref 20), (1, .int a1), (2, .int a2), (3, .int a3)] (fun ad => rfl) ?_
  intro p l e s m args below meth c D ad tc A hC hA hr
  unfold f_mo_turn at hF
  obtain ⟨g1, hF⟩ := gd hF
  obtain ⟨g2, hF⟩ := gd hF
  obtain ⟨g3, hF⟩ := gd hF
  refine aw_run (pc' := 55) hC [(.aload_n 0, 1, 0, 0, .null), (.getfield 36, 3, 7, 17, .null), (.iload_n 2, 1, 0, 0, .null), (.laload, 1, 0, 0, .null), (.aload_n 0, 1, 0, 0, .null), (.getfield 36, 3, 7, 17, .null), (.iload_n 1, 1, 0, 0, .null), (.laload, 1, 0, 0, .null), (.lsub, 1, 0, 0, .null), (.aload_n 0, 1, 0, 0, .null), (.getfield 40, 3, 7, 18, .null), (.iload_n 3, 1, 0, 0, .null), (.laload, 1, 0, 0, .null), (.aload_n 0, 1, 0, 0, .null), (.getfield 40, 3, 7, 18, .null), (.iload_n 1, 1, 0, 0, .null), (.laload, 1, 0, 0, .null), (.lsub, 1, 0, 0, .null), (.lmul, 1, 0, 0, .null), (.aload_n 0, 1, 0, 0, .null), (.getfield 40, 3, 7, 18, .null), (.iload_n 2, 1, 0, 0, .null), (.laload, 1, 0, 0, .null), (.aload_n 0, 1, 0, 0, .null), (.getfield 40, 3, 7, 18, .null), (.iload_n 1, 1, 0, 0, .null), (.laload, 1, 0, 0, .null), (.lsub, 1, 0, 0, .null), (.aload_n 0, 1, 0, 0, .null), (.getfield 36, 3, 7, 17, .null), (.iload_n 3, 1, 0, 0, .null), (.laload, 1, 0, 0, .null), (.aload_n 0, 1, 0, 0, .null), (.getfield 36, 3, 7, 17, .null), (.iload_n 1, 1, 0, 0, .null), (.laload, 1, 0, 0, .null), (.lsub, 1, 0, 0, .null), (.lmul, 1, 0, 0, .null), (.lsub, 1, 0, 0, .null)] (by decide +kernel) [(0, .ref 20), (1, .int a1), (2, .int a2), (3, .int a3)] [.long ((((σ.2 28 a2.toNatClampNeg) - (σ.2 28 a1.toNatClampNeg)) * ((σ.2 29 a3.toNatClampNeg) - (σ.2 29 a1.toNatClampNeg))) - (((σ.2 29 a2.toNatClampNeg) - (σ.2 29 a1.toNatClampNeg)) * ((σ.2 28 a3.toNatClampNeg) - (σ.2 28 a1.toNatClampNeg))))] σ rfl rfl ⟨trivial, trivial, trivial, g1, trivial, trivial, trivial, g2, trivial, trivial, trivial, trivial, g3, trivial, trivial, trivial, g2, trivial, trivial, trivial, trivial, trivial, g1, trivial, trivial, trivial, g2, trivial, trivial, trivial, trivial, g3, trivial, trivial, trivial, g2, trivial, trivial, trivial, trivial⟩ rfl ?_
  exact aw_lret hC hr (by decide +kernel) (Option.some.inj hF) rfl
def f_mo_square (σ : Sg) (a1 : Int32) (a2 : Int32) : Option Int64 := if ib a1 16 then if ib a2 16 then some ((((σ.2 28 a1.toNatClampNeg) - (σ.2 28 a2.toNatClampNeg)) * ((σ.2 28 a1.toNatClampNeg) - (σ.2 28 a2.toNatClampNeg))) + (((σ.2 29 a1.toNatClampNeg) - (σ.2 29 a2.toNatClampNeg)) * ((σ.2 29 a1.toNatClampNeg) - (σ.2 29 a2.toNatClampNeg)))) else none else none
def rm_mo_square : Room := { frames := 0, cells := 0, slots := 0, locals := 0 }
set_option maxHeartbeats 4000000 in
set_option maxRecDepth 100000 in
theorem c_mo_square (σ : Sg) (a1 : Int32) (a2 : Int32) (z : Int64) (hF : f_mo_square σ a1 a2 = some z) : Ctr yX7_square cX7_square 3 (some .long) rm_mo_square [.ref 20, .int a1, .int a2] σ (some (.long z)) σ := by
  refine ct_start 7 (by decide) rfl (fun ad => Nat.le_of_ble_eq_true rfl) [(0, .ref 20), (1, .int a1), (2, .int a2)] (fun ad => rfl) ?_
  intro p l e s m args below meth c D ad tc A hC hA hr
  unfold f_mo_square at hF
  obtain ⟨g1, hF⟩ := gd hF
  obtain ⟨g2, hF⟩ := gd hF
  refine aw_run (pc' := 55) hC [(.aload_n 0, 1, 0, 0, .null), (.getfield 36, 3, 7, 17, .null), (.iload_n 1, 1, 0, 0, .null), (.laload, 1, 0, 0, .null), (.aload_n 0, 1, 0, 0, .null), (.getfield 36, 3, 7, 17, .null), (.iload_n 2, 1, 0, 0, .null), (.laload, 1, 0, 0, .null), (.lsub, 1, 0, 0, .null), (.aload_n 0, 1, 0, 0, .null), (.getfield 36, 3, 7, 17, .null), (.iload_n 1, 1, 0, 0, .null), (.laload, 1, 0, 0, .null), (.aload_n 0, 1, 0, 0, .null), (.getfield 36, 3, 7, 17, .null), (.iload_n 2, 1, 0, 0, .null), (.laload, 1, 0, 0, .null), (.lsub, 1, 0, 0, .null), (.lmul, 1, 0, 0, .null), (.aload_n 0, 1, 0, 0, .null), (.getfield 40, 3, 7, 18, .null), (.iload_n 1, 1, 0, 0, .null), (.laload, 1, 0, 0, .null), (.aload_n 0, 1, 0, 0, .null), (.getfield 40, 3, 7, 18, .null), (.iload_n 2, 1, 0, 0, .null), (.laload, 1, 0, 0, .null), (.lsub, 1, 0, 0, .null), (.aload_n 0, 1, 0, 0, .null), (.getfield 40, 3, 7, 18, .null), (.iload_n 1, 1, 0, 0, .null), (.laload, 1, 0, 0, .null), (.aload_n 0, 1, 0, 0, .null), (.getfield 40, 3, 7, 18, .null), (.iload_n 2, 1, 0, 0, .null), (.laload, 1, 0, 0, .null), (.lsub, 1, 0, 0, .null), (.lmul, 1, 0, 0, .null), (.ladd, 1, 0, 0, .null)] (by decide +kernel) [(0, .ref 20), (1, .int a1), (2, .int a2)] [.long ((((σ.2 28 a1.toNatClampNeg) - (σ.2 28 a2.toNatClampNeg)) * ((σ.2 28 a1.toNatClampNeg) - (σ.2 28 a2.toNatClampNeg))) + (((σ.2 29 a1.toNatClampNeg) - (σ.2 29 a2.toNatClampNeg)) * ((σ.2 29 a1.toNatClampNeg) - (σ.2 29 a2.toNatClampNeg))))] σ rfl rfl ⟨trivial, trivial, trivial, g1, trivial, trivial, trivial, g2, trivial, trivial, trivial, trivial, g1, trivial, trivial, trivial, g2, trivial, trivial, trivial, trivial, trivial, g1, trivial, trivial, trivial, g2, trivial, trivial, trivial, trivial, g1, trivial, trivial, trivial, g2, trivial, trivial, trivial, trivial⟩ rfl ?_
  exact aw_lret hC hr (by decide +kernel) (Option.some.inj hF) rfl
def f_mo_nextCorner_c57 (N : Nat) (kc12 : Int32 → Int32 → Int32 → Sg → Option Int32) (a1 : Int32) (a2 : Int32) (a3 : Int32) (a4 : Int64) (t0 : Int32) (σ : Sg) : Option Int32 := if a3 = a1 then (kc12 a1 a2 (a3 + 1) σ) else (if a4 < 0 then (kc12 a1 a3 (a3 + 1) σ) else (if t0 = 0 then (kc12 a1 a2 (a3 + 1) σ) else (kc12 a1 a3 (a3 + 1) σ)))
def f_mo_nextCorner_c56 (N : Nat) (kc12 : Int32 → Int32 → Int32 → Sg → Option Int32) (a1 : Int32) (a2 : Int32) (a3 : Int32) (a4 : Int64) (σ : Sg) : Option Int32 := f_mo_nextCorner_c57 N kc12 a1 a2 a3 a4 0 σ
def f_mo_nextCorner_c12_s (N : Nat) (kc12 : Int32 → Int32 → Int32 → Sg → Option Int32) (a1 : Int32) (a2 : Int32) (a3 : Int32) (σ : Sg) : Option Int32 := if (σ.1 20 16) ≤ a3 then (some a2) else ((f_mo_turn σ a1 a2 a3).bind fun q1 => if q1 = 0 then ((f_mo_square σ a1 a3).bind fun q2 => (f_mo_square σ a1 a2).bind fun q3 => if q2 ≤ q3 then (f_mo_nextCorner_c56 N kc12 a1 a2 a3 q1 σ) else (f_mo_nextCorner_c57 N kc12 a1 a2 a3 q1 1 σ)) else (f_mo_nextCorner_c56 N kc12 a1 a2 a3 q1 σ))
def f_mo_nextCorner_c12 (N : Nat) : Nat → Int32 → Int32 → Int32 → Sg → Option Int32
  | 0 => fun _ _ _ _ => none
  | n + 1 => f_mo_nextCorner_c12_s N (f_mo_nextCorner_c12 N n)
def f_mo_nextCorner (N : Nat) (σ : Sg) (a1 : Int32) : Option Int32 := if a1 = 0 then (f_mo_nextCorner_c12 N N a1 1 0 σ) else (f_mo_nextCorner_c12 N N a1 0 0 σ)
def rm_mo_nextCorner : Room := { frames := 1, cells := 0, slots := 0, locals := 23 }
set_option maxHeartbeats 4000000 in
set_option maxRecDepth 100000 in
theorem c_mo_nextCorner (N : Nat) (σ : Sg) (a1 : Int32) (z : Int32) (hF : f_mo_nextCorner N σ a1 = some z) : Ctr yX7_nextCorner cX7_nextCorner 7 (some .int) rm_mo_nextCorner [.ref 20, .int a1] σ (some (.int z)) σ := by
  refine ct_start 7 (by decide) rfl (fun ad => Nat.le_of_ble_eq_true rfl) [(0, .ref 20), (1, .int a1)] (fun ad => rfl) ?_
  intro p l e s m args below meth c D ad tc A hC hA hr
  have Jc57 : ∀ (kc12 : Int32 → Int32 → Int32 → Sg → Option Int32) (Hc12 : ∀ (a1 : Int32) (a2 : Int32) (a3 : Int32), kc12 a1 a2 a3 σ = some z → AW p l e rm_mo_nextCorner s m args below meth c D ad tc 7 A s.heap 0 0 (MQ below (Qr (some (.int z)) D ad tc σ A) args s 0 0 A) 12 [(0, .ref 20), (1, .int a1), (2, .int a2), (3, .int a3)] [] σ) (a1 : Int32) (a2 : Int32) (a3 : Int32) (a4 : Int64) (t0 : Int32), f_mo_nextCorner_c57 N kc12 a1 a2 a3 a4 t0 σ = some z → AW p l e rm_mo_nextCorner s m args below meth c D ad tc 7 A s.heap 0 0 (MQ below (Qr (some (.int z)) D ad tc σ A) args s 0 0 A) 57 [(0, .ref 20), (1, .int a1), (2, .int a2), (3, .int a3), (4, .long a4)] [.int t0] σ := by
    intro kc12 Hc12 a1 a2 a3 a4 t0 hF
    unfold f_mo_nextCorner_c57 at hF
    refine aw_run (pc' := 61) hC [(.istore 6, 2, 0, 0, .null), (.iload_n 3, 1, 0, 0, .null), (.iload_n 1, 1, 0, 0, .null)] (by decide +kernel) [(0, .ref 20), (1, .int a1), (2, .int a2), (3, .int a3), (4, .long a4), (6, .int t0)] [.int a1, .int a3] σ rfl rfl ⟨trivial, trivial, trivial, trivial⟩ rfl ?_
    refine aw_icmp_eq (off := 19) hC 80 (by decide +kernel) (by decide) (fun h => ?_) (fun h => ?_)
    · have hF := (if_pos h).symm.trans hF
      refine aw_run (pc' := 85) hC [(.iload_n 2, 1, 0, 0, .null), (.istore_n 2, 1, 0, 0, .null), (.iinc 3 1, 3, 0, 0, .int 1)] (by decide +kernel) [(0, .ref 20), (1, .int a1), (2, .int a2), (3, .int (a3 + 1)), (4, .long a4), (6, .int t0)] [] σ rfl rfl ⟨trivial, trivial, trivial, trivial⟩ rfl ?_
      refine aw_goto (off := -73) hC 12 (by decide +kernel) (by decide) ?_
      refine aw_pick [0, 1, 2, 3] [(0, .ref 20), (1, .int a1), (2, .int a2), (3, .int (a3 + 1))] rfl ?_
      exact Hc12 a1 a2 (a3 + 1) hF
    · have hF := (if_neg h).symm.trans hF
      refine aw_run (pc' := 68) hC [(.lload 4, 2, 0, 0, .null), (.lconst 0, 1, 0, 0, .long 0), (.lcmp, 1, 0, 0, .null)] (by decide +kernel) [(0, .ref 20), (1, .int a1), (2, .int a2), (3, .int a3), (4, .long a4), (6, .int t0)] [.int (lg_cmp a4 0)] σ rfl rfl ⟨trivial, trivial, trivial, trivial⟩ rfl ?_
      refine aw_if_lt (off := 8) hC 76 (lc_lt _ _) (by decide +kernel) (by decide) (fun h => ?_) (fun h => ?_)
      · have hF := (if_pos h).symm.trans hF
        refine aw_run (pc' := 77) hC [(.iload_n 3, 1, 0, 0, .null)] (by decide +kernel) [(0, .ref 20), (1, .int a1), (2, .int a2), (3, .int a3), (4, .long a4), (6, .int t0)] [.int a3] σ rfl rfl ⟨trivial, trivial⟩ rfl ?_
        refine aw_goto (off := 4) hC 81 (by decide +kernel) (by decide) ?_
        refine aw_run (pc' := 85) hC [(.istore_n 2, 1, 0, 0, .null), (.iinc 3 1, 3, 0, 0, .int 1)] (by decide +kernel) [(0, .ref 20), (1, .int a1), (2, .int a3), (3, .int (a3 + 1)), (4, .long a4), (6, .int t0)] [] σ rfl rfl ⟨trivial, trivial, trivial⟩ rfl ?_
        refine aw_goto (off := -73) hC 12 (by decide +kernel) (by decide) ?_
        refine aw_pick [0, 1, 2, 3] [(0, .ref 20), (1, .int a1), (2, .int a3), (3, .int (a3 + 1))] rfl ?_
        exact Hc12 a1 a3 (a3 + 1) hF
      · have hF := (if_neg h).symm.trans hF
        refine aw_run (pc' := 73) hC [(.iload 6, 2, 0, 0, .null)] (by decide +kernel) [(0, .ref 20), (1, .int a1), (2, .int a2), (3, .int a3), (4, .long a4), (6, .int t0)] [.int t0] σ rfl rfl ⟨trivial, trivial⟩ rfl ?_
        refine aw_if_eq (off := 7) hC 80 Iff.rfl (by decide +kernel) (by decide) (fun h => ?_) (fun h => ?_)
        · have hF := (if_pos h).symm.trans hF
          refine aw_run (pc' := 85) hC [(.iload_n 2, 1, 0, 0, .null), (.istore_n 2, 1, 0, 0, .null), (.iinc 3 1, 3, 0, 0, .int 1)] (by decide +kernel) [(0, .ref 20), (1, .int a1), (2, .int a2), (3, .int (a3 + 1)), (4, .long a4), (6, .int t0)] [] σ rfl rfl ⟨trivial, trivial, trivial, trivial⟩ rfl ?_
          refine aw_goto (off := -73) hC 12 (by decide +kernel) (by decide) ?_
          refine aw_pick [0, 1, 2, 3] [(0, .ref 20), (1, .int a1), (2, .int a2), (3, .int (a3 + 1))] rfl ?_
          exact Hc12 a1 a2 (a3 + 1) hF
        · have hF := (if_neg h).symm.trans hF
          refine aw_run (pc' := 77) hC [(.iload_n 3, 1, 0, 0, .null)] (by decide +kernel) [(0, .ref 20), (1, .int a1), (2, .int a2), (3, .int a3), (4, .long a4), (6, .int t0)] [.int a3] σ rfl rfl ⟨trivial, trivial⟩ rfl ?_
          refine aw_goto (off := 4) hC 81 (by decide +kernel) (by decide) ?_
          refine aw_run (pc' := 85) hC [(.istore_n 2, 1, 0, 0, .null), (.iinc 3 1, 3, 0, 0, .int 1)] (by decide +kernel) [(0, .ref 20), (1, .int a1), (2, .int a3), (3, .int (a3 + 1)), (4, .long a4), (6, .int t0)] [] σ rfl rfl ⟨trivial, trivial, trivial⟩ rfl ?_
          refine aw_goto (off := -73) hC 12 (by decide +kernel) (by decide) ?_
          refine aw_pick [0, 1, 2, 3] [(0, .ref 20), (1, .int a1), (2, .int a3), (3, .int (a3 + 1))] rfl ?_
          exact Hc12 a1 a3 (a3 + 1) hF
  have Jc56 : ∀ (kc12 : Int32 → Int32 → Int32 → Sg → Option Int32) (Hc12 : ∀ (a1 : Int32) (a2 : Int32) (a3 : Int32), kc12 a1 a2 a3 σ = some z → AW p l e rm_mo_nextCorner s m args below meth c D ad tc 7 A s.heap 0 0 (MQ below (Qr (some (.int z)) D ad tc σ A) args s 0 0 A) 12 [(0, .ref 20), (1, .int a1), (2, .int a2), (3, .int a3)] [] σ) (a1 : Int32) (a2 : Int32) (a3 : Int32) (a4 : Int64), f_mo_nextCorner_c56 N kc12 a1 a2 a3 a4 σ = some z → AW p l e rm_mo_nextCorner s m args below meth c D ad tc 7 A s.heap 0 0 (MQ below (Qr (some (.int z)) D ad tc σ A) args s 0 0 A) 56 [(0, .ref 20), (1, .int a1), (2, .int a2), (3, .int a3), (4, .long a4)] [] σ := by
    intro kc12 Hc12 a1 a2 a3 a4 hF
    unfold f_mo_nextCorner_c56 at hF
    refine aw_run (pc' := 57) hC [(.iconst 0, 1, 0, 0, .int 0)] (by decide +kernel) [(0, .ref 20), (1, .int a1), (2, .int a2), (3, .int a3), (4, .long a4)] [.int 0] σ rfl rfl ⟨trivial, trivial⟩ rfl ?_
    exact Jc57 kc12 Hc12 a1 a2 a3 a4 0 hF
  have Jc12 : ∀ (n : Nat) (a1 : Int32) (a2 : Int32) (a3 : Int32), f_mo_nextCorner_c12 N n a1 a2 a3 σ = some z → AW p l e rm_mo_nextCorner s m args below meth c D ad tc 7 A s.heap 0 0 (MQ below (Qr (some (.int z)) D ad tc σ A) args s 0 0 A) 12 [(0, .ref 20), (1, .int a1), (2, .int a2), (3, .int a3)] [] σ := by
    intro n
    induction n with
    | zero =>
      intro a1 a2 a3 hF
      cases hF
    | succ n ih =>
      intro a1 a2 a3 hF
      have hF : f_mo_nextCorner_c12_s N (f_mo_nextCorner_c12 N n) a1 a2 a3 σ = some z := hF
      unfold f_mo_nextCorner_c12_s at hF
      refine aw_run (pc' := 17) hC [(.iload_n 3, 1, 0, 0, .null), (.aload_n 0, 1, 0, 0, .null), (.getfield 160, 3, 7, 16, .null)] (by decide +kernel) [(0, .ref 20), (1, .int a1), (2, .int a2), (3, .int a3)] [.int (σ.1 20 16), .int a3] σ rfl rfl ⟨trivial, trivial, trivial, trivial⟩ rfl ?_
      refine aw_icmp_ge (off := 71) hC 88 (by decide +kernel) (by decide) (fun h => ?_) (fun h => ?_)
      · have hF := (if_pos h).symm.trans hF
        refine aw_run (pc' := 89) hC [(.iload_n 2, 1, 0, 0, .null)] (by decide +kernel) [(0, .ref 20), (1, .int a1), (2, .int a2), (3, .int a3)] [.int a2] σ rfl rfl ⟨trivial, trivial⟩ rfl ?_
        exact aw_iret hC hr (by decide +kernel) (Option.some.inj hF) rfl
      · have hF := (if_neg h).symm.trans hF
        refine aw_run (pc' := 24) hC [(.aload_n 0, 1, 0, 0, .null), (.iload_n 1, 1, 0, 0, .null), (.iload_n 2, 1, 0, 0, .null), (.iload_n 3, 1, 0, 0, .null)] (by decide +kernel) [(0, .ref 20), (1, .int a1), (2, .int a2), (3, .int a3)] [.int a3, .int a2, .int a1, .ref 20] σ rfl rfl ⟨trivial, trivial, trivial, trivial, trivial⟩ rfl ?_
        obtain ⟨q1, eq1, hF⟩ := bd hF
        refine aw_callV hC hA (rest := []) (c_mo_turn σ a1 a2 a3 q1 eq1) mt_X7_turn ln_7_163 (by decide +kernel) ⟨_, rfl⟩ rfl rfl (Nat.le_of_ble_eq_true rfl) ⟨⟨rfl, rfl⟩, Nat.le_of_ble_eq_true rfl, Nat.le_of_ble_eq_true rfl⟩ ⟨Nat.zero_le _, Nat.zero_le _⟩ rfl ?_
        refine aw_run (pc' := 33) hC [(.lstore 4, 2, 0, 0, .null), (.lload 4, 2, 0, 0, .null), (.lconst 0, 1, 0, 0, .long 0), (.lcmp, 1, 0, 0, .null)] (by decide +kernel) [(0, .ref 20), (1, .int a1), (2, .int a2), (3, .int a3), (4, .long q1)] [.int (lg_cmp q1 0)] σ rfl rfl ⟨trivial, trivial, trivial, trivial, trivial⟩ rfl ?_
        refine aw_if_ne (off := 23) hC 56 (lc_eq _ _) (by decide +kernel) (by decide) (fun h => ?_) (fun h => ?_)
        · have hF := (if_neg h).symm.trans hF
          exact Jc56 (f_mo_nextCorner_c12 N n) ih a1 a2 a3 q1 hF
        · have hF := (if_pos h).symm.trans hF
          refine aw_run (pc' := 39) hC [(.aload_n 0, 1, 0, 0, .null), (.iload_n 1, 1, 0, 0, .null), (.iload_n 3, 1, 0, 0, .null)] (by decide +kernel) [(0, .ref 20), (1, .int a1), (2, .int a2), (3, .int a3), (4, .long q1)] [.int a3, .int a1, .ref 20] σ rfl rfl ⟨trivial, trivial, trivial, trivial⟩ rfl ?_
          obtain ⟨q2, eq2, hF⟩ := bd hF
          refine aw_callV hC hA (rest := []) (c_mo_square σ a1 a3 q2 eq2) mt_X7_square ln_7_167 (by decide +kernel) ⟨_, rfl⟩ rfl rfl (Nat.le_of_ble_eq_true rfl) ⟨⟨rfl, rfl⟩, Nat.le_of_ble_eq_true rfl, Nat.le_of_ble_eq_true rfl⟩ ⟨Nat.zero_le _, Nat.zero_le _⟩ rfl ?_
          refine aw_run (pc' := 45) hC [(.aload_n 0, 1, 0, 0, .null), (.iload_n 1, 1, 0, 0, .null), (.iload_n 2, 1, 0, 0, .null)] (by decide +kernel) [(0, .ref 20), (1, .int a1), (2, .int a2), (3, .int a3), (4, .long q1)] [.int a2, .int a1, .ref 20, .long q2] σ rfl rfl ⟨trivial, trivial, trivial, trivial⟩ rfl ?_
          obtain ⟨q3, eq3, hF⟩ := bd hF
          refine aw_callV hC hA (rest := [.long q2]) (c_mo_square σ a1 a2 q3 eq3) mt_X7_square ln_7_167 (by decide +kernel) ⟨_, rfl⟩ rfl rfl (Nat.le_of_ble_eq_true rfl) ⟨⟨rfl, rfl⟩, Nat.le_of_ble_eq_true rfl, Nat.le_of_ble_eq_true rfl⟩ ⟨Nat.zero_le _, Nat.zero_le _⟩ rfl ?_
          refine aw_run (pc' := 49) hC [(.lcmp, 1, 0, 0, .null)] (by decide +kernel) [(0, .ref 20), (1, .int a1), (2, .int a2), (3, .int a3), (4, .long q1)] [.int (lg_cmp q2 q3)] σ rfl rfl ⟨trivial, trivial⟩ rfl ?_
          refine aw_if_le (off := 7) hC 56 (lc_le _ _) (by decide +kernel) (by decide) (fun h => ?_) (fun h => ?_)
          · have hF := (if_pos h).symm.trans hF
            exact Jc56 (f_mo_nextCorner_c12 N n) ih a1 a2 a3 q1 hF
          · have hF := (if_neg h).symm.trans hF
            refine aw_run (pc' := 53) hC [(.iconst 1, 1, 0, 0, .int 1)] (by decide +kernel) [(0, .ref 20), (1, .int a1), (2, .int a2), (3, .int a3), (4, .long q1)] [.int 1] σ rfl rfl ⟨trivial, trivial⟩ rfl ?_
            refine aw_goto (off := 4) hC 57 (by decide +kernel) (by decide) ?_
            exact Jc57 (f_mo_nextCorner_c12 N n) ih a1 a2 a3 q1 1 hF
  unfold f_mo_nextCorner at hF
  refine aw_run (pc' := 1) hC [(.iload_n 1, 1, 0, 0, .null)] (by decide +kernel) [(0, .ref 20), (1, .int a1)] [.int a1] σ rfl rfl ⟨trivial, trivial⟩ rfl ?_
  refine aw_if_ne (off := 7) hC 8 Iff.rfl (by decide +kernel) (by decide) (fun h => ?_) (fun h => ?_)
  · have hF := (if_neg h).symm.trans hF
    refine aw_run (pc' := 12) hC [(.iconst 0, 1, 0, 0, .int 0), (.istore_n 2, 1, 0, 0, .null), (.iconst 0, 1, 0, 0, .int 0), (.istore_n 3, 1, 0, 0, .null)] (by decide +kernel) [(0, .ref 20), (1, .int a1), (2, .int 0), (3, .int 0)] [] σ rfl rfl ⟨trivial, trivial, trivial, trivial, trivial⟩ rfl ?_
    exact Jc12 N a1 0 0 hF
  · have hF := (if_pos h).symm.trans hF
    refine aw_run (pc' := 5) hC [(.iconst 1, 1, 0, 0, .int 1)] (by decide +kernel) [(0, .ref 20), (1, .int a1)] [.int 1] σ rfl rfl ⟨trivial, trivial⟩ rfl ?_
    refine aw_goto (off := 4) hC 9 (by decide +kernel) (by decide) ?_
    refine aw_run (pc' := 12) hC [(.istore_n 2, 1, 0, 0, .null), (.iconst 0, 1, 0, 0, .int 0), (.istore_n 3, 1, 0, 0, .null)] (by decide +kernel) [(0, .ref 20), (1, .int a1), (2, .int 1), (3, .int 0)] [] σ rfl rfl ⟨trivial, trivial, trivial, trivial⟩ rfl ?_
    exact Jc12 N a1 1 0 hF
