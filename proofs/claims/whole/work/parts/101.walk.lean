def f_re_isSound (σ : Sg) : Int32 := if (f_re_isMiss σ) = 0 then (if (f_ss_isBackGreat (σ.1 3 1) (σ.1 3 2) (σ.1 3 3)) = 0 then 0 else 1) else 1
def rm_re_isSound : Room := { frames := 1, cells := 0, slots := 0, locals := 22 }
set_option maxHeartbeats 4000000 in
set_option maxRecDepth 100000 in
theorem c_re_isSound (σ : Sg) (z : Int32) (hF : f_re_isSound σ = z) : Ctr yX2_isSound cX2_isSound 1 (some .boolean) rm_re_isSound [.ref 2] σ (some (.int z)) σ := by
  refine ct_start 2 (by decide) rfl (fun ad => Nat.le_of_ble_eq_true rfl) [(0, .ref 2)] (fun ad => rfl) ?_
  intro p l e s m args below meth c D ad tc A hC hA hr
  unfold f_re_isSound at hF
  refine aw_run (pc' := 1) hC [(.aload_n 0, 1, 0, 0, .null)] (by decide +kernel) [(0, .ref 2)] [.ref 2] σ rfl rfl ⟨trivial, trivial⟩ rfl ?_
  refine aw_callV hC hA (rest := []) (c_re_isMiss σ _ rfl) mt_X2_isMiss ln_2_34 (by decide +kernel) ⟨_, rfl⟩ rfl rfl (Nat.le_of_ble_eq_true rfl) ⟨⟨rfl, rfl⟩, Nat.le_of_ble_eq_true rfl, Nat.le_of_ble_eq_true rfl⟩ ⟨Nat.zero_le _, Nat.zero_le _⟩ rfl ?_
  refine aw_if_ne (off := 27) hC 31 Iff.rfl (by decide +kernel) (by decide) (fun h => ?_) (fun h => ?_)
  · have hF := (if_neg h).symm.trans hF
    refine aw_run (pc' := 32) hC [(.iconst 1, 1, 0, 0, .int 1)] (by decide +kernel) [(0, .ref 2)] [.int 1] σ rfl rfl ⟨trivial, trivial⟩ rfl ?_
    refine aw_goto (off := 4) hC 36 (by decide +kernel) (by decide) ?_
    exact aw_zret hC hr (Or.inr rfl) (by decide +kernel) hF rfl
  · have hF := (if_pos h).symm.trans hF
    refine aw_run (pc' := 25) hC [(.aload_n 0, 1, 0, 0, .null), (.getfield 9, 3, 2, 0, .null), (.iconst 1, 1, 0, 0, .int 1), (.iaload, 1, 0, 0, .null), (.aload_n 0, 1, 0, 0, .null), (.getfield 9, 3, 2, 0, .null), (.iconst 2, 1, 0, 0, .int 2), (.iaload, 1, 0, 0, .null), (.aload_n 0, 1, 0, 0, .null), (.getfield 9, 3, 2, 0, .null), (.iconst 3, 1, 0, 0, .int 3), (.iaload, 1, 0, 0, .null)] (by decide +kernel) [(0, .ref 2)] [.int (σ.1 3 3), .int (σ.1 3 2), .int (σ.1 3 1)] σ rfl rfl ⟨trivial, trivial, trivial, (show ib 1 4 by decide), trivial, trivial, trivial, (show ib 2 4 by decide), trivial, trivial, trivial, (show ib 3 4 by decide), trivial⟩ rfl ?_
    refine aw_callN hC hA (rest := []) (c_ss_isBackGreat σ (σ.1 3 1) (σ.1 3 2) (σ.1 3 3) _ rfl) mt_X6_isBackGreat (by decide +kernel) rfl rfl (Nat.le_of_ble_eq_true rfl) ⟨⟨rfl, rfl⟩, Nat.le_of_ble_eq_true rfl, Nat.le_of_ble_eq_true rfl⟩ ⟨Nat.zero_le _, Nat.zero_le _⟩ rfl ?_
    refine aw_if_eq (off := 7) hC 35 Iff.rfl (by decide +kernel) (by decide) (fun h => ?_) (fun h => ?_)
    · have hF := (if_pos h).symm.trans hF
      refine aw_run (pc' := 36) hC [(.iconst 0, 1, 0, 0, .int 0)] (by decide +kernel) [(0, .ref 2)] [.int 0] σ rfl rfl ⟨trivial, trivial⟩ rfl ?_
      exact aw_zret hC hr (Or.inl rfl) (by decide +kernel) hF rfl
    · have hF := (if_neg h).symm.trans hF
      refine aw_run (pc' := 32) hC [(.iconst 1, 1, 0, 0, .int 1)] (by decide +kernel) [(0, .ref 2)] [.int 1] σ rfl rfl ⟨trivial, trivial⟩ rfl ?_
      refine aw_goto (off := 4) hC 36 (by decide +kernel) (by decide) ?_
      exact aw_zret hC hr (Or.inr rfl) (by decide +kernel) hF rfl
def f_re_number (σ : Sg) (a1 : Int32) : Option Int32 := if a1 < 0 then (some 0) else (if a1 < 4 then (if ib a1 4 then some (σ.1 3 a1.toNatClampNeg) else none) else (some 0))
def rm_re_number : Room := { frames := 0, cells := 0, slots := 0, locals := 0 }
set_option maxHeartbeats 4000000 in
set_option maxRecDepth 100000 in
theorem c_re_number (σ : Sg) (a1 : Int32) (z : Int32) (hF : f_re_number σ a1 = some z) : Ctr yX2_number cX2_number 2 (some .int) rm_re_number [.ref 2, .int a1] σ (some (.int z)) σ := by
  refine ct_start 2 (by decide) rfl (fun ad => Nat.le_of_ble_eq_true rfl) [(0, .ref 2), (1, .int a1)] (fun ad => rfl) ?_
  intro p l e s m args below meth c D ad tc A hC hA hr
  unfold f_re_number at hF
  refine aw_run (pc' := 1) hC [(.iload_n 1, 1, 0, 0, .null)] (by decide +kernel) [(0, .ref 2), (1, .int a1)] [.int a1] σ rfl rfl ⟨trivial, trivial⟩ rfl ?_
  refine aw_if_lt (off := 12) hC 13 Iff.rfl (by decide +kernel) (by decide) (fun h => ?_) (fun h => ?_)
  · have hF := (if_pos h).symm.trans hF
    refine aw_run (pc' := 14) hC [(.iconst 0, 1, 0, 0, .int 0)] (by decide +kernel) [(0, .ref 2), (1, .int a1)] [.int 0] σ rfl rfl ⟨trivial, trivial⟩ rfl ?_
    refine aw_goto (off := 9) hC 23 (by decide +kernel) (by decide) ?_
    exact aw_iret hC hr (by decide +kernel) (Option.some.inj hF) rfl
  · have hF := (if_neg h).symm.trans hF
    refine aw_run (pc' := 10) hC [(.iload_n 1, 1, 0, 0, .null), (.aload_n 0, 1, 0, 0, .null), (.getfield 9, 3, 2, 0, .null), (.arraylength, 1, 0, 0, .int 4)] (by decide +kernel) [(0, .ref 2), (1, .int a1)] [.int 4, .int a1] σ rfl rfl ⟨trivial, trivial, trivial, rfl, trivial⟩ rfl ?_
    refine aw_icmp_lt (off := 7) hC 17 (by decide +kernel) (by decide) (fun h => ?_) (fun h => ?_)
    · have hF := (if_pos h).symm.trans hF
      obtain ⟨g1, hF⟩ := gd hF
      refine aw_run (pc' := 23) hC [(.aload_n 0, 1, 0, 0, .null), (.getfield 9, 3, 2, 0, .null), (.iload_n 1, 1, 0, 0, .null), (.iaload, 1, 0, 0, .null)] (by decide +kernel) [(0, .ref 2), (1, .int a1)] [.int (σ.1 3 a1.toNatClampNeg)] σ rfl rfl ⟨trivial, trivial, trivial, g1, trivial⟩ rfl ?_
      exact aw_iret hC hr (by decide +kernel) (Option.some.inj hF) rfl
    · have hF := (if_neg h).symm.trans hF
      refine aw_run (pc' := 14) hC [(.iconst 0, 1, 0, 0, .int 0)] (by decide +kernel) [(0, .ref 2), (1, .int a1)] [.int 0] σ rfl rfl ⟨trivial, trivial⟩ rfl ?_
      refine aw_goto (off := 9) hC 23 (by decide +kernel) (by decide) ?_
      exact aw_iret hC hr (by decide +kernel) (Option.some.inj hF) rfl
def f_ro_find_c2_s (N : Nat) (kc2 : Int32 → Int32 → Sg → Option Int32) (a1 : Int32) (a2 : Int32) (σ : Sg) : Option Int32 := if (σ.1 4 5) ≤ a2 then (some (-1)) else (if ib a2 8 then if (σ.1 5 a2.toNatClampNeg) = a1 then (some a2) else (kc2 a1 (a2 + 1) σ) else none)
def f_ro_find_c2 (N : Nat) : Nat → Int32 → Int32 → Sg → Option Int32
  | 0 => fun _ _ _ => none
  | n + 1 => f_ro_find_c2_s N (f_ro_find_c2 N n)
def f_ro_find (N : Nat) (σ : Sg) (a1 : Int32) : Option Int32 := f_ro_find_c2 N N a1 0 σ
def rm_ro_find : Room := { frames := 0, cells := 0, slots := 0, locals := 0 }
set_option maxHeartbeats 4000000 in
set_option maxRecDepth 100000 in
theorem c_ro_find (N : Nat) (σ : Sg) (a1 : Int32) (z : Int32) (hF : f_ro_find N σ a1 = some z) : Ctr yX3_find cX3_find 3 (some .int) rm_ro_find [.ref 4, .int a1] σ (some (.int z)) σ := by
  refine ct_start 3 (by decide) rfl (fun ad => Nat.le_of_ble_eq_true rfl) [(0, .ref 4), (1, .int a1)] (fun ad => rfl) ?_
  intro p l e s m args below meth c D ad tc A hC hA hr
  have Jc2 : ∀ (n : Nat) (a1 : Int32) (a2 : Int32), f_ro_find_c2 N n a1 a2 σ = some z → AW p l e rm_ro_find s m args below meth c D ad tc 3 A s.heap 0 0 (MQ below (Qr (some (.int z)) D ad tc σ A) args s 0 0 A) 2 [(0, .ref 4), (1, .int a1), (2, .int a2)] [] σ := by
    intro n
    induction n with
    | zero =>
      intro a1 a2 hF
      cases hF
    | succ n ih =>
      intro a1 a2 hF
      have hF : f_ro_find_c2_s N (f_ro_find_c2 N n) a1 a2 σ = some z := hF
      unfold f_ro_find_c2_s at hF
      refine aw_run (pc' := 7) hC [(.iload_n 2, 1, 0, 0, .null), (.aload_n 0, 1, 0, 0, .null), (.getfield 32, 3, 3, 5, .null)] (by decide +kernel) [(0, .ref 4), (1, .int a1), (2, .int a2)] [.int (σ.1 4 5), .int a2] σ rfl rfl ⟨trivial, trivial, trivial, trivial⟩ rfl ?_
      refine aw_icmp_ge (off := 21) hC 28 (by decide +kernel) (by decide) (fun h => ?_) (fun h => ?_)
      · have hF := (if_pos h).symm.trans hF
        refine aw_run (pc' := 29) hC [(.iconst (-1), 1, 0, 0, .int (-1))] (by decide +kernel) [(0, .ref 4), (1, .int a1), (2, .int a2)] [.int (-1)] σ rfl rfl ⟨trivial, trivial⟩ rfl ?_
        exact aw_iret hC hr (by decide +kernel) (Option.some.inj hF) rfl
      · have hF := (if_neg h).symm.trans hF
        obtain ⟨g1, hF⟩ := gd hF
        refine aw_run (pc' := 17) hC [(.aload_n 0, 1, 0, 0, .null), (.getfield 9, 3, 3, 0, .null), (.iload_n 2, 1, 0, 0, .null), (.iaload, 1, 0, 0, .null), (.iload_n 1, 1, 0, 0, .null)] (by decide +kernel) [(0, .ref 4), (1, .int a1), (2, .int a2)] [.int a1, .int (σ.1 5 a2.toNatClampNeg)] σ rfl rfl ⟨trivial, trivial, trivial, g1, trivial, trivial⟩ rfl ?_
        refine aw_icmp_ne (off := 5) hC 22 (by decide +kernel) (by decide) (fun h => ?_) (fun h => ?_)
        · have hF := (if_neg h).symm.trans hF
          refine aw_run (pc' := 25) hC [(.iinc 2 1, 3, 0, 0, .int 1)] (by decide +kernel) [(0, .ref 4), (1, .int a1), (2, .int (a2 + 1))] [] σ rfl rfl ⟨trivial, trivial⟩ rfl ?_
          refine aw_goto (off := -23) hC 2 (by decide +kernel) (by decide) ?_
          exact ih a1 (a2 + 1) hF
        · have hF := (if_pos h).symm.trans hF
          refine aw_run (pc' := 21) hC [(.iload_n 2, 1, 0, 0, .null)] (by decide +kernel) [(0, .ref 4), (1, .int a1), (2, .int a2)] [.int a2] σ rfl rfl ⟨trivial, trivial⟩ rfl ?_
          exact aw_iret hC hr (by decide +kernel) (Option.some.inj hF) rfl
  unfold f_ro_find at hF
  refine aw_run (pc' := 2) hC [(.iconst 0, 1, 0, 0, .int 0), (.istore_n 2, 1, 0, 0, .null)] (by decide +kernel) [(0, .ref 4), (1, .int a1), (2, .int 0)] [] σ rfl rfl ⟨trivial, trivial, trivial⟩ rfl ?_
  exact Jc2 N a1 0 hF
def f_ro_isFull (σ : Sg) : Int32 := if (σ.1 4 5) < 8 then 0 else 1
def rm_ro_isFull : Room := { frames := 0, cells := 0, slots := 0, locals := 0 }
set_option maxHeartbeats 4000000 in
set_option maxRecDepth 100000 in
theorem c_ro_isFull (σ : Sg) (z : Int32) (hF : f_ro_isFull σ = z) : Ctr yX3_isFull cX3_isFull 1 (some .boolean) rm_ro_isFull [.ref 4] σ (some (.int z)) σ := by
  refine ct_start 3 (by decide) rfl (fun ad => Nat.le_of_ble_eq_true rfl) [(0, .ref 4)] (fun ad => rfl) ?_
  intro p l e s m args below meth c D ad tc A hC hA hr
  unfold f_ro_isFull at hF
  refine aw_run (pc' := 6) hC [(.aload_n 0, 1, 0, 0, .null), (.getfield 32, 3, 3, 5, .null), (.bipush 8, 2, 0, 0, .int 8)] (by decide +kernel) [(0, .ref 4)] [.int 8, .int (σ.1 4 5)] σ rfl rfl ⟨trivial, trivial, trivial, trivial⟩ rfl ?_
  refine aw_icmp_lt (off := 7) hC 13 (by decide +kernel) (by decide) (fun h => ?_) (fun h => ?_)
  · have hF := (if_pos h).symm.trans hF
    refine aw_run (pc' := 14) hC [(.iconst 0, 1, 0, 0, .int 0)] (by decide +kernel) [(0, .ref 4)] [.int 0] σ rfl rfl ⟨trivial, trivial⟩ rfl ?_
    exact aw_zret hC hr (Or.inl rfl) (by decide +kernel) hF rfl
  · have hF := (if_neg h).symm.trans hF
    refine aw_run (pc' := 10) hC [(.iconst 1, 1, 0, 0, .int 1)] (by decide +kernel) [(0, .ref 4)] [.int 1] σ rfl rfl ⟨trivial, trivial⟩ rfl ?_
    refine aw_goto (off := 4) hC 14 (by decide +kernel) (by decide) ?_
    exact aw_zret hC hr (Or.inr rfl) (by decide +kernel) hF rfl
def f_ro_add (σ : Sg) : Option Sg := if (f_ro_isFull σ) = 0 then ((f_re_number σ 0).bind fun q1 => if ib (σ.1 4 5) 8 then nm (uI σ 5 (σ.1 4 5).toNatClampNeg q1) fun σ3 => if ib (σ3.1 4 5) 8 then nm (uI σ3 6 (σ3.1 4 5).toNatClampNeg ((f_re_isMiss σ3) &&& 1)) fun σ5 => (f_re_number σ5 1).bind fun q6 => if ib (σ5.1 4 5) 8 then nm (uI σ5 7 (σ5.1 4 5).toNatClampNeg q6) fun σ8 => (f_re_number σ8 2).bind fun q9 => if ib (σ8.1 4 5) 8 then nm (uI σ8 8 (σ8.1 4 5).toNatClampNeg q9) fun σ11 => (f_re_number σ11 3).bind fun q12 => if ib (σ11.1 4 5) 8 then nm (uI σ11 9 (σ11.1 4 5).toNatClampNeg q12) fun σ14 => nm (uI σ14 4 5 ((σ14.1 4 5) + 1)) fun σ15 => some σ15 else none else none else none else none else none) else (some σ)
def rm_ro_add : Room := { frames := 1, cells := 0, slots := 0, locals := 21 }
set_option maxHeartbeats 4000000 in
set_option maxRecDepth 100000 in
theorem c_ro_add (σ : Sg) (z : Sg) (hF : f_ro_add σ = some z) : Ctr yX3_add cX3_add 2 none rm_ro_add [.ref 4, .ref 2] σ none z := by
  refine ct_start 3 (by decide) rfl (fun ad => Nat.le_of_ble_eq_true rfl) [(0, .ref 4), (1, .ref 2)] (fun ad => rfl) ?_
  intro p l e s m args below meth c D ad tc A hC hA hr
  unfold f_ro_add at hF
  refine aw_run (pc' := 1) hC [(.aload_n 0, 1, 0, 0, .null)] (by decide +kernel) [(0, .ref 4), (1, .ref 2)] [.ref 4] σ rfl rfl ⟨trivial, trivial⟩ rfl ?_
  refine aw_callV hC hA (rest := []) (c_ro_isFull σ _ rfl) mt_X3_isFull ln_3_35 (by decide +kernel) ⟨_, rfl⟩ rfl rfl (Nat.le_of_ble_eq_true rfl) ⟨⟨rfl, rfl⟩, Nat.le_of_ble_eq_true rfl, Nat.le_of_ble_eq_true rfl⟩ ⟨Nat.zero_le _, Nat.zero_le _⟩ rfl ?_
  refine aw_if_eq (off := 4) hC 8 Iff.rfl (by decide +kernel) (by decide) (fun h => ?_) (fun h => ?_)
  · have hF := (if_pos h).symm.trans hF
    refine aw_run (pc' := 18) hC [(.aload_n 0, 1, 0, 0, .null), (.getfield 9, 3, 3, 0, .null), (.aload_n 0, 1, 0, 0, .null), (.getfield 32, 3, 3, 5, .null), (.aload_n 1, 1, 0, 0, .null), (.iconst 0, 1, 0, 0, .int 0)] (by decide +kernel) [(0, .ref 4), (1, .ref 2)] [.int 0, .ref 2, .int (σ.1 4 5), .ref 5] σ rfl rfl ⟨trivial, trivial, trivial, trivial, trivial, trivial, trivial⟩ rfl ?_
    obtain ⟨q1, eq1, hF⟩ := bd hF
    refine aw_callV hC hA (rest := [.int (σ.1 4 5), .ref 5]) (c_re_number σ 0 q1 eq1) mt_X2_number ln_3_41 (by decide +kernel) ⟨_, rfl⟩ rfl rfl (Nat.le_of_ble_eq_true rfl) ⟨⟨rfl, rfl⟩, Nat.le_of_ble_eq_true rfl, Nat.le_of_ble_eq_true rfl⟩ ⟨Nat.zero_le _, Nat.zero_le _⟩ rfl ?_
    obtain ⟨g2, hF⟩ := gd hF
    obtain ⟨σ3, hσ3, hF⟩ := nmd hF
    refine aw_run (pc' := 22) hC [(.iastore, 1, 0, 0, .null)] (by decide +kernel) [(0, .ref 4), (1, .ref 2)] [] (uI σ 5 (σ.1 4 5).toNatClampNeg q1) rfl rfl ⟨g2, trivial⟩ hσ3 ?_
    refine aw_run (pc' := 31) hC [(.aload_n 0, 1, 0, 0, .null), (.getfield 15, 3, 3, 1, .null), (.aload_n 0, 1, 0, 0, .null), (.getfield 32, 3, 3, 5, .null), (.aload_n 1, 1, 0, 0, .null)] (by decide +kernel) [(0, .ref 4), (1, .ref 2)] [.ref 2, .int (σ3.1 4 5), .ref 6] σ3 rfl rfl ⟨trivial, trivial, trivial, trivial, trivial, trivial⟩ rfl ?_
    refine aw_callV hC hA (rest := [.int (σ3.1 4 5), .ref 6]) (c_re_isMiss σ3 _ rfl) mt_X2_isMiss ln_3_45 (by decide +kernel) ⟨_, rfl⟩ rfl rfl (Nat.le_of_ble_eq_true rfl) ⟨⟨rfl, rfl⟩, Nat.le_of_ble_eq_true rfl, Nat.le_of_ble_eq_true rfl⟩ ⟨Nat.zero_le _, Nat.zero_le _⟩ rfl ?_
    obtain ⟨g4, hF⟩ := gd hF
    obtain ⟨σ5, hσ5, hF⟩ := nmd hF
    refine aw_run (pc' := 35) hC [(.bastore, 1, 0, 0, .null)] (by decide +kernel) [(0, .ref 4), (1, .ref 2)] [] (uI σ3 6 (σ3.1 4 5).toNatClampNeg ((f_re_isMiss σ3) &&& 1)) rfl rfl ⟨g4, trivial⟩ hσ5 ?_
    refine aw_run (pc' := 45) hC [(.aload_n 0, 1, 0, 0, .null), (.getfield 19, 3, 3, 2, .null), (.aload_n 0, 1, 0, 0, .null), (.getfield 32, 3, 3, 5, .null), (.aload_n 1, 1, 0, 0, .null), (.iconst 1, 1, 0, 0, .int 1)] (by decide +kernel) [(0, .ref 4), (1, .ref 2)] [.int 1, .ref 2, .int (σ5.1 4 5), .ref 7] σ5 rfl rfl ⟨trivial, trivial, trivial, trivial, trivial, trivial, trivial⟩ rfl ?_
    obtain ⟨q6, eq6, hF⟩ := bd hF
    refine aw_callV hC hA (rest := [.int (σ5.1 4 5), .ref 7]) (c_re_number σ5 1 q6 eq6) mt_X2_number ln_3_41 (by decide +kernel) ⟨_, rfl⟩ rfl rfl (Nat.le_of_ble_eq_true rfl) ⟨⟨rfl, rfl⟩, Nat.le_of_ble_eq_true rfl, Nat.le_of_ble_eq_true rfl⟩ ⟨Nat.zero_le _, Nat.zero_le _⟩ rfl ?_
    obtain ⟨g7, hF⟩ := gd hF
    obtain ⟨σ8, hσ8, hF⟩ := nmd hF
    refine aw_run (pc' := 49) hC [(.iastore, 1, 0, 0, .null)] (by decide +kernel) [(0, .ref 4), (1, .ref 2)] [] (uI σ5 7 (σ5.1 4 5).toNatClampNeg q6) rfl rfl ⟨g7, trivial⟩ hσ8 ?_
    refine aw_run (pc' := 59) hC [(.aload_n 0, 1, 0, 0, .null), (.getfield 22, 3, 3, 3, .null), (.aload_n 0, 1, 0, 0, .null), (.getfield 32, 3, 3, 5, .null), (.aload_n 1, 1, 0, 0, .null), (.iconst 2, 1, 0, 0, .int 2)] (by decide +kernel) [(0, .ref 4), (1, .ref 2)] [.int 2, .ref 2, .int (σ8.1 4 5), .ref 8] σ8 rfl rfl ⟨trivial, trivial, trivial, trivial, trivial, trivial, trivial⟩ rfl ?_
    obtain ⟨q9, eq9, hF⟩ := bd hF
    refine aw_callV hC hA (rest := [.int (σ8.1 4 5), .ref 8]) (c_re_number σ8 2 q9 eq9) mt_X2_number ln_3_41 (by decide +kernel) ⟨_, rfl⟩ rfl rfl (Nat.le_of_ble_eq_true rfl) ⟨⟨rfl, rfl⟩, Nat.le_of_ble_eq_true rfl, Nat.le_of_ble_eq_true rfl⟩ ⟨Nat.zero_le _, Nat.zero_le _⟩ rfl ?_
    obtain ⟨g10, hF⟩ := gd hF
    obtain ⟨σ11, hσ11, hF⟩ := nmd hF
    refine aw_run (pc' := 63) hC [(.iastore, 1, 0, 0, .null)] (by decide +kernel) [(0, .ref 4), (1, .ref 2)] [] (uI σ8 8 (σ8.1 4 5).toNatClampNeg q9) rfl rfl ⟨g10, trivial⟩ hσ11 ?_
    refine aw_run (pc' := 73) hC [(.aload_n 0, 1, 0, 0, .null), (.getfield 25, 3, 3, 4, .null), (.aload_n 0, 1, 0, 0, .null), (.getfield 32, 3, 3, 5, .null), (.aload_n 1, 1, 0, 0, .null), (.iconst 3, 1, 0, 0, .int 3)] (by decide +kernel) [(0, .ref 4), (1, .ref 2)] [.int 3, .ref 2, .int (σ11.1 4 5), .ref 9] σ11 rfl rfl ⟨trivial, trivial, trivial, trivial, trivial, trivial, trivial⟩ rfl ?_
    obtain ⟨q12, eq12, hF⟩ := bd hF
    refine aw_callV hC hA (rest := [.int (σ11.1 4 5), .ref 9]) (c_re_number σ11 3 q12 eq12) mt_X2_number ln_3_41 (by decide +kernel) ⟨_, rfl⟩ rfl rfl (Nat.le_of_ble_eq_true rfl) ⟨⟨rfl, rfl⟩, Nat.le_of_ble_eq_true rfl, Nat.le_of_ble_eq_true rfl⟩ ⟨Nat.zero_le _, Nat.zero_le _⟩ rfl ?_
    obtain ⟨g13, hF⟩ := gd hF
    obtain ⟨σ14, hσ14, hF⟩ := nmd hF
    refine aw_run (pc' := 77) hC [(.iastore, 1, 0, 0, .null)] (by decide +kernel) [(0, .ref 4), (1, .ref 2)] [] (uI σ11 9 (σ11.1 4 5).toNatClampNeg q12) rfl rfl ⟨g13, trivial⟩ hσ14 ?_
    obtain ⟨σ15, hσ15, hF⟩ := nmd hF
    refine aw_run (pc' := 87) hC [(.aload_n 0, 1, 0, 0, .null), (.dup, 1, 0, 0, .null), (.getfield 32, 3, 3, 5, .null), (.iconst 1, 1, 0, 0, .int 1), (.iadd, 1, 0, 0, .null), (.putfield 32, 3, 3, 5, .null)] (by decide +kernel) [(0, .ref 4), (1, .ref 2)] [] (uI σ14 4 5 ((σ14.1 4 5) + 1)) rfl rfl ⟨trivial, trivial, trivial, trivial, trivial, trivial, trivial⟩ hσ15 ?_
    exact aw_vret hC hr (by decide +kernel)  (Option.some.inj hF)
  · have hF := (if_neg h).symm.trans hF
    exact aw_vret hC hr (by decide +kernel)  (Option.some.inj hF)
def f_ji_bitCount_0f7a4 (a0 : Int32) : Int32 := (((((((a0 - ((a0.toUInt32 >>> ((1 : Int32).toUInt32 &&& Int32.toUInt32 31)).toInt32 &&& 1431655765)) &&& 858993459) + (((a0 - ((a0.toUInt32 >>> ((1 : Int32).toUInt32 &&& Int32.toUInt32 31)).toInt32 &&& 1431655765)).toUInt32 >>> ((2 : Int32).toUInt32 &&& Int32.toUInt32 31)).toInt32 &&& 858993459)) + ((((a0 - ((a0.toUInt32 >>> ((1 : Int32).toUInt32 &&& Int32.toUInt32 31)).toInt32 &&& 1431655765)) &&& 858993459) + (((a0 - ((a0.toUInt32 >>> ((1 : Int32).toUInt32 &&& Int32.toUInt32 31)).toInt32 &&& 1431655765)).toUInt32 >>> ((2 : Int32).toUInt32 &&& Int32.toUInt32 31)).toInt32 &&& 858993459)).toUInt32 >>> ((4 : Int32).toUInt32 &&& Int32.toUInt32 31)).toInt32) &&& 252645135) + ((((((a0 - ((a0.toUInt32 >>> ((1 : Int32).toUInt32 &&& Int32.toUInt32 31)).toInt32 &&& 1431655765)) &&& 858993459) + (((a0 - ((a0.toUInt32 >>> ((1 : Int32).toUInt32 &&& Int32.toUInt32 31)).toInt32 &&& 1431655765)).toUInt32 >>> ((2 : Int32).toUInt32 &&& Int32.toUInt32 31)).toInt32 &&& 858993459)) + ((((a0 - ((a0.toUInt32 >>> ((1 : Int32).toUInt32 &&& Int32.toUInt32 31)).toInt32 &&& 1431655765)) &&& 858993459) + (((a0 - ((a0.toUInt32 >>> ((1 : Int32).toUInt32 &&& Int32.toUInt32 31)).toInt32 &&& 1431655765)).toUInt32 >>> ((2 : Int32).toUInt32 &&& Int32.toUInt32 31)).toInt32 &&& 858993459)).toUInt32 >>> ((4 : Int32).toUInt32 &&& Int32.toUInt32 31)).toInt32) &&& 252645135).toUInt32 >>> ((8 : Int32).toUInt32 &&& Int32.toUInt32 31)).toInt32) + (((((((a0 - ((a0.toUInt32 >>> ((1 : Int32).toUInt32 &&& Int32.toUInt32 31)).toInt32 &&& 1431655765)) &&& 858993459) + (((a0 - ((a0.toUInt32 >>> ((1 : Int32).toUInt32 &&& Int32.toUInt32 31)).toInt32 &&& 1431655765)).toUInt32 >>> ((2 : Int32).toUInt32 &&& Int32.toUInt32 31)).toInt32 &&& 858993459)) + ((((a0 - ((a0.toUInt32 >>> ((1 : Int32).toUInt32 &&& Int32.toUInt32 31)).toInt32 &&& 1431655765)) &&& 858993459) + (((a0 - ((a0.toUInt32 >>> ((1 : Int32).toUInt32 &&& Int32.toUInt32 31)).toInt32 &&& 1431655765)).toUInt32 >>> ((2 : Int32).toUInt32 &&& Int32.toUInt32 31)).toInt32 &&& 858993459)).toUInt32 >>> ((4 : Int32).toUInt32 &&& Int32.toUInt32 31)).toInt32) &&& 252645135) + ((((((a0 - ((a0.toUInt32 >>> ((1 : Int32).toUInt32 &&& Int32.toUInt32 31)).toInt32 &&& 1431655765)) &&& 858993459) + (((a0 - ((a0.toUInt32 >>> ((1 : Int32).toUInt32 &&& Int32.toUInt32 31)).toInt32 &&& 1431655765)).toUInt32 >>> ((2 : Int32).toUInt32 &&& Int32.toUInt32 31)).toInt32 &&& 858993459)) + ((((a0 - ((a0.toUInt32 >>> ((1 : Int32).toUInt32 &&& Int32.toUInt32 31)).toInt32 &&& 1431655765)) &&& 858993459) + (((a0 - ((a0.toUInt32 >>> ((1 : Int32).toUInt32 &&& Int32.toUInt32 31)).toInt32 &&& 1431655765)).toUInt32 >>> ((2 : Int32).toUInt32 &&& Int32.toUInt32 31)).toInt32 &&& 858993459)).toUInt32 >>> ((4 : Int32).toUInt32 &&& Int32.toUInt32 31)).toInt32) &&& 252645135).toUInt32 >>> ((8 : Int32).toUInt32 &&& Int32.toUInt32 31)).toInt32).toUInt32 >>> ((16 : Int32).toUInt32 &&& Int32.toUInt32 31)).toInt32) &&& 63
def rm_ji_bitCount_0f7a4 : Room := { frames := 0, cells := 0, slots := 0, locals := 0 }
set_option maxHeartbeats 4000000 in
set_option maxRecDepth 100000 in
theorem c_ji_bitCount_0f7a4 (σ : Sg) (a0 : Int32) (z : Int32) (hF : f_ji_bitCount_0f7a4 a0 = z) : Ctr yJ6_bitCount_0f7a4 cJ6_bitCount_0f7a4 1 (some .int) rm_ji_bitCount_0f7a4 [.int a0] σ (some (.int z)) σ := by
  refine ct_startJ 8 pf_J6_bitCount_0f7a4 rfl (fun ad => Nat.le_of_ble_eq_true rfl) [(0, .int a0)] (fun ad => rfl) ?_
  intro p l e s m args below meth c D ad tc A hC hA hr
  unfold f_ji_bitCount_0f7a4 at hF
  refine aw_run (pc' := 52) hC [(.iload_n 0, 1, 0, 0, .null), (.iload_n 0, 1, 0, 0, .null), (.iconst 1, 1, 0, 0, .int 1), (.iushr, 1, 0, 0, .null), (.ldc_w 265, 3, 0, 0, .int 1431655765), (.iand, 1, 0, 0, .null), (.isub, 1, 0, 0, .null), (.istore_n 0, 1, 0, 0, .null), (.iload_n 0, 1, 0, 0, .null), (.ldc_w 266, 3, 0, 0, .int 858993459), (.iand, 1, 0, 0, .null), (.iload_n 0, 1, 0, 0, .null), (.iconst 2, 1, 0, 0, .int 2), (.iushr, 1, 0, 0, .null), (.ldc_w 266, 3, 0, 0, .int 858993459), (.iand, 1, 0, 0, .null), (.iadd, 1, 0, 0, .null), (.istore_n 0, 1, 0, 0, .null), (.iload_n 0, 1, 0, 0, .null), (.iload_n 0, 1, 0, 0, .null), (.iconst 4, 1, 0, 0, .int 4), (.iushr, 1, 0, 0, .null), (.iadd, 1, 0, 0, .null), (.ldc_w 267, 3, 0, 0, .int 252645135), (.iand, 1, 0, 0, .null), (.istore_n 0, 1, 0, 0, .null), (.iload_n 0, 1, 0, 0, .null), (.iload_n 0, 1, 0, 0, .null), (.bipush 8, 2, 0, 0, .int 8), (.iushr, 1, 0, 0, .null), (.iadd, 1, 0, 0, .null), (.istore_n 0, 1, 0, 0, .null), (.iload_n 0, 1, 0, 0, .null), (.iload_n 0, 1, 0, 0, .null), (.bipush 16, 2, 0, 0, .int 16), (.iushr, 1, 0, 0, .null), (.iadd, 1, 0, 0, .null), (.istore_n 0, 1, 0, 0, .null), (.iload_n 0, 1, 0, 0, .null), (.bipush 63, 2, 0, 0, .int 63), (.iand, 1, 0, 0, .null)] (by decide +kernel) [(0, .int (((((((a0 - ((a0.toUInt32 >>> ((1 : Int32).toUInt32 &&& Int32.toUInt32 31)).toInt32 &&& 1431655765)) &&& 858993459) + (((a0 - ((a0.toUInt32 >>> ((1 : Int32).toUInt32 &&& Int32.toUInt32 31)).toInt32 &&& 1431655765)).toUInt32 >>> ((2 : Int32).toUInt32 &&& Int32.toUInt32 31)).toInt32 &&& 858993459)) + ((((a0 - ((a0.toUInt32 >>> ((1 : Int32).toUInt32 &&& Int32.toUInt32 31)).toInt32 &&& 1431655765)) &&& 858993459) + (((a0 - ((a0.toUInt32 >>> ((1 : Int32).toUInt32 &&& Int32.toUInt32 31)).toInt32 &&& 1431655765)).toUInt32 >>> ((2 : Int32).toUInt32 &&& Int32.toUInt32 31)).toInt32 &&& 858993459)).toUInt32 >>> ((4 : Int32).toUInt32 &&& Int32.toUInt32 31)).toInt32) &&& 252645135) + ((((((a0 - ((a0.toUInt32 >>> ((1 : Int32).toUInt32 &&& Int32.toUInt32 31)).toInt32 &&& 1431655765)) &&& 858993459) + (((a0 - ((a0.toUInt32 >>> ((1 : Int32).toUInt32 &&& Int32.toUInt32 31)).toInt32 &&& 1431655765)).toUInt32 >>> ((2 : Int32).toUInt32 &&& Int32.toUInt32 31)).toInt32 &&& 858993459)) + ((((a0 - ((a0.toUInt32 >>> ((1 : Int32).toUInt32 &&& Int32.toUInt32 31)).toInt32 &&& 1431655765)) &&& 858993459) + (((a0 - ((a0.toUInt32 >>> ((1 : Int32).toUInt32 &&& Int32.toUInt32 31)).toInt32 &&& 1431655765)).toUInt32 >>> ((2 : Int32).toUInt32 &&& Int32.toUInt32 31)).toInt32 &&& 858993459)).toUInt32 >>> ((4 : Int32).toUInt32 &&& Int32.toUInt32 31)).toInt32) &&& 252645135).toUInt32 >>> ((8 : Int32).toUInt32 &&& Int32.toUInt32 31)).toInt32) + (((((((a0 - ((a0.toUInt32 >>> ((1 : Int32).toUInt32 &&& Int32.toUInt32 31)).toInt32 &&& 1431655765)) &&& 858993459) + (((a0 - ((a0.toUInt32 >>> ((1 : Int32).toUInt32 &&& Int32.toUInt32 31)).toInt32 &&& 1431655765)).toUInt32 >>> ((2 : Int32).toUInt32 &&& Int32.toUInt32 31)).toInt32 &&& 858993459)) + ((((a0 - ((a0.toUInt32 >>> ((1 : Int32).toUInt32 &&& Int32.toUInt32 31)).toInt32 &&& 1431655765)) &&& 858993459) + (((a0 - ((a0.toUInt32 >>> ((1 : Int32).toUInt32 &&& Int32.toUInt32 31)).toInt32 &&& 1431655765)).toUInt32 >>> ((2 : Int32).toUInt32 &&& Int32.toUInt32 31)).toInt32 &&& 858993459)).toUInt32 >>> ((4 : Int32).toUInt32 &&& Int32.toUInt32 31)).toInt32) &&& 252645135) + ((((((a0 - ((a0.toUInt32 >>> ((1 : Int32).toUInt32 &&& Int32.toUInt32 31)).toInt32 &&& 1431655765)) &&& 858993459) + (((a0 - ((a0.toUInt32 >>> ((1 : Int32).toUInt32 &&& Int32.toUInt32 31)).toInt32 &&& 1431655765)).toUInt32 >>> ((2 : Int32).toUInt32 &&& Int32.toUInt32 31)).toInt32 &&& 858993459)) + ((((a0 - ((a0.toUInt32 >>> ((1 : Int32).toUInt32 &&& Int32.toUInt32 31)).toInt32 &&& 1431655765)) &&& 858993459) + (((a0 - ((a0.toUInt32 >>> ((1 : Int32).toUInt32 &&& Int32.toUInt32 31)).toInt32 &&& 1431655765)).toUInt32 >>> ((2 : Int32).toUInt32 &&& Int32.toUInt32 31)).toInt32 &&& 858993459)).toUInt32 >>> ((4 : Int32).toUInt32 &&& Int32.toUInt32 31)).toInt32) &&& 252645135).toUInt32 >>> ((8 : Int32).toUInt32 &&& Int32.toUInt32 31)).toInt32).toUInt32 >>> ((16 : Int32).toUInt32 &&& Int32.toUInt32 31)).toInt32))] [.int ((((((((a0 - ((a0.toUInt32 >>> ((1 : Int32).toUInt32 &&& Int32.toUInt32 31)).toInt32 &&& 1431655765)) &&& 858993459) + (((a0 - ((a0.toUInt32 >>> ((1 : Int32).toUInt32 &&& Int32.toUInt32 31)).toInt32 &&& 1431655765)).toUInt32 >>> ((2 : Int32).toUInt32 &&& Int32.toUInt32 31)).toInt32 &&& 858993459)) + ((((a0 - ((a0.toUInt32 >>> ((1 : Int32).toUInt32 &&& Int32.toUInt32 31)).toInt32 &&& 1431655765)) &&& 858993459) + (((a0 - ((a0.toUInt32 >>> ((1 : Int32).toUInt32 &&& Int32.toUInt32 31)).toInt32 &&& 1431655765)).toUInt32 >>> ((2 : Int32).toUInt32 &&& Int32.toUInt32 31)).toInt32 &&& 858993459)).toUInt32 >>> ((4 : Int32).toUInt32 &&& Int32.toUInt32 31)).toInt32) &&& 252645135) + ((((((a0 - ((a0.toUInt32 >>> ((1 : Int32).toUInt32 &&& Int32.toUInt32 31)).toInt32 &&& 1431655765)) &&& 858993459) + (((a0 - ((a0.toUInt32 >>> ((1 : Int32).toUInt32 &&& Int32.toUInt32 31)).toInt32 &&& 1431655765)).toUInt32 >>> ((2 : Int32).toUInt32 &&& Int32.toUInt32 31)).toInt32 &&& 858993459)) + ((((a0 - ((a0.toUInt32 >>> ((1 : Int32).toUInt32 &&& Int32.toUInt32 31)).toInt32 &&& 1431655765)) &&& 858993459) + (((a0 - ((a0.toUInt32 >>> ((1 : Int32).toUInt32 &&& Int32.toUInt32 31)).toInt32 &&& 1431655765)).toUInt32 >>> ((2 : Int32).toUInt32 &&& Int32.toUInt32 31)).toInt32 &&& 858993459)).toUInt32 >>> ((4 : Int32).toUInt32 &&& Int32.toUInt32 31)).toInt32) &&& 252645135).toUInt32 >>> ((8 : Int32).toUInt32 &&& Int32.toUInt32 31)).toInt32) + (((((((a0 - ((a0.toUInt32 >>> ((1 : Int32).toUInt32 &&& Int32.toUInt32 31)).toInt32 &&& 1431655765)) &&& 858993459) + (((a0 - ((a0.toUInt32 >>> ((1 : Int32).toUInt32 &&& Int32.toUInt32 31)).toInt32 &&& 1431655765)).toUInt32 >>> ((2 : Int32).toUInt32 &&& Int32.toUInt32 31)).toInt32 &&& 858993459)) + ((((a0 - ((a0.toUInt32 >>> ((1 : Int32).toUInt32 &&& Int32.toUInt32 31)).toInt32 &&& 1431655765)) &&& 858993459) + (((a0 - ((a0.toUInt32 >>> ((1 : Int32).toUInt32 &&& Int32.toUInt32 31)).toInt32 &&& 1431655765)).toUInt32 >>> ((2 : Int32).toUInt32 &&& Int32.toUInt32 31)).toInt32 &&& 858993459)).toUInt32 >>> ((4 : Int32).toUInt32 &&& Int32.toUInt32 31)).toInt32) &&& 252645135) + ((((((a0 - ((a0.toUInt32 >>> ((1 : Int32).toUInt32 &&& Int32.toUInt32 31)).toInt32 &&& 1431655765)) &&& 858993459) + (((a0 - ((a0.toUInt32 >>> ((1 : Int32).toUInt32 &&& Int32.toUInt32 31)).toInt32 &&& 1431655765)).toUInt32 >>> ((2 : Int32).toUInt32 &&& Int32.toUInt32 31)).toInt32 &&& 858993459)) + ((((a0 - ((a0.toUInt32 >>> ((1 : Int32).toUInt32 &&& Int32.toUInt32 31)).toInt32 &&& 1431655765)) &&& 858993459) + (((a0 - ((a0.toUInt32 >>> ((1 : Int32).toUInt32 &&& Int32.toUInt32 31)).toInt32 &&& 1431655765)).toUInt32 >>> ((2 : Int32).toUInt32 &&& Int32.toUInt32 31)).toInt32 &&& 858993459)).toUInt32 >>> ((4 : Int32).toUInt32 &&& Int32.toUInt32 31)).toInt32) &&& 252645135).toUInt32 >>> ((8 : Int32).toUInt32 &&& Int32.toUInt32 31)).toInt32).toUInt32 >>> ((16 : Int32).toUInt32 &&& Int32.toUInt32 31)).toInt32) &&& 63)] σ rfl rfl ⟨trivial, trivial, trivial, trivial, trivial, trivial, trivial, trivial, trivial, trivial, trivial, trivial, trivial, trivial, trivial, trivial, trivial, trivial, trivial, trivial, trivial, trivial, trivial, trivial, trivial, trivial, trivial, trivial, trivial, trivial, trivial, trivial, trivial, trivial, trivial, trivial, trivial, trivial, trivial, trivial, trivial, trivial⟩ rfl ?_
  exact aw_iret hC hr (by decide +kernel) hF rfl
def f_ve_isCure_c2_s (N : Nat) (kc2 : Int32 → Int32 → Sg → Option Int32) (a1 : Int32) (a2 : Int32) (σ : Sg) : Option Int32 := if (σ.1 10 1) ≤ a2 then (some 1) else (if ib a2 56 then if ((σ.1 11 a2.toNatClampNeg) &&& a1) = 0 then (some 0) else (kc2 a1 (a2 + 1) σ) else none)
def f_ve_isCure_c2 (N : Nat) : Nat → Int32 → Int32 → Sg → Option Int32
  | 0 => fun _ _ _ => none
  | n + 1 => f_ve_isCure_c2_s N (f_ve_isCure_c2 N n)
def f_ve_isCure (N : Nat) (σ : Sg) (a1 : Int32) : Option Int32 := f_ve_isCure_c2 N N a1 0 σ
def rm_ve_isCure : Room := { frames := 0, cells := 0, slots := 0, locals := 0 }
set_option maxHeartbeats 4000000 in
set_option maxRecDepth 100000 in
theorem c_ve_isCure (N : Nat) (σ : Sg) (a1 : Int32) (z : Int32) (hF : f_ve_isCure N σ a1 = some z) : Ctr yX5_isCure cX5_isCure 3 (some .boolean) rm_ve_isCure [.ref 10, .int a1] σ (some (.int z)) σ := by
  refine ct_start 5 (by decide) rfl (fun ad => Nat.le_of_ble_eq_true rfl) [(0, .ref 10), (1, .int a1)] (fun ad => rfl) ?_
  intro p l e s m args below meth c D ad tc A hC hA hr
  have Jc2 : ∀ (n : Nat) (a1 : Int32) (a2 : Int32), f_ve_isCure_c2 N n a1 a2 σ = some z → AW p l e rm_ve_isCure s m args below meth c D ad tc 3 A s.heap 0 0 (MQ below (Qr (some (.int z)) D ad tc σ A) args s 0 0 A) 2 [(0, .ref 10), (1, .int a1), (2, .int a2)] [] σ := by
    intro n
    induction n with
    | zero =>
      intro a1 a2 hF
      cases hF
    | succ n ih =>
      intro a1 a2 hF
      have hF : f_ve_isCure_c2_s N (f_ve_isCure_c2 N n) a1 a2 σ = some z := hF
      unfold f_ve_isCure_c2_s at hF
      refine aw_run (pc' := 7) hC [(.iload_n 2, 1, 0, 0, .null), (.aload_n 0, 1, 0, 0, .null), (.getfield 15, 3, 5, 1, .null)] (by decide +kernel) [(0, .ref 10), (1, .int a1), (2, .int a2)] [.int (σ.1 10 1), .int a2] σ rfl rfl ⟨trivial, trivial, trivial, trivial⟩ rfl ?_
      refine aw_icmp_ge (off := 22) hC 29 (by decide +kernel) (by decide) (fun h => ?_) (fun h => ?_)
      · have hF := (if_pos h).symm.trans hF
        refine aw_run (pc' := 30) hC [(.iconst 1, 1, 0, 0, .int 1)] (by decide +kernel) [(0, .ref 10), (1, .int a1), (2, .int a2)] [.int 1] σ rfl rfl ⟨trivial, trivial⟩ rfl ?_
        exact aw_zret hC hr (Or.inr rfl) (by decide +kernel) (Option.some.inj hF) rfl
      · have hF := (if_neg h).symm.trans hF
        obtain ⟨g1, hF⟩ := gd hF
        refine aw_run (pc' := 18) hC [(.aload_n 0, 1, 0, 0, .null), (.getfield 11, 3, 5, 0, .null), (.iload_n 2, 1, 0, 0, .null), (.iaload, 1, 0, 0, .null), (.iload_n 1, 1, 0, 0, .null), (.iand, 1, 0, 0, .null)] (by decide +kernel) [(0, .ref 10), (1, .int a1), (2, .int a2)] [.int ((σ.1 11 a2.toNatClampNeg) &&& a1)] σ rfl rfl ⟨trivial, trivial, trivial, g1, trivial, trivial, trivial⟩ rfl ?_
        refine aw_if_ne (off := 5) hC 23 Iff.rfl (by decide +kernel) (by decide) (fun h => ?_) (fun h => ?_)
        · have hF := (if_neg h).symm.trans hF
          refine aw_run (pc' := 26) hC [(.iinc 2 1, 3, 0, 0, .int 1)] (by decide +kernel) [(0, .ref 10), (1, .int a1), (2, .int (a2 + 1))] [] σ rfl rfl ⟨trivial, trivial⟩ rfl ?_
          refine aw_goto (off := -24) hC 2 (by decide +kernel) (by decide) ?_
          exact ih a1 (a2 + 1) hF
        · have hF := (if_pos h).symm.trans hF
          refine aw_run (pc' := 22) hC [(.iconst 0, 1, 0, 0, .int 0)] (by decide +kernel) [(0, .ref 10), (1, .int a1), (2, .int a2)] [.int 0] σ rfl rfl ⟨trivial, trivial⟩ rfl ?_
          exact aw_zret hC hr (Or.inl rfl) (by decide +kernel) (Option.some.inj hF) rfl
  unfold f_ve_isCure at hF
  refine aw_run (pc' := 2) hC [(.iconst 0, 1, 0, 0, .int 0), (.istore_n 2, 1, 0, 0, .null)] (by decide +kernel) [(0, .ref 10), (1, .int a1), (2, .int 0)] [] σ rfl rfl ⟨trivial, trivial, trivial⟩ rfl ?_
  exact Jc2 N a1 0 hF
def f_ve_fewest_c20_s (N : Nat) (kc20 : Int32 → Int32 → Int32 → Sg → Option Int32) (a2 : Int32) (a3 : Int32) (a4 : Int32) (σ : Sg) : Option Int32 := if a2 ≤ a4 then (some a3) else (if (f_ji_bitCount_0f7a4 a3) ≤ (f_ji_bitCount_0f7a4 a4) then (kc20 a2 a3 (a4 + 1) σ) else ((f_ve_isCure N σ a4).bind fun q1 => if q1 = 0 then (kc20 a2 a3 (a4 + 1) σ) else (kc20 a2 a4 (a4 + 1) σ)))
def f_ve_fewest_c20 (N : Nat) : Nat → Int32 → Int32 → Int32 → Sg → Option Int32
  | 0 => fun _ _ _ _ => none
  | n + 1 => f_ve_fewest_c20_s N (f_ve_fewest_c20 N n)
def f_ve_fewest (N : Nat) (σ : Sg) (a1 : Int32) : Option Int32 := if (σ.1 10 1) = 0 then (some 0) else (f_ve_fewest_c20 N N (((1 : Int32) <<< (a1 &&& 31)) - 1) (((1 : Int32) <<< (a1 &&& 31)) - 1) 0 σ)
def rm_ve_fewest : Room := { frames := 1, cells := 0, slots := 0, locals := 22 }
set_option maxHeartbeats 4000000 in
set_option maxRecDepth 100000 in
theorem c_ve_fewest (N : Nat) (σ : Sg) (a1 : Int32) (z : Int32) (hF : f_ve_fewest N σ a1 = some z) : Ctr yX5_fewest cX5_fewest 5 (some .int) rm_ve_fewest [.ref 10, .int a1] σ (some (.int z)) σ := by
  refine ct_start 5 (by decide) rfl (fun ad => Nat.le_of_ble_eq_true rfl) [(0, .ref 10), (1, .int a1)] (fun ad => rfl) ?_
  intro p l e s m args below meth c D ad tc A hC hA hr
  have Jc20 : ∀ (n : Nat) (a2 : Int32) (a3 : Int32) (a4 : Int32), f_ve_fewest_c20 N n a2 a3 a4 σ = some z → AW p l e rm_ve_fewest s m args below meth c D ad tc 5 A s.heap 0 0 (MQ below (Qr (some (.int z)) D ad tc σ A) args s 0 0 A) 20 [(0, .ref 10), (2, .int a2), (3, .int a3), (4, .int a4)] [] σ := by
    intro n
    induction n with
    | zero =>
      intro a2 a3 a4 hF
      cases hF
    | succ n ih =>
      intro a2 a3 a4 hF
      have hF : f_ve_fewest_c20_s N (f_ve_fewest_c20 N n) a2 a3 a4 σ = some z := hF
      unfold f_ve_fewest_c20_s at hF
      refine aw_run (pc' := 23) hC [(.iload 4, 2, 0, 0, .null), (.iload_n 2, 1, 0, 0, .null)] (by decide +kernel) [(0, .ref 10), (2, .int a2), (3, .int a3), (4, .int a4)] [.int a2, .int a4] σ rfl rfl ⟨trivial, trivial, trivial⟩ rfl ?_
      refine aw_icmp_ge (off := 33) hC 56 (by decide +kernel) (by decide) (fun h => ?_) (fun h => ?_)
      · have hF := (if_pos h).symm.trans hF
        refine aw_run (pc' := 57) hC [(.iload_n 3, 1, 0, 0, .null)] (by decide +kernel) [(0, .ref 10), (2, .int a2), (3, .int a3), (4, .int a4)] [.int a3] σ rfl rfl ⟨trivial, trivial⟩ rfl ?_
        exact aw_iret hC hr (by decide +kernel) (Option.some.inj hF) rfl
      · have hF := (if_neg h).symm.trans hF
        refine aw_run (pc' := 28) hC [(.iload 4, 2, 0, 0, .null)] (by decide +kernel) [(0, .ref 10), (2, .int a2), (3, .int a3), (4, .int a4)] [.int a4] σ rfl rfl ⟨trivial, trivial⟩ rfl ?_
        refine aw_callS hC hA (rest := []) (c_ji_bitCount_0f7a4 σ a4 _ rfl) mt_J6_bitCount_0f7a4 ln_5_57 (by decide +kernel) rfl rfl (Nat.le_of_ble_eq_true rfl) ⟨⟨rfl, rfl⟩, Nat.le_of_ble_eq_true rfl, Nat.le_of_ble_eq_true rfl⟩ ⟨Nat.zero_le _, Nat.zero_le _⟩ rfl ?_
        refine aw_run (pc' := 32) hC [(.iload_n 3, 1, 0, 0, .null)] (by decide +kernel) [(0, .ref 10), (2, .int a2), (3, .int a3), (4, .int a4)] [.int a3, .int (f_ji_bitCount_0f7a4 a4)] σ rfl rfl ⟨trivial, trivial⟩ rfl ?_
        refine aw_callS hC hA (rest := [.int (f_ji_bitCount_0f7a4 a4)]) (c_ji_bitCount_0f7a4 σ a3 _ rfl) mt_J6_bitCount_0f7a4 ln_5_57 (by decide +kernel) rfl rfl (Nat.le_of_ble_eq_true rfl) ⟨⟨rfl, rfl⟩, Nat.le_of_ble_eq_true rfl, Nat.le_of_ble_eq_true rfl⟩ ⟨Nat.zero_le _, Nat.zero_le _⟩ rfl ?_
        refine aw_icmp_ge (off := 15) hC 50 (by decide +kernel) (by decide) (fun h => ?_) (fun h => ?_)
        · have hF := (if_pos h).symm.trans hF
          refine aw_run (pc' := 53) hC [(.iinc 4 1, 3, 0, 0, .int 1)] (by decide +kernel) [(0, .ref 10), (2, .int a2), (3, .int a3), (4, .int (a4 + 1))] [] σ rfl rfl ⟨trivial, trivial⟩ rfl ?_
          refine aw_goto (off := -33) hC 20 (by decide +kernel) (by decide) ?_
          exact ih a2 a3 (a4 + 1) hF
        · have hF := (if_neg h).symm.trans hF
          refine aw_run (pc' := 41) hC [(.aload_n 0, 1, 0, 0, .null), (.iload 4, 2, 0, 0, .null)] (by decide +kernel) [(0, .ref 10), (2, .int a2), (3, .int a3), (4, .int a4)] [.int a4, .ref 10] σ rfl rfl ⟨trivial, trivial, trivial⟩ rfl ?_
          obtain ⟨q1, eq1, hF⟩ := bd hF
          refine aw_callV hC hA (rest := []) (c_ve_isCure N σ a4 q1 eq1) mt_X5_isCure ln_5_62 (by decide +kernel) ⟨_, rfl⟩ rfl rfl (Nat.le_of_ble_eq_true rfl) ⟨⟨rfl, rfl⟩, Nat.le_of_ble_eq_true rfl, Nat.le_of_ble_eq_true rfl⟩ ⟨Nat.zero_le _, Nat.zero_le _⟩ rfl ?_
          refine aw_if_eq (off := 6) hC 50 Iff.rfl (by decide +kernel) (by decide) (fun h => ?_) (fun h => ?_)
          · have hF := (if_pos h).symm.trans hF
            refine aw_run (pc' := 53) hC [(.iinc 4 1, 3, 0, 0, .int 1)] (by decide +kernel) [(0, .ref 10), (2, .int a2), (3, .int a3), (4, .int (a4 + 1))] [] σ rfl rfl ⟨trivial, trivial⟩ rfl ?_
            refine aw_goto (off := -33) hC 20 (by decide +kernel) (by decide) ?_
            exact ih a2 a3 (a4 + 1) hF
          · have hF := (if_neg h).symm.trans hF
            refine aw_run (pc' := 53) hC [(.iload 4, 2, 0, 0, .null), (.istore_n 3, 1, 0, 0, .null), (.iinc 4 1, 3, 0, 0, .int 1)] (by decide +kernel) [(0, .ref 10), (2, .int a2), (3, .int a4), (4, .int (a4 + 1))] [] σ rfl rfl ⟨trivial, trivial, trivial, trivial⟩ rfl ?_
            refine aw_goto (off := -33) hC 20 (by decide +kernel) (by decide) ?_
            exact ih a2 a4 (a4 + 1) hF
  unfold f_ve_fewest at hF
  refine aw_run (pc' := 4) hC [(.aload_n 0, 1, 0, 0, .null), (.getfield 15, 3, 5, 1, .null)] (by decide +kernel) [(0, .ref 10), (1, .int a1)] [.int (σ.1 10 1)] σ rfl rfl ⟨trivial, trivial, trivial⟩ rfl ?_
  refine aw_if_ne (off := 5) hC 9 Iff.rfl (by decide +kernel) (by decide) (fun h => ?_) (fun h => ?_)
  · have hF := (if_neg h).symm.trans hF
    refine aw_run (pc' := 20) hC [(.iconst 1, 1, 0, 0, .int 1), (.iload_n 1, 1, 0, 0, .null), (.ishl, 1, 0, 0, .null), (.iconst 1, 1, 0, 0, .int 1), (.isub, 1, 0, 0, .null), (.istore_n 2, 1, 0, 0, .null), (.iload_n 2, 1, 0, 0, .null), (.istore_n 3, 1, 0, 0, .null), (.iconst 0, 1, 0, 0, .int 0), (.istore 4, 2, 0, 0, .null)] (by decide +kernel) [(0, .ref 10), (1, .int a1), (2, .int (((1 : Int32) <<< (a1 &&& 31)) - 1)), (3, .int (((1 : Int32) <<< (a1 &&& 31)) - 1)), (4, .int 0)] [] σ rfl rfl ⟨trivial, trivial, trivial, trivial, trivial, trivial, trivial, trivial, trivial, trivial, trivial⟩ rfl ?_
    refine aw_pick [0, 2, 3, 4] [(0, .ref 10), (2, .int (((1 : Int32) <<< (a1 &&& 31)) - 1)), (3, .int (((1 : Int32) <<< (a1 &&& 31)) - 1)), (4, .int 0)] rfl ?_
    exact Jc20 N (((1 : Int32) <<< (a1 &&& 31)) - 1) (((1 : Int32) <<< (a1 &&& 31)) - 1) 0 hF
  · have hF := (if_pos h).symm.trans hF
    refine aw_run (pc' := 8) hC [(.iconst 0, 1, 0, 0, .int 0)] (by decide +kernel) [(0, .ref 10), (1, .int a1)] [.int 0] σ rfl rfl ⟨trivial, trivial⟩ rfl ?_
    exact aw_iret hC hr (by decide +kernel) (Option.some.inj hF) rfl
def f_ro_inner (σ : Sg) (a1 : Int32) (a2 : Int32) : Option Int32 := if a1 < 0 then (some 0) else (if a1 < 8 then (if a2 = 0 then (if ib a1 8 then some ((σ.1 4 6) * ((σ.1 7 a1.toNatClampNeg) + (σ.1 9 a1.toNatClampNeg))) else none) else (if ib a1 8 then some ((-(σ.1 4 6)) * ((σ.1 8 a1.toNatClampNeg) - (σ.1 9 a1.toNatClampNeg))) else none)) else (some 0))
def rm_ro_inner : Room := { frames := 0, cells := 0, slots := 0, locals := 0 }
set_option maxHeartbeats 4000000 in
set_option maxRecDepth 100000 in
theorem c_ro_inner (σ : Sg) (a1 : Int32) (a2 : Int32) (z : Int32) (hF : f_ro_inner σ a1 a2 = some z) : Ctr yX3_inner cX3_inner 3 (some .int) rm_ro_inner [.ref 4, .int a1, .int a2] σ (some (.int z)) σ := by
  refine ct_start 3 (by decide) rfl (fun ad => Nat.le_of_ble_eq_true rfl) [(0, .ref 4), (1, .int a1), (2, .int a2)] (fun ad => rfl) ?_
  intro p l e s m args below meth c D ad tc A hC hA hr
  unfold f_ro_inner at hF
  refine aw_run (pc' := 1) hC [(.iload_n 1, 1, 0, 0, .null)] (by decide +kernel) [(0, .ref 4), (1, .int a1), (2, .int a2)] [.int a1] σ rfl rfl ⟨trivial, trivial⟩ rfl ?_
  refine aw_if_lt (off := 9) hC 10 Iff.rfl (by decide +kernel) (by decide) (fun h => ?_) (fun h => ?_)
  · have hF := (if_pos h).symm.trans hF
    refine aw_run (pc' := 11) hC [(.iconst 0, 1, 0, 0, .int 0)] (by decide +kernel) [(0, .ref 4), (1, .int a1), (2, .int a2)] [.int 0] σ rfl rfl ⟨trivial, trivial⟩ rfl ?_
    exact aw_iret hC hr (by decide +kernel) (Option.some.inj hF) rfl
  · have hF := (if_neg h).symm.trans hF
    refine aw_run (pc' := 7) hC [(.iload_n 1, 1, 0, 0, .null), (.bipush 8, 2, 0, 0, .int 8)] (by decide +kernel) [(0, .ref 4), (1, .int a1), (2, .int a2)] [.int 8, .int a1] σ rfl rfl ⟨trivial, trivial, trivial⟩ rfl ?_
    refine aw_icmp_lt (off := 5) hC 12 (by decide +kernel) (by decide) (fun h => ?_) (fun h => ?_)
    · have hF := (if_pos h).symm.trans hF
      refine aw_run (pc' := 13) hC [(.iload_n 2, 1, 0, 0, .null)] (by decide +kernel) [(0, .ref 4), (1, .int a1), (2, .int a2)] [.int a2] σ rfl rfl ⟨trivial, trivial⟩ rfl ?_
      refine aw_if_ne (off := 24) hC 37 Iff.rfl (by decide +kernel) (by decide) (fun h => ?_) (fun h => ?_)
      · have hF := (if_neg h).symm.trans hF
        obtain ⟨g1, hF⟩ := gd hF
        refine aw_run (pc' := 56) hC [(.aload_n 0, 1, 0, 0, .null), (.getfield 28, 3, 3, 6, .null), (.ineg, 1, 0, 0, .null), (.aload_n 0, 1, 0, 0, .null), (.getfield 22, 3, 3, 3, .null), (.iload_n 1, 1, 0, 0, .null), (.iaload, 1, 0, 0, .null), (.aload_n 0, 1, 0, 0, .null), (.getfield 25, 3, 3, 4, .null), (.iload_n 1, 1, 0, 0, .null), (.iaload, 1, 0, 0, .null), (.isub, 1, 0, 0, .null), (.imul, 1, 0, 0, .null)] (by decide +kernel) [(0, .ref 4), (1, .int a1), (2, .int a2)] [.int ((-(σ.1 4 6)) * ((σ.1 8 a1.toNatClampNeg) - (σ.1 9 a1.toNatClampNeg)))] σ rfl rfl ⟨trivial, trivial, trivial, trivial, trivial, trivial, g1, trivial, trivial, trivial, g1, trivial, trivial, trivial⟩ rfl ?_
        exact aw_iret hC hr (by decide +kernel) (Option.some.inj hF) rfl
      · have hF := (if_pos h).symm.trans hF
        obtain ⟨g2, hF⟩ := gd hF
        refine aw_run (pc' := 34) hC [(.aload_n 0, 1, 0, 0, .null), (.getfield 28, 3, 3, 6, .null), (.aload_n 0, 1, 0, 0, .null), (.getfield 19, 3, 3, 2, .null), (.iload_n 1, 1, 0, 0, .null), (.iaload, 1, 0, 0, .null), (.aload_n 0, 1, 0, 0, .null), (.getfield 25, 3, 3, 4, .null), (.iload_n 1, 1, 0, 0, .null), (.iaload, 1, 0, 0, .null), (.iadd, 1, 0, 0, .null), (.imul, 1, 0, 0, .null)] (by decide +kernel) [(0, .ref 4), (1, .int a1), (2, .int a2)] [.int ((σ.1 4 6) * ((σ.1 7 a1.toNatClampNeg) + (σ.1 9 a1.toNatClampNeg)))] σ rfl rfl ⟨trivial, trivial, trivial, trivial, trivial, g2, trivial, trivial, trivial, g2, trivial, trivial, trivial⟩ rfl ?_
        refine aw_goto (off := 22) hC 56 (by decide +kernel) (by decide) ?_
        exact aw_iret hC hr (by decide +kernel) (Option.some.inj hF) rfl
    · have hF := (if_neg h).symm.trans hF
      refine aw_run (pc' := 11) hC [(.iconst 0, 1, 0, 0, .int 0)] (by decide +kernel) [(0, .ref 4), (1, .int a1), (2, .int a2)] [.int 0] σ rfl rfl ⟨trivial, trivial⟩ rfl ?_
      exact aw_iret hC hr (by decide +kernel) (Option.some.inj hF) rfl
def f_ro_outer (σ : Sg) (a1 : Int32) (a2 : Int32) : Option Int32 := if a1 < 0 then (some 0) else (if a1 < 8 then (if a2 = 0 then (if ib a1 8 then some ((σ.1 4 6) * ((σ.1 7 a1.toNatClampNeg) - (σ.1 9 a1.toNatClampNeg))) else none) else (if ib a1 8 then some ((-(σ.1 4 6)) * ((σ.1 8 a1.toNatClampNeg) + (σ.1 9 a1.toNatClampNeg))) else none)) else (some 0))
def rm_ro_outer : Room := { frames := 0, cells := 0, slots := 0, locals := 0 }
set_option maxHeartbeats 4000000 in
set_option maxRecDepth 100000 in
theorem c_ro_outer (σ : Sg) (a1 : Int32) (a2 : Int32) (z : Int32) (hF : f_ro_outer σ a1 a2 = some z) : Ctr yX3_outer cX3_outer 3 (some .int) rm_ro_outer [.ref 4, .int a1, .int a2] σ (some (.int z)) σ := by
  refine ct_start 3 (by decide) rfl (fun ad => Nat.le_of_ble_eq_true rfl) [(0, .ref 4), (1, .int a1), (2, .int a2)] (fun ad => rfl) ?_
  intro p l e s m args below meth c D ad tc A hC hA hr
  unfold f_ro_outer at hF
  refine aw_run (pc' := 1) hC [(.iload_n 1, 1, 0, 0, .null)] (by decide +kernel) [(0, .ref 4), (1, .int a1), (2, .int a2)] [.int a1] σ rfl rfl ⟨trivial, trivial⟩ rfl ?_
  refine aw_if_lt (off := 9) hC 10 Iff.rfl (by decide +kernel) (by decide) (fun h => ?_) (fun h => ?_)
  · have hF := (if_pos h).symm.trans hF
    refine aw_run (pc' := 11) hC [(.iconst 0, 1, 0, 0, .int 0)] (by decide +kernel) [(0, .ref 4), (1, .int a1), (2, .int a2)] [.int 0] σ rfl rfl ⟨trivial, trivial⟩ rfl ?_
    exact aw_iret hC hr (by decide +kernel) (Option.some.inj hF) rfl
  · have hF := (if_neg h).symm.trans hF
    refine aw_run (pc' := 7) hC [(.iload_n 1, 1, 0, 0, .null), (.bipush 8, 2, 0, 0, .int 8)] (by decide +kernel) [(0, .ref 4), (1, .int a1), (2, .int a2)] [.int 8, .int a1] σ rfl rfl ⟨trivial, trivial, trivial⟩ rfl ?_
    refine aw_icmp_lt (off := 5) hC 12 (by decide +kernel) (by decide) (fun h => ?_) (fun h => ?_)
    · have hF := (if_pos h).symm.trans hF
      refine aw_run (pc' := 13) hC [(.iload_n 2, 1, 0, 0, .null)] (by decide +kernel) [(0, .ref 4), (1, .int a1), (2, .int a2)] [.int a2] σ rfl rfl ⟨trivial, trivial⟩ rfl ?_
      refine aw_if_ne (off := 24) hC 37 Iff.rfl (by decide +kernel) (by decide) (fun h => ?_) (fun h => ?_)
      · have hF := (if_neg h).symm.trans hF
        obtain ⟨g1, hF⟩ := gd hF
        refine aw_run (pc' := 56) hC [(.aload_n 0, 1, 0, 0, .null), (.getfield 28, 3, 3, 6, .null), (.ineg, 1, 0, 0, .null), (.aload_n 0, 1, 0, 0, .null), (.getfield 22, 3, 3, 3, .null), (.iload_n 1, 1, 0, 0, .null), (.iaload, 1, 0, 0, .null), (.aload_n 0, 1, 0, 0, .null), (.getfield 25, 3, 3, 4, .null), (.iload_n 1, 1, 0, 0, .null), (.iaload, 1, 0, 0, .null), (.iadd, 1, 0, 0, .null), (.imul, 1, 0, 0, .null)] (by decide +kernel) [(0, .ref 4), (1, .int a1), (2, .int a2)] [.int ((-(σ.1 4 6)) * ((σ.1 8 a1.toNatClampNeg) + (σ.1 9 a1.toNatClampNeg)))] σ rfl rfl ⟨trivial, trivial, trivial, trivial, trivial, trivial, g1, trivial, trivial, trivial, g1, trivial, trivial, trivial⟩ rfl ?_
        exact aw_iret hC hr (by decide +kernel) (Option.some.inj hF) rfl
      · have hF := (if_pos h).symm.trans hF
        obtain ⟨g2, hF⟩ := gd hF
        refine aw_run (pc' := 34) hC [(.aload_n 0, 1, 0, 0, .null), (.getfield 28, 3, 3, 6, .null), (.aload_n 0, 1, 0, 0, .null), (.getfield 19, 3, 3, 2, .null), (.iload_n 1, 1, 0, 0, .null), (.iaload, 1, 0, 0, .null), (.aload_n 0, 1, 0, 0, .null), (.getfield 25, 3, 3, 4, .null), (.iload_n 1, 1, 0, 0, .null), (.iaload, 1, 0, 0, .null), (.isub, 1, 0, 0, .null), (.imul, 1, 0, 0, .null)] (by decide +kernel) [(0, .ref 4), (1, .int a1), (2, .int a2)] [.int ((σ.1 4 6) * ((σ.1 7 a1.toNatClampNeg) - (σ.1 9 a1.toNatClampNeg)))] σ rfl rfl ⟨trivial, trivial, trivial, trivial, trivial, g2, trivial, trivial, trivial, g2, trivial, trivial, trivial⟩ rfl ?_
        refine aw_goto (off := 22) hC 56 (by decide +kernel) (by decide) ?_
        exact aw_iret hC hr (by decide +kernel) (Option.some.inj hF) rfl
    · have hF := (if_neg h).symm.trans hF
      refine aw_run (pc' := 11) hC [(.iconst 0, 1, 0, 0, .int 0)] (by decide +kernel) [(0, .ref 4), (1, .int a1), (2, .int a2)] [.int 0] σ rfl rfl ⟨trivial, trivial⟩ rfl ?_
      exact aw_iret hC hr (by decide +kernel) (Option.some.inj hF) rfl
def f_ve_isDent (σ : Sg) (a1 : Int32) (a2 : Int32) (a3 : Int32) (a4 : Int32) : Option Int32 := if ib a3 8 then if ib a2 8 then if ib a1 8 then (f_ro_inner σ a1 a4).bind fun q4 => (f_ro_inner σ a3 a4).bind fun q5 => (f_ro_outer σ a2 a4).bind fun q6 => if (q6 * (((σ.1 5 a3.toNatClampNeg) - (σ.1 5 a2.toNatClampNeg)) + ((σ.1 5 a2.toNatClampNeg) - (σ.1 5 a1.toNatClampNeg)))) ≤ ((q4 * ((σ.1 5 a3.toNatClampNeg) - (σ.1 5 a2.toNatClampNeg))) + (q5 * ((σ.1 5 a2.toNatClampNeg) - (σ.1 5 a1.toNatClampNeg)))) then (some 0) else (some 1) else none else none else none
def rm_ve_isDent : Room := { frames := 1, cells := 0, slots := 0, locals := 22 }
set_option maxHeartbeats 4000000 in
set_option maxRecDepth 100000 in
theorem c_ve_isDent (σ : Sg) (a1 : Int32) (a2 : Int32) (a3 : Int32) (a4 : Int32) (z : Int32) (hF : f_ve_isDent σ a1 a2 a3 a4 = some z) : Ctr yX5_isDent cX5_isDent 8 (some .boolean) rm_ve_isDent [.ref 4, .int a1, .int a2, .int a3, .int a4] σ (some (.int z)) σ := by
  refine ct_start 5 (by decide) rfl (fun ad => Nat.le_of_ble_eq_true rfl) [(0, .ref 4), (1, .int a1), (2, .int a2), (3, .int a3), (4, .int a4)] (fun ad => rfl) ?_
  intro p l e s m args below meth c D ad tc A hC hA hr
  unfold f_ve_isDent at hF
  obtain ⟨g1, hF⟩ := gd hF
  obtain ⟨g2, hF⟩ := gd hF
  obtain ⟨g3, hF⟩ := gd hF
  refine aw_run (pc' := 34) hC [(.aload_n 0, 1, 0, 0, .null), (.getfield 24, 3, 3, 0, .null), (.iload_n 3, 1, 0, 0, .null), (.iaload, 1, 0, 0, .null), (.aload_n 0, 1, 0, 0, .null), (.getfield 24, 3, 3, 0, .null), (.iload_n 2, 1, 0, 0, .null), (.iaload, 1, 0, 0, .null), (.isub, 1, 0, 0, .null), (.istore 5, 2, 0, 0, .null), (.aload_n 0, 1, 0, 0, .null), (.getfield 24, 3, 3, 0, .null), (.iload_n 2, 1, 0, 0, .null), (.iaload, 1, 0, 0, .null), (.aload_n 0, 1, 0, 0, .null), (.getfield 24, 3, 3, 0, .null), (.iload_n 1, 1, 0, 0, .null), (.iaload, 1, 0, 0, .null), (.isub, 1, 0, 0, .null), (.istore 6, 2, 0, 0, .null), (.aload_n 0, 1, 0, 0, .null), (.iload_n 1, 1, 0, 0, .null), (.iload 4, 2, 0, 0, .null)] (by decide +kernel) [(0, .ref 4), (1, .int a1), (2, .int a2), (3, .int a3), (4, .int a4), (5, .int ((σ.1 5 a3.toNatClampNeg) - (σ.1 5 a2.toNatClampNeg))), (6, .int ((σ.1 5 a2.toNatClampNeg) - (σ.1 5 a1.toNatClampNeg)))] [.int a4, .int a1, .ref 4] σ rfl rfl ⟨trivial, trivial, trivial, g1, trivial, trivial, trivial, g2, trivial, trivial, trivial, trivial, trivial, g2, trivial, trivial, trivial, g3, trivial, trivial, trivial, trivial, trivial, trivial⟩ rfl ?_
  obtain ⟨q4, eq4, hF⟩ := bd hF
  refine aw_callV hC hA (rest := []) (c_ro_inner σ a1 a4 q4 eq4) mt_X3_inner ln_5_50 (by decide +kernel) ⟨_, rfl⟩ rfl rfl (Nat.le_of_ble_eq_true rfl) ⟨⟨rfl, rfl⟩, Nat.le_of_ble_eq_true rfl, Nat.le_of_ble_eq_true rfl⟩ ⟨Nat.zero_le _, Nat.zero_le _⟩ rfl ?_
  refine aw_run (pc' := 44) hC [(.iload 5, 2, 0, 0, .null), (.imul, 1, 0, 0, .null), (.aload_n 0, 1, 0, 0, .null), (.iload_n 3, 1, 0, 0, .null), (.iload 4, 2, 0, 0, .null)] (by decide +kernel) [(0, .ref 4), (1, .int a1), (2, .int a2), (3, .int a3), (4, .int a4), (5, .int ((σ.1 5 a3.toNatClampNeg) - (σ.1 5 a2.toNatClampNeg))), (6, .int ((σ.1 5 a2.toNatClampNeg) - (σ.1 5 a1.toNatClampNeg)))] [.int a4, .int a3, .ref 4, .int (q4 * ((σ.1 5 a3.toNatClampNeg) - (σ.1 5 a2.toNatClampNeg)))] σ rfl rfl ⟨trivial, trivial, trivial, trivial, trivial, trivial⟩ rfl ?_
  obtain ⟨q5, eq5, hF⟩ := bd hF
  refine aw_callV hC hA (rest := [.int (q4 * ((σ.1 5 a3.toNatClampNeg) - (σ.1 5 a2.toNatClampNeg)))]) (c_ro_inner σ a3 a4 q5 eq5) mt_X3_inner ln_5_50 (by decide +kernel) ⟨_, rfl⟩ rfl rfl (Nat.le_of_ble_eq_true rfl) ⟨⟨rfl, rfl⟩, Nat.le_of_ble_eq_true rfl, Nat.le_of_ble_eq_true rfl⟩ ⟨Nat.zero_le _, Nat.zero_le _⟩ rfl ?_
  refine aw_run (pc' := 59) hC [(.iload 6, 2, 0, 0, .null), (.imul, 1, 0, 0, .null), (.iadd, 1, 0, 0, .null), (.istore 7, 2, 0, 0, .null), (.iload 7, 2, 0, 0, .null), (.aload_n 0, 1, 0, 0, .null), (.iload_n 2, 1, 0, 0, .null), (.iload 4, 2, 0, 0, .null)] (by decide +kernel) [(0, .ref 4), (1, .int a1), (2, .int a2), (3, .int a3), (4, .int a4), (5, .int ((σ.1 5 a3.toNatClampNeg) - (σ.1 5 a2.toNatClampNeg))), (6, .int ((σ.1 5 a2.toNatClampNeg) - (σ.1 5 a1.toNatClampNeg))), (7, .int ((q4 * ((σ.1 5 a3.toNatClampNeg) - (σ.1 5 a2.toNatClampNeg))) + (q5 * ((σ.1 5 a2.toNatClampNeg) - (σ.1 5 a1.toNatClampNeg)))))] [.int a4, .int a2, .ref 4, .int ((q4 * ((σ.1 5 a3.toNatClampNeg) - (σ.1 5 a2.toNatClampNeg))) + (q5 * ((σ.1 5 a2.toNatClampNeg) - (σ.1 5 a1.toNatClampNeg))))] σ rfl rfl ⟨trivial, trivial, trivial, trivial, trivial, trivial, trivial, trivial, trivial⟩ rfl ?_
  obtain ⟨q6, eq6, hF⟩ := bd hF
  refine aw_callV hC hA (rest := [.int ((q4 * ((σ.1 5 a3.toNatClampNeg) - (σ.1 5 a2.toNatClampNeg))) + (q5 * ((σ.1 5 a2.toNatClampNeg) - (σ.1 5 a1.toNatClampNeg))))]) (c_ro_outer σ a2 a4 q6 eq6) mt_X3_outer ln_5_54 (by decide +kernel) ⟨_, rfl⟩ rfl rfl (Nat.le_of_ble_eq_true rfl) ⟨⟨rfl, rfl⟩, Nat.le_of_ble_eq_true rfl, Nat.le_of_ble_eq_true rfl⟩ ⟨Nat.zero_le _, Nat.zero_le _⟩ rfl ?_
  refine aw_run (pc' := 68) hC [(.iload 5, 2, 0, 0, .null), (.iload 6, 2, 0, 0, .null), (.iadd, 1, 0, 0, .null), (.imul, 1, 0, 0, .null)] (by decide +kernel) [(0, .ref 4), (1, .int a1), (2, .int a2), (3, .int a3), (4, .int a4), (5, .int ((σ.1 5 a3.toNatClampNeg) - (σ.1 5 a2.toNatClampNeg))), (6, .int ((σ.1 5 a2.toNatClampNeg) - (σ.1 5 a1.toNatClampNeg))), (7, .int ((q4 * ((σ.1 5 a3.toNatClampNeg) - (σ.1 5 a2.toNatClampNeg))) + (q5 * ((σ.1 5 a2.toNatClampNeg) - (σ.1 5 a1.toNatClampNeg)))))] [.int (q6 * (((σ.1 5 a3.toNatClampNeg) - (σ.1 5 a2.toNatClampNeg)) + ((σ.1 5 a2.toNatClampNeg) - (σ.1 5 a1.toNatClampNeg)))), .int ((q4 * ((σ.1 5 a3.toNatClampNeg) - (σ.1 5 a2.toNatClampNeg))) + (q5 * ((σ.1 5 a2.toNatClampNeg) - (σ.1 5 a1.toNatClampNeg))))] σ rfl rfl ⟨trivial, trivial, trivial, trivial, trivial⟩ rfl ?_
  refine aw_icmp_ge (off := 7) hC 75 (by decide +kernel) (by decide) (fun h => ?_) (fun h => ?_)
  · have hF := (if_pos h).symm.trans hF
    refine aw_run (pc' := 76) hC [(.iconst 0, 1, 0, 0, .int 0)] (by decide +kernel) [(0, .ref 4), (1, .int a1), (2, .int a2), (3, .int a3), (4, .int a4), (5, .int ((σ.1 5 a3.toNatClampNeg) - (σ.1 5 a2.toNatClampNeg))), (6, .int ((σ.1 5 a2.toNatClampNeg) - (σ.1 5 a1.toNatClampNeg))), (7, .int ((q4 * ((σ.1 5 a3.toNatClampNeg) - (σ.1 5 a2.toNatClampNeg))) + (q5 * ((σ.1 5 a2.toNatClampNeg) - (σ.1 5 a1.toNatClampNeg)))))] [.int 0] σ rfl rfl ⟨trivial, trivial⟩ rfl ?_
    exact aw_zret hC hr (Or.inl rfl) (by decide +kernel) (Option.some.inj hF) rfl
  · have hF := (if_neg h).symm.trans hF
    refine aw_run (pc' := 72) hC [(.iconst 1, 1, 0, 0, .int 1)] (by decide +kernel) [(0, .ref 4), (1, .int a1), (2, .int a2), (3, .int a3), (4, .int a4), (5, .int ((σ.1 5 a3.toNatClampNeg) - (σ.1 5 a2.toNatClampNeg))), (6, .int ((σ.1 5 a2.toNatClampNeg) - (σ.1 5 a1.toNatClampNeg))), (7, .int ((q4 * ((σ.1 5 a3.toNatClampNeg) - (σ.1 5 a2.toNatClampNeg))) + (q5 * ((σ.1 5 a2.toNatClampNeg) - (σ.1 5 a1.toNatClampNeg)))))] [.int 1] σ rfl rfl ⟨trivial, trivial⟩ rfl ?_
    refine aw_goto (off := 4) hC 76 (by decide +kernel) (by decide) ?_
    exact aw_zret hC hr (Or.inr rfl) (by decide +kernel) (Option.some.inj hF) rfl
def f_ve_isClash (σ : Sg) (a1 : Int32) (a2 : Int32) (a3 : Int32) : Option Int32 := if ib a2 8 then if (σ.1 6 a2.toNatClampNeg) = 0 then ((f_ve_isDent σ a1 a2 a3 0).bind fun q2 => if q2 = 0 then ((f_ve_isDent σ a1 a2 a3 1).bind fun q3 => if q3 = 0 then (some 0) else (some 1)) else (some 1)) else (some 1) else none
def rm_ve_isClash : Room := { frames := 2, cells := 0, slots := 0, locals := 49 }
set_option maxHeartbeats 4000000 in
set_option maxRecDepth 100000 in
theorem c_ve_isClash (σ : Sg) (a1 : Int32) (a2 : Int32) (a3 : Int32) (z : Int32) (hF : f_ve_isClash σ a1 a2 a3 = some z) : Ctr yX5_isClash cX5_isClash 4 (some .boolean) rm_ve_isClash [.ref 4, .int a1, .int a2, .int a3] σ (some (.int z)) σ := by
  refine ct_start 5 (by decide) rfl (fun ad => Nat.le_of_ble_eq_true rfl) [(0, .ref 4), (1, .int a1), (2, .int a2), (3, .int a3)] (fun ad => rfl) ?_
  intro p l e s m args below meth c D ad tc A hC hA hr
  unfold f_ve_isClash at hF
  obtain ⟨g1, hF⟩ := gd hF
  refine aw_run (pc' := 6) hC [(.aload_n 0, 1, 0, 0, .null), (.getfield 27, 3, 3, 1, .null), (.iload_n 2, 1, 0, 0, .null), (.baload, 1, 0, 0, .null)] (by decide +kernel) [(0, .ref 4), (1, .int a1), (2, .int a2), (3, .int a3)] [.int (σ.1 6 a2.toNatClampNeg)] σ rfl rfl ⟨trivial, trivial, trivial, g1, trivial⟩ rfl ?_
  refine aw_if_ne (off := 25) hC 31 Iff.rfl (by decide +kernel) (by decide) (fun h => ?_) (fun h => ?_)
  · have hF := (if_neg h).symm.trans hF
    refine aw_run (pc' := 32) hC [(.iconst 1, 1, 0, 0, .int 1)] (by decide +kernel) [(0, .ref 4), (1, .int a1), (2, .int a2), (3, .int a3)] [.int 1] σ rfl rfl ⟨trivial, trivial⟩ rfl ?_
    refine aw_goto (off := 4) hC 36 (by decide +kernel) (by decide) ?_
    exact aw_zret hC hr (Or.inr rfl) (by decide +kernel) (Option.some.inj hF) rfl
  · have hF := (if_pos h).symm.trans hF
    refine aw_run (pc' := 14) hC [(.aload_n 0, 1, 0, 0, .null), (.iload_n 1, 1, 0, 0, .null), (.iload_n 2, 1, 0, 0, .null), (.iload_n 3, 1, 0, 0, .null), (.iconst 0, 1, 0, 0, .int 0)] (by decide +kernel) [(0, .ref 4), (1, .int a1), (2, .int a2), (3, .int a3)] [.int 0, .int a3, .int a2, .int a1, .ref 4] σ rfl rfl ⟨trivial, trivial, trivial, trivial, trivial, trivial⟩ rfl ?_
    obtain ⟨q2, eq2, hF⟩ := bd hF
    refine aw_callS hC hA (rest := []) (c_ve_isDent σ a1 a2 a3 0 q2 eq2) mt_X5_isDent ln_5_46 (by decide +kernel) rfl rfl (Nat.le_of_ble_eq_true rfl) ⟨⟨rfl, rfl⟩, Nat.le_of_ble_eq_true rfl, Nat.le_of_ble_eq_true rfl⟩ ⟨Nat.zero_le _, Nat.zero_le _⟩ rfl ?_
    refine aw_if_ne (off := 14) hC 31 Iff.rfl (by decide +kernel) (by decide) (fun h => ?_) (fun h => ?_)
    · have hF := (if_neg h).symm.trans hF
      refine aw_run (pc' := 32) hC [(.iconst 1, 1, 0, 0, .int 1)] (by decide +kernel) [(0, .ref 4), (1, .int a1), (2, .int a2), (3, .int a3)] [.int 1] σ rfl rfl ⟨trivial, trivial⟩ rfl ?_
      refine aw_goto (off := 4) hC 36 (by decide +kernel) (by decide) ?_
      exact aw_zret hC hr (Or.inr rfl) (by decide +kernel) (Option.some.inj hF) rfl
    · have hF := (if_pos h).symm.trans hF
      refine aw_run (pc' := 25) hC [(.aload_n 0, 1, 0, 0, .null), (.iload_n 1, 1, 0, 0, .null), (.iload_n 2, 1, 0, 0, .null), (.iload_n 3, 1, 0, 0, .null), (.iconst 1, 1, 0, 0, .int 1)] (by decide +kernel) [(0, .ref 4), (1, .int a1), (2, .int a2), (3, .int a3)] [.int 1, .int a3, .int a2, .int a1, .ref 4] σ rfl rfl ⟨trivial, trivial, trivial, trivial, trivial, trivial⟩ rfl ?_
      obtain ⟨q3, eq3, hF⟩ := bd hF
      refine aw_callS hC hA (rest := []) (c_ve_isDent σ a1 a2 a3 1 q3 eq3) mt_X5_isDent ln_5_46 (by decide +kernel) rfl rfl (Nat.le_of_ble_eq_true rfl) ⟨⟨rfl, rfl⟩, Nat.le_of_ble_eq_true rfl, Nat.le_of_ble_eq_true rfl⟩ ⟨Nat.zero_le _, Nat.zero_le _⟩ rfl ?_
      refine aw_if_eq (off := 7) hC 35 Iff.rfl (by decide +kernel) (by decide) (fun h => ?_) (fun h => ?_)
      · have hF := (if_pos h).symm.trans hF
        refine aw_run (pc' := 36) hC [(.iconst 0, 1, 0, 0, .int 0)] (by decide +kernel) [(0, .ref 4), (1, .int a1), (2, .int a2), (3, .int a3)] [.int 0] σ rfl rfl ⟨trivial, trivial⟩ rfl ?_
        exact aw_zret hC hr (Or.inl rfl) (by decide +kernel) (Option.some.inj hF) rfl
      · have hF := (if_neg h).symm.trans hF
        refine aw_run (pc' := 32) hC [(.iconst 1, 1, 0, 0, .int 1)] (by decide +kernel) [(0, .ref 4), (1, .int a1), (2, .int a2), (3, .int a3)] [.int 1] σ rfl rfl ⟨trivial, trivial⟩ rfl ?_
        refine aw_goto (off := 4) hC 36 (by decide +kernel) (by decide) ?_
        exact aw_zret hC hr (Or.inr rfl) (by decide +kernel) (Option.some.inj hF) rfl
def f_ve_gather_c3_s (N : Nat) (kc3 : Int32 → Int32 → Int32 → Sg → Option Sg) (a2 : Int32) (a3 : Int32) (a4 : Int32) (σ : Sg) : Option Sg := if (σ.1 4 5) ≤ a4 then (some σ) else (if ib a4 8 then if ib a3 8 then if (σ.1 5 a4.toNatClampNeg) ≤ (σ.1 5 a3.toNatClampNeg) then (kc3 a2 a3 (a4 + 1) σ) else (if (σ.1 6 a4.toNatClampNeg) = 0 then ((f_ve_isClash σ a2 a3 a4).bind fun q3 => if q3 = 0 then (kc3 a2 a3 (a4 + 1) σ) else (if (56 : Int32) ≤ (σ.1 10 1) then (kc3 a2 a3 (a4 + 1) σ) else (if ib (σ.1 10 1) 56 then nm (uI σ 11 (σ.1 10 1).toNatClampNeg ((((1 : Int32) <<< (a2 &&& 31)) ||| ((1 : Int32) <<< (a3 &&& 31))) ||| ((1 : Int32) <<< (a4 &&& 31)))) fun σ5 => nm (uI σ5 10 1 ((σ5.1 10 1) + 1)) fun σ6 => kc3 a2 a3 (a4 + 1) σ6 else none))) else (kc3 a2 a3 (a4 + 1) σ)) else none else none)
def f_ve_gather_c3 (N : Nat) : Nat → Int32 → Int32 → Int32 → Sg → Option Sg
  | 0 => fun _ _ _ _ => none
  | n + 1 => f_ve_gather_c3_s N (f_ve_gather_c3 N n)
def f_ve_gather (N : Nat) (σ : Sg) (a2 : Int32) (a3 : Int32) : Option Sg := f_ve_gather_c3 N N a2 a3 0 σ
def rm_ve_gather : Room := { frames := 3, cells := 0, slots := 0, locals := 72 }
set_option maxHeartbeats 4000000 in
set_option maxRecDepth 100000 in
theorem c_ve_gather (N : Nat) (σ : Sg) (a2 : Int32) (a3 : Int32) (z : Sg) (hF : f_ve_gather N σ a2 a3 = some z) : Ctr yX5_gather cX5_gather 5 none rm_ve_gather [.ref 10, .ref 4, .int a2, .int a3] σ none z := by
  refine ct_start 5 (by decide) rfl (fun ad => Nat.le_of_ble_eq_true rfl) [(0, .ref 10), (1, .ref 4), (2, .int a2), (3, .int a3)] (fun ad => rfl) ?_
  intro p l e s m args below meth c D ad tc A hC hA hr
  have Jc3 : ∀ (n : Nat) (a2 : Int32) (a3 : Int32) (a4 : Int32) (σ : Sg), f_ve_gather_c3 N n a2 a3 a4 σ = some z → AW p l e rm_ve_gather s m args below meth c D ad tc 5 A s.heap 0 0 (MQ below (Qr none D ad tc z A) args s 0 0 A) 3 [(0, .ref 10), (1, .ref 4), (2, .int a2), (3, .int a3), (4, .int a4)] [] σ := by
    intro n
    induction n with
    | zero =>
      intro a2 a3 a4 σ hF
      cases hF
    | succ n ih =>
      intro a2 a3 a4 σ hF
      have hF : f_ve_gather_c3_s N (f_ve_gather_c3 N n) a2 a3 a4 σ = some z := hF
      unfold f_ve_gather_c3_s at hF
      refine aw_run (pc' := 9) hC [(.iload 4, 2, 0, 0, .null), (.aload_n 1, 1, 0, 0, .null), (.getfield 19, 3, 3, 5, .null)] (by decide +kernel) [(0, .ref 10), (1, .ref 4), (2, .int a2), (3, .int a3), (4, .int a4)] [.int (σ.1 4 5), .int a4] σ rfl rfl ⟨trivial, trivial, trivial, trivial⟩ rfl ?_
      refine aw_icmp_ge (off := 89) hC 98 (by decide +kernel) (by decide) (fun h => ?_) (fun h => ?_)
      · have hF := (if_pos h).symm.trans hF
        exact aw_vret hC hr (by decide +kernel)  (Option.some.inj hF)
      · have hF := (if_neg h).symm.trans hF
        obtain ⟨g1, hF⟩ := gd hF
        obtain ⟨g2, hF⟩ := gd hF
        refine aw_run (pc' := 25) hC [(.aload_n 1, 1, 0, 0, .null), (.getfield 24, 3, 3, 0, .null), (.iload 4, 2, 0, 0, .null), (.iaload, 1, 0, 0, .null), (.aload_n 1, 1, 0, 0, .null), (.getfield 24, 3, 3, 0, .null), (.iload_n 3, 1, 0, 0, .null), (.iaload, 1, 0, 0, .null)] (by decide +kernel) [(0, .ref 10), (1, .ref 4), (2, .int a2), (3, .int a3), (4, .int a4)] [.int (σ.1 5 a3.toNatClampNeg), .int (σ.1 5 a4.toNatClampNeg)] σ rfl rfl ⟨trivial, trivial, trivial, g1, trivial, trivial, trivial, g2, trivial⟩ rfl ?_
        refine aw_icmp_le (off := 67) hC 92 (by decide +kernel) (by decide) (fun h => ?_) (fun h => ?_)
        · have hF := (if_pos h).symm.trans hF
          refine aw_run (pc' := 95) hC [(.iinc 4 1, 3, 0, 0, .int 1)] (by decide +kernel) [(0, .ref 10), (1, .ref 4), (2, .int a2), (3, .int a3), (4, .int (a4 + 1))] [] σ rfl rfl ⟨trivial, trivial⟩ rfl ?_
          refine aw_goto (off := -92) hC 3 (by decide +kernel) (by decide) ?_
          exact ih a2 a3 (a4 + 1) σ hF
        · have hF := (if_neg h).symm.trans hF
          refine aw_run (pc' := 35) hC [(.aload_n 1, 1, 0, 0, .null), (.getfield 27, 3, 3, 1, .null), (.iload 4, 2, 0, 0, .null), (.baload, 1, 0, 0, .null)] (by decide +kernel) [(0, .ref 10), (1, .ref 4), (2, .int a2), (3, .int a3), (4, .int a4)] [.int (σ.1 6 a4.toNatClampNeg)] σ rfl rfl ⟨trivial, trivial, trivial, g1, trivial⟩ rfl ?_
          refine aw_if_ne (off := 57) hC 92 Iff.rfl (by decide +kernel) (by decide) (fun h => ?_) (fun h => ?_)
          · have hF := (if_neg h).symm.trans hF
            refine aw_run (pc' := 95) hC [(.iinc 4 1, 3, 0, 0, .int 1)] (by decide +kernel) [(0, .ref 10), (1, .ref 4), (2, .int a2), (3, .int a3), (4, .int (a4 + 1))] [] σ rfl rfl ⟨trivial, trivial⟩ rfl ?_
            refine aw_goto (off := -92) hC 3 (by decide +kernel) (by decide) ?_
            exact ih a2 a3 (a4 + 1) σ hF
          · have hF := (if_pos h).symm.trans hF
            refine aw_run (pc' := 43) hC [(.aload_n 1, 1, 0, 0, .null), (.iload_n 2, 1, 0, 0, .null), (.iload_n 3, 1, 0, 0, .null), (.iload 4, 2, 0, 0, .null)] (by decide +kernel) [(0, .ref 10), (1, .ref 4), (2, .int a2), (3, .int a3), (4, .int a4)] [.int a4, .int a3, .int a2, .ref 4] σ rfl rfl ⟨trivial, trivial, trivial, trivial, trivial⟩ rfl ?_
            obtain ⟨q3, eq3, hF⟩ := bd hF
            refine aw_callS hC hA (rest := []) (c_ve_isClash σ a2 a3 a4 q3 eq3) mt_X5_isClash ln_5_42 (by decide +kernel) rfl rfl (Nat.le_of_ble_eq_true rfl) ⟨⟨rfl, rfl⟩, Nat.le_of_ble_eq_true rfl, Nat.le_of_ble_eq_true rfl⟩ ⟨Nat.zero_le _, Nat.zero_le _⟩ rfl ?_
            refine aw_if_eq (off := 46) hC 92 Iff.rfl (by decide +kernel) (by decide) (fun h => ?_) (fun h => ?_)
            · have hF := (if_pos h).symm.trans hF
              refine aw_run (pc' := 95) hC [(.iinc 4 1, 3, 0, 0, .int 1)] (by decide +kernel) [(0, .ref 10), (1, .ref 4), (2, .int a2), (3, .int a3), (4, .int (a4 + 1))] [] σ rfl rfl ⟨trivial, trivial⟩ rfl ?_
              refine aw_goto (off := -92) hC 3 (by decide +kernel) (by decide) ?_
              exact ih a2 a3 (a4 + 1) σ hF
            · have hF := (if_neg h).symm.trans hF
              refine aw_run (pc' := 58) hC [(.aload_n 0, 1, 0, 0, .null), (.getfield 15, 3, 5, 1, .null), (.aload_n 0, 1, 0, 0, .null), (.getfield 11, 3, 5, 0, .null), (.arraylength, 1, 0, 0, .int 56)] (by decide +kernel) [(0, .ref 10), (1, .ref 4), (2, .int a2), (3, .int a3), (4, .int a4)] [.int 56, .int (σ.1 10 1)] σ rfl rfl ⟨trivial, trivial, trivial, trivial, rfl, trivial⟩ rfl ?_
              refine aw_icmp_ge (off := 34) hC 92 (by decide +kernel) (by decide) (fun h => ?_) (fun h => ?_)
              · have hF := (if_pos h).symm.trans hF
                refine aw_run (pc' := 95) hC [(.iinc 4 1, 3, 0, 0, .int 1)] (by decide +kernel) [(0, .ref 10), (1, .ref 4), (2, .int a2), (3, .int a3), (4, .int (a4 + 1))] [] σ rfl rfl ⟨trivial, trivial⟩ rfl ?_
                refine aw_goto (off := -92) hC 3 (by decide +kernel) (by decide) ?_
                exact ih a2 a3 (a4 + 1) σ hF
              · have hF := (if_neg h).symm.trans hF
                obtain ⟨g4, hF⟩ := gd hF
                obtain ⟨σ5, hσ5, hF⟩ := nmd hF
                refine aw_run (pc' := 82) hC [(.aload_n 0, 1, 0, 0, .null), (.getfield 11, 3, 5, 0, .null), (.aload_n 0, 1, 0, 0, .null), (.getfield 15, 3, 5, 1, .null), (.iconst 1, 1, 0, 0, .int 1), (.iload_n 2, 1, 0, 0, .null), (.ishl, 1, 0, 0, .null), (.iconst 1, 1, 0, 0, .int 1), (.iload_n 3, 1, 0, 0, .null), (.ishl, 1, 0, 0, .null), (.ior, 1, 0, 0, .null), (.iconst 1, 1, 0, 0, .int 1), (.iload 4, 2, 0, 0, .null), (.ishl, 1, 0, 0, .null), (.ior, 1, 0, 0, .null), (.iastore, 1, 0, 0, .null)] (by decide +kernel) [(0, .ref 10), (1, .ref 4), (2, .int a2), (3, .int a3), (4, .int a4)] [] (uI σ 11 (σ.1 10 1).toNatClampNeg ((((1 : Int32) <<< (a2 &&& 31)) ||| ((1 : Int32) <<< (a3 &&& 31))) ||| ((1 : Int32) <<< (a4 &&& 31)))) rfl rfl ⟨trivial, trivial, trivial, trivial, trivial, trivial, trivial, trivial, trivial, trivial, trivial, trivial, trivial, trivial, trivial, g4, trivial⟩ hσ5 ?_
                obtain ⟨σ6, hσ6, hF⟩ := nmd hF
                refine aw_run (pc' := 92) hC [(.aload_n 0, 1, 0, 0, .null), (.dup, 1, 0, 0, .null), (.getfield 15, 3, 5, 1, .null), (.iconst 1, 1, 0, 0, .int 1), (.iadd, 1, 0, 0, .null), (.putfield 15, 3, 5, 1, .null)] (by decide +kernel) [(0, .ref 10), (1, .ref 4), (2, .int a2), (3, .int a3), (4, .int a4)] [] (uI σ5 10 1 ((σ5.1 10 1) + 1)) rfl rfl ⟨trivial, trivial, trivial, trivial, trivial, trivial, trivial⟩ hσ6 ?_
                refine aw_run (pc' := 95) hC [(.iinc 4 1, 3, 0, 0, .int 1)] (by decide +kernel) [(0, .ref 10), (1, .ref 4), (2, .int a2), (3, .int a3), (4, .int (a4 + 1))] [] σ6 rfl rfl ⟨trivial, trivial⟩ rfl ?_
                refine aw_goto (off := -92) hC 3 (by decide +kernel) (by decide) ?_
                exact ih a2 a3 (a4 + 1) σ6 hF
  unfold f_ve_gather at hF
  refine aw_run (pc' := 3) hC [(.iconst 0, 1, 0, 0, .int 0), (.istore 4, 2, 0, 0, .null)] (by decide +kernel) [(0, .ref 10), (1, .ref 4), (2, .int a2), (3, .int a3), (4, .int 0)] [] σ rfl rfl ⟨trivial, trivial, trivial⟩ rfl ?_
  exact Jc3 N a2 a3 0 σ hF
