/-! THE LAW over the frame: the script is the cell at the place 31 -/
def R_law : String := "ShadowSpansLaw"
def lw_P (b : Addr) (xs : List Int32) (args : Array Value) (s : State) : Prop := args = #[.ref b] ∧ s.IntsAt b xs ∧ xs.length ≤ 2048 ∧ (Jvm.Cond.and given_1 narrow_1).before args s = true
def lw_Q (_ : Array Value) (s : State) (o : Outcome) (t : State) : Prop := o = .returned (some (.int 1)) ∧ Framed s o t [] 31 368
def lw_Z (below : List Frame) (a : Array Value) (s : State) : State → Prop := fun t => ∃ o, t.status = .running ∧ Ended t below o ∧ lw_Q a s o t
/-- the law's own end, with 1 on the stack, nothing written that was there before, its room as the claim has it -/
theorem lw_ret {p : Program} {l : Launch} {e : Env} {s : State} {m : MethodId} {below : List Frame} {meth : Method} {c : Code} {b : Nat} (hx : p.tables.exec = Jvm.exec) (hb : c.code = code) (hr : meth.sig.returnType = ret) (hlocks : meth.locks = false) {pc : Nat} {H : Heap} {ls : Array Slot} (hdg : decode code pc = .ok (.ireturn, 1)) : W p l e room_1 s m #[Value.ref b] below meth c H [] 31 368 (lw_Z below #[Value.ref b] s) (F0 m pc ls [.int 1]) := by
  intro T hT X
  obtain ⟨fs, hret, hrun, hended, hW, hframe⟩ := X.leave (v := some (.int 1)) (hlocks := hlocks) (fun h => by rw [hr] at h; cases h)
  have hmeth' : T.vm.method? m = some meth := X.method'
  refine ⟨T.setFrames fs, ?_, .returned (some (.int 1)), hrun, hended, rfl, ⟨_, rfl⟩, hW, hframe⟩
  jvm_step X.here [X.here.top, hx, hb, hdg, hmeth', hr, ret, narrow_b1]
  (try refine ⟨rfl, ?_⟩); (try refine ⟨rfl, ?_⟩)
  first | (intro acts; rw [hret _ acts rfl rfl rfl]) | rw [hret _ _ rfl rfl rfl]
  exact Steps.refl _
/-- what holds at the law's entry: the machine, the code, the tables' words (any of lw_tbl by 'hts w (by decide +kernel)'), the script of L ints xs at the cell b, what the Statement gives of the start (any of its parts by flat_of_before) -/
def lw_At (p : Program) (s : State) (m : MethodId) (meth : Method) (c : Code) (b L : Nat) (xs : Nat → Int32) : Prop :=
  p.tables.exec = Jvm.exec ∧ c.code = code ∧ meth.sig.returnType = ret ∧ c.maxLocals = 4 ∧ s.vm.findClass R_law = some m.cls ∧ (∀ w ∈ lw_tbl, w.before #[Value.ref b] s = true) ∧ va_X b L xs s s.heap ∧ b < s.heap.size ∧ meth.locks = false ∧ (Jvm.Cond.and given_1 narrow_1).before #[Value.ref b] s = true
theorem ln_10_13 : Cond.methodLink (RN 10) 13 yX6_letter ∈ tw := tw_of 264 (by decide +kernel) rfl
theorem ln_10_18 : Cond.methodLink (RN 10) 18 yX6_blank ∈ tw := tw_of 270 (by decide +kernel) rfl
theorem ln_10_23 : Cond.methodLink (RN 10) 23 yX6_fault ∈ tw := tw_of 274 (by decide +kernel) rfl
theorem ln_10_27 : Cond.methodLink (RN 10) 27 yX6_report ∈ tw := tw_of 317 (by decide +kernel) rfl
theorem ln_10_31 : Cond.methodLink (RN 10) 31 yX6_drop ∈ tw := tw_of 424 (by decide +kernel) rfl
theorem ln_10_35 : Cond.methodLink (RN 10) 35 yX6_error ∈ tw := tw_of 438 (by decide +kernel) rfl
theorem ln_10_40 : Cond.methodLink (RN 10) 40 yX6_speed ∈ tw := tw_of 443 (by decide +kernel) rfl
theorem ln_10_44 : Cond.methodLink (RN 10) 44 yX6_station ∈ tw := tw_of 447 (by decide +kernel) rfl
theorem ln_10_48 : Cond.methodLink (RN 10) 48 yX6_at ∈ tw := tw_of 458 (by decide +kernel) rfl
theorem ln_10_52 : Cond.methodLink (RN 10) 52 yX6_fits ∈ tw := tw_of 465 (by decide +kernel) rfl
theorem ln_10_56 : Cond.methodLink (RN 10) 56 yX6_wrong ∈ tw := tw_of 473 (by decide +kernel) rfl
theorem ln_10_60 : Cond.methodLink (RN 10) 60 yX6_kernel ∈ tw := tw_of 477 (by decide +kernel) rfl
theorem ln_10_64 : Cond.methodLink (RN 10) 64 yX6_corner ∈ tw := tw_of 510 (by decide +kernel) rfl
theorem ln_10_68 : Cond.methodLink (RN 10) 68 yX6_holds ∈ tw := tw_of 517 (by decide +kernel) rfl
theorem ln_10_73 : Cond.methodLink (RN 10) 73 yX6_reach ∈ tw := tw_of 562 (by decide +kernel) rfl
theorem ln_10_77 : Cond.methodLink (RN 10) 77 yX6_lasts ∈ tw := tw_of 601 (by decide +kernel) rfl
theorem ln_10_81 : Cond.methodLink (RN 10) 81 yX6_count ∈ tw := tw_of 620 (by decide +kernel) rfl
theorem ln_10_85 : Cond.methodLink (RN 10) 85 yX6_digest ∈ tw := tw_of 625 (by decide +kernel) rfl
theorem ln_10_17 : Cond.methodLink (RN 10) 17 yX7_letter ∈ tw := tw_of 729 (by decide +kernel) rfl
theorem ln_10_22 : Cond.methodLink (RN 10) 22 yX7_blank ∈ tw := tw_of 740 (by decide +kernel) rfl
theorem ln_10_26 : Cond.methodLink (RN 10) 26 yX7_fault ∈ tw := tw_of 744 (by decide +kernel) rfl
theorem ln_10_30 : Cond.methodLink (RN 10) 30 yX7_report ∈ tw := tw_of 770 (by decide +kernel) rfl
theorem ln_10_34 : Cond.methodLink (RN 10) 34 yX7_drop ∈ tw := tw_of 784 (by decide +kernel) rfl
theorem ln_10_39 : Cond.methodLink (RN 10) 39 yX7_error ∈ tw := tw_of 793 (by decide +kernel) rfl
theorem ln_10_43 : Cond.methodLink (RN 10) 43 yX7_speed ∈ tw := tw_of 798 (by decide +kernel) rfl
theorem ln_10_47 : Cond.methodLink (RN 10) 47 yX7_station ∈ tw := tw_of 802 (by decide +kernel) rfl
theorem ln_10_51 : Cond.methodLink (RN 10) 51 yX7_at ∈ tw := tw_of 815 (by decide +kernel) rfl
theorem ln_10_55 : Cond.methodLink (RN 10) 55 yX7_fits ∈ tw := tw_of 821 (by decide +kernel) rfl
theorem ln_10_59 : Cond.methodLink (RN 10) 59 yX7_wrong ∈ tw := tw_of 851 (by decide +kernel) rfl
theorem ln_10_63 : Cond.methodLink (RN 10) 63 yX7_kernel ∈ tw := tw_of 862 (by decide +kernel) rfl
theorem ln_10_67 : Cond.methodLink (RN 10) 67 yX7_corner ∈ tw := tw_of 907 (by decide +kernel) rfl
theorem ln_10_72 : Cond.methodLink (RN 10) 72 yX7_holds ∈ tw := tw_of 915 (by decide +kernel) rfl
theorem ln_10_76 : Cond.methodLink (RN 10) 76 yX7_reach ∈ tw := tw_of 946 (by decide +kernel) rfl
theorem ln_10_80 : Cond.methodLink (RN 10) 80 yX7_lasts ∈ tw := tw_of 978 (by decide +kernel) rfl
theorem ln_10_84 : Cond.methodLink (RN 10) 84 yX7_count ∈ tw := tw_of 990 (by decide +kernel) rfl
theorem ln_10_89 : Cond.methodLink (RN 10) 89 yX7_digest ∈ tw := tw_of 998 (by decide +kernel) rfl
section LAWR
variable {p : Program} {l : Launch} {e : Env} {s : State} {m : MethodId} {below : List Frame} {meth : Method} {c : Code} {D : va_G} {ad : Nat → Nat} {tc : Nat → ClassId} {b Ln : Nat} {xs : Nat → Int32}
variable {pc : Nat} {L : List (Nat × Value)} {st : List Value} {σ : Sg} {R : Room} {cells slots : Nat} {Q : State → Prop}
theorem aw_slen (hC : Cx p s m #[Value.ref b] meth c 10 code 4 D tc) (hX : va_X b Ln xs s s.heap) (hbl : b < s.heap.size) (had : ad 31 = b) (hd : decode code pc = .ok (.arraylength, 1))
    (kk : AW p l e R s m #[Value.ref b] below meth c D ad tc 4 (fun q => s.heap.size ≤ q) s.heap cells slots Q (pc + 1) L (.int (Int32.ofNat Ln) :: st) σ) : AW p l e R s m #[Value.ref b] below meth c D ad tc 4 (fun q => s.heap.size ≤ q) s.heap cells slots Q pc L (.ref 31 :: st) σ := by
  intro H locs ls hP hD hS hl
  have k1 := kk H locs ls hP hD hS hl
  show W _ _ _ _ _ _ _ _ _ _ _ _ _ _ _ (F0 m pc ls (.ref (ad 31) :: st.map (cv ad)))
  rw [had]
  exact va_slen hC.1 hC.2.1 hX hbl (Nat.not_le.mpr hbl) hS hd k1
theorem aw_sld (hC : Cx p s m #[Value.ref b] meth c 10 code 4 D tc) (hX : va_X b Ln xs s s.heap) (hbl : b < s.heap.size) (had : ad 31 = b) {i : Int32} (hin : vp_in i Ln) (hd : decode code pc = .ok (.iaload, 1))
    (kk : AW p l e R s m #[Value.ref b] below meth c D ad tc 4 (fun q => s.heap.size ≤ q) s.heap cells slots Q (pc + 1) L (.int (xs i.toNatClampNeg) :: st) σ) : AW p l e R s m #[Value.ref b] below meth c D ad tc 4 (fun q => s.heap.size ≤ q) s.heap cells slots Q pc L (.int i :: .ref 31 :: st) σ := by
  intro H locs ls hP hD hS hl
  have k1 := kk H locs ls hP hD hS hl
  show W _ _ _ _ _ _ _ _ _ _ _ _ _ _ _ (F0 m pc ls (.int i :: .ref (ad 31) :: st.map (cv ad)))
  rw [had]
  exact va_sld hC.1 hC.2.1 hX hbl (Nat.not_le.mpr hbl) hS hin hd k1
theorem aw_law1 (hC : Cx p s m #[Value.ref b] meth c 10 code 4 D tc) (hr : meth.sig.returnType = ret) (hd : decode code pc = .ok (.ireturn, 1)) : AW p l e room_1 s m #[Value.ref b] below meth c D ad tc 4 (fun q => s.heap.size ≤ q) s.heap 31 368 (lw_Z below #[Value.ref b] s) pc L [.int 1] σ := by
  intro H locs ls hP hD hS hl
  refine va_forget (fun q hq => hS.2.2 q hq) ?_
  exact lw_ret hC.1 hC.2.1 hr hC.2.2.2.2.2.2 hd
end LAWR
def f_law_c18_s (N L : Nat) (xs : Nat → Int32) (kc18 : Int32 → Sg → Option Int32) (a3 : Int32) (σ : Sg) : Option Int32 := if ((Int32.ofNat L) - 4) < a3 then (some 1) else (if ib a3 L then if ((xs a3.toNatClampNeg) &&& 31) = 0 then (if ib (a3 + 1) L then (f_ss_letter σ (xs (a3 + 1).toNatClampNeg)).bind fun q3 => (f_mo_letter q3.2 (xs (a3 + 1).toNatClampNeg)).bind fun q4 => if q3.1 = q4.1 then (kc18 (a3 + 4) q4.2) else (some 0) else none) else (if ((xs a3.toNatClampNeg) &&& 31) = 1 then (nm (f_ss_blank σ) fun q5 => nm (f_mo_blank q5.2) fun q6 => if q5.1 = q6.1 then (kc18 (a3 + 4) q6.2) else (some 0)) else (if ((xs a3.toNatClampNeg) &&& 31) = 2 then ((f_ss_fault N σ).bind fun q7 => (f_mo_fault N q7.2).bind fun q8 => if q7.1 = q8.1 then (kc18 (a3 + 4) q8.2) else (some 0)) else (if ((xs a3.toNatClampNeg) &&& 31) = 3 then ((f_ss_report N σ).bind fun q9 => (f_mo_report N q9.2).bind fun q10 => if q9.1 = q10.1 then (kc18 (a3 + 4) q10.2) else (some 0)) else (if ((xs a3.toNatClampNeg) &&& 31) = 4 then (if ib (a3 + 1) L then (f_ss_drop N σ (xs (a3 + 1).toNatClampNeg)).bind fun q12 => (f_mo_drop N q12.2 (xs (a3 + 1).toNatClampNeg)).bind fun q13 => if q12.1 = q13.1 then (kc18 (a3 + 4) q13.2) else (some 0) else none) else (if ((xs a3.toNatClampNeg) &&& 31) = 5 then (if ib (a3 + 1) L then if ib (a3 + 2) L then (f_ss_error N σ (xs (a3 + 1).toNatClampNeg) (xs (a3 + 2).toNatClampNeg)).bind fun q16 => (f_mo_error q16.2 (xs (a3 + 1).toNatClampNeg) (xs (a3 + 2).toNatClampNeg)).bind fun q17 => if q16.1 = q17.1 then (kc18 (a3 + 4) q17.2) else (some 0) else none else none) else (if ((xs a3.toNatClampNeg) &&& 31) = 6 then (if ib (a3 + 1) L then (f_ss_speed N σ (xs (a3 + 1).toNatClampNeg)).bind fun q19 => nm (f_mo_speed q19.2 (xs (a3 + 1).toNatClampNeg)) fun q20 => if q19.1 = q20.1 then (kc18 (a3 + 4) q20.2) else (some 0) else none) else (if ((xs a3.toNatClampNeg) &&& 31) = 7 then (if ib (a3 + 1) L then if ib (a3 + 2) L then (f_ss_station σ (xs (a3 + 1).toNatClampNeg) (xs (a3 + 2).toNatClampNeg)).bind fun q23 => (f_mo_station σ (xs (a3 + 1).toNatClampNeg) (xs (a3 + 2).toNatClampNeg)).bind fun q24 => if q23 = q24 then (kc18 (a3 + 4) σ) else (some 0) else none else none) else (if ((xs a3.toNatClampNeg) &&& 31) = 8 then (if ib (a3 + 1) L then (f_ss_at N σ (xs (a3 + 1).toNatClampNeg)).bind fun q26 => (f_mo_at N σ (xs (a3 + 1).toNatClampNeg)).bind fun q27 => if q26 = q27 then (kc18 (a3 + 4) σ) else (some 0) else none) else (if ((xs a3.toNatClampNeg) &&& 31) = 9 then ((f_mo_fits N σ).bind fun q28 => if (f_ss_fits σ) = q28 then (kc18 (a3 + 4) σ) else (some 0)) else (if ((xs a3.toNatClampNeg) &&& 31) = 10 then ((f_mo_wrong N σ).bind fun q29 => if (f_ss_wrong σ) = q29 then (kc18 (a3 + 4) σ) else (some 0)) else (if ((xs a3.toNatClampNeg) &&& 31) = 11 then (if ib (a3 + 1) L then (f_ss_kernel N σ (xs (a3 + 1).toNatClampNeg)).bind fun q31 => (f_mo_kernel N σ (xs (a3 + 1).toNatClampNeg)).bind fun q32 => if q31 = q32.1 then (kc18 (a3 + 4) q32.2) else (some 0) else none) else (if ((xs a3.toNatClampNeg) &&& 31) = 12 then (if ib (a3 + 1) L then if ib (a3 + 2) L then (f_ss_corner σ (xs (a3 + 1).toNatClampNeg) (xs (a3 + 2).toNatClampNeg)).bind fun q35 => (f_mo_corner N σ (xs (a3 + 1).toNatClampNeg) (xs (a3 + 2).toNatClampNeg)).bind fun q36 => if q35 = q36.1 then (kc18 (a3 + 4) q36.2) else (some 0) else none else none) else (if ((xs a3.toNatClampNeg) &&& 31) = 13 then (if ib (a3 + 1) L then if ib (a3 + 2) L then if ib (a3 + 3) L then (f_ss_holds N σ (xs (a3 + 1).toNatClampNeg) (xs (a3 + 2).toNatClampNeg) (xs (a3 + 3).toNatClampNeg)).bind fun q40 => (f_mo_holds N q40.2 (xs (a3 + 1).toNatClampNeg) (xs (a3 + 2).toNatClampNeg) (xs (a3 + 3).toNatClampNeg)).bind fun q41 => if q40.1 = q41.1 then (kc18 (a3 + 4) q41.2) else (some 0) else none else none else none) else (if ((xs a3.toNatClampNeg) &&& 31) = 14 then (if ib (a3 + 1) L then if ib (a3 + 2) L then if ib (a3 + 3) L then (f_ss_reach N σ (xs (a3 + 1).toNatClampNeg) (xs (a3 + 2).toNatClampNeg) (xs (a3 + 3).toNatClampNeg)).bind fun q45 => (f_mo_reach N q45.2 (xs (a3 + 1).toNatClampNeg) (xs (a3 + 2).toNatClampNeg) (xs (a3 + 3).toNatClampNeg)).bind fun q46 => if q45.1 = q46.1 then (kc18 (a3 + 4) q46.2) else (some 0) else none else none else none) else (if ((xs a3.toNatClampNeg) &&& 31) = 15 then (if ib (a3 + 1) L then if ib (a3 + 2) L then (f_ss_lasts N σ (xs (a3 + 1).toNatClampNeg) (xs (a3 + 2).toNatClampNeg)).bind fun q49 => (f_mo_lasts N q49.2 (xs (a3 + 1).toNatClampNeg) (xs (a3 + 2).toNatClampNeg)).bind fun q50 => if q49.1 = q50.1 then (kc18 (a3 + 4) q50.2) else (some 0) else none else none) else (if ((xs a3.toNatClampNeg) &&& 31) = 16 then (if ib (a3 + 1) L then (f_ss_count N σ (xs (a3 + 1).toNatClampNeg)).bind fun q52 => (f_mo_count N σ (xs (a3 + 1).toNatClampNeg)).bind fun q53 => if q52 = q53 then (kc18 (a3 + 4) σ) else (some 0) else none) else (if ((xs a3.toNatClampNeg) &&& 31) = 17 then ((f_ss_digest N σ).bind fun q54 => (f_mo_digest N q54.2).bind fun q55 => if q54.1 = q55.1 then (kc18 (a3 + 4) q55.2) else (some 0)) else (kc18 (a3 + 4) σ)))))))))))))))))) else none)
def f_law_c18 (N L : Nat) (xs : Nat → Int32) : Nat → Int32 → Sg → Option Int32
  | 0 => fun _ _ => none
  | n + 1 => f_law_c18_s N L xs (f_law_c18 N L xs n)
set_option maxHeartbeats 4000000 in
set_option maxRecDepth 100000 in
theorem law_loop {p : Program} {l : Launch} {e : Env} {s : State} {m : MethodId} {below : List Frame} {meth : Method} {c : Code} {D : va_G} {ad : Nat → Nat} {tc : Nat → ClassId} {b L : Nat} {xs : Nat → Int32} (N : Nat) (hC : Cx p s m #[Value.ref b] meth c 10 code 4 D tc) (hr : meth.sig.returnType = ret) (hX : va_X b L xs s s.heap) (hbl : b < s.heap.size) (had : ad 31 = b) :
    ∀ (n : Nat) (a3 : Int32) (σ : Sg), f_law_c18 N L xs n a3 σ = some 1 → AW p l e room_1 s m #[Value.ref b] below meth c D ad tc 4 (fun q => s.heap.size ≤ q) s.heap 31 368 (lw_Z below #[Value.ref b] s) 18 [(0, .ref 31), (1, .ref 0), (2, .ref 20), (3, .int a3)] [] σ := by
  have hA : ∀ q : Nat, s.heap.size ≤ q → (fun q : Nat => s.heap.size ≤ q) q := fun _ h => h
  have Jc18 : ∀ (n : Nat) (a3 : Int32) (σ : Sg), f_law_c18 N L xs n a3 σ = some 1 → AW p l e room_1 s m #[Value.ref b] below meth c D ad tc 4 (fun q => s.heap.size ≤ q) s.heap 31 368 (lw_Z below #[Value.ref b] s) 18 [(0, .ref 31), (1, .ref 0), (2, .ref 20), (3, .int a3)] [] σ := by
    intro n
    induction n with
    | zero =>
      intro a3 σ hF
      cases hF
    | succ n ih =>
      intro a3 σ hF
      have hF : f_law_c18_s N L xs (f_law_c18 N L xs n) a3 σ = some 1 := hF
      unfold f_law_c18_s at hF
      refine aw_run (pc' := 20) hC [(.iload_n 3, 1, 0, 0, .null), (.aload_n 0, 1, 0, 0, .null)] (by decide +kernel) [(0, .ref 31), (1, .ref 0), (2, .ref 20), (3, .int a3)] [.ref 31, .int a3] σ rfl rfl ⟨trivial, trivial, trivial⟩ rfl ?_
      refine aw_slen hC hX hbl had (by decide +kernel) ?_
      refine aw_run (pc' := 23) hC [(.iconst 4, 1, 0, 0, .int 4), (.isub, 1, 0, 0, .null)] (by decide +kernel) [(0, .ref 31), (1, .ref 0), (2, .ref 20), (3, .int a3)] [.int ((Int32.ofNat L) - 4), .int a3] σ rfl rfl ⟨trivial, trivial, trivial⟩ rfl ?_
      refine aw_icmp_gt (off := 538) hC 561 (by decide +kernel) (by decide) (fun h => ?_) (fun h => ?_)
      · have hF := (if_pos h).symm.trans hF
        refine aw_run (pc' := 562) hC [(.iconst 1, 1, 0, 0, .int 1)] (by decide +kernel) [(0, .ref 31), (1, .ref 0), (2, .ref 20), (3, .int a3)] [.int 1] σ rfl rfl ⟨trivial, trivial⟩ rfl ?_
        exact aw_law1 hC hr (by decide +kernel)
      · have hF := (if_neg h).symm.trans hF
        refine aw_run (pc' := 28) hC [(.aload_n 0, 1, 0, 0, .null), (.iload_n 3, 1, 0, 0, .null)] (by decide +kernel) [(0, .ref 31), (1, .ref 0), (2, .ref 20), (3, .int a3)] [.int a3, .ref 31] σ rfl rfl ⟨trivial, trivial, trivial⟩ rfl ?_
        obtain ⟨g1, hF⟩ := gd hF
        refine aw_sld hC hX hbl had g1 (by decide +kernel) ?_
        refine aw_run (pc' := 32) hC [(.bipush 31, 2, 0, 0, .int 31), (.iand, 1, 0, 0, .null)] (by decide +kernel) [(0, .ref 31), (1, .ref 0), (2, .ref 20), (3, .int a3)] [.int ((xs a3.toNatClampNeg) &&& 31)] σ rfl rfl ⟨trivial, trivial, trivial⟩ rfl ?_
        by_cases h32_0 : ((xs a3.toNatClampNeg) &&& 31) = 0
        · have hF := (if_pos h32_0).symm.trans hF
          refine aw_tabIn (dflt := 523) (lo := 0) (hi := 17) (offs := #[88, 111, 124, 137, 150, 173, 206, 229, 262, 285, 298, 311, 334, 367, 410, 453, 486, 509]) (len := 88) hC 88 120 h32_0 (by decide +kernel) (by decide) (by decide) (by decide) (by decide) ?_
          refine aw_run (pc' := 125) hC [(.aload_n 1, 1, 0, 0, .null), (.aload_n 0, 1, 0, 0, .null), (.iload_n 3, 1, 0, 0, .null), (.iconst 1, 1, 0, 0, .int 1), (.iadd, 1, 0, 0, .null)] (by decide +kernel) [(0, .ref 31), (1, .ref 0), (2, .ref 20), (3, .int a3)] [.int (a3 + 1), .ref 31, .ref 0] σ rfl rfl ⟨trivial, trivial, trivial, trivial, trivial, trivial⟩ rfl ?_
          obtain ⟨g2, hF⟩ := gd hF
          refine aw_sld hC hX hbl had g2 (by decide +kernel) ?_
          obtain ⟨q3, eq3, hF⟩ := bd hF
          refine aw_callV hC hA (rest := []) (c_ss_letter σ (xs (a3 + 1).toNatClampNeg) q3 eq3) mt_X6_letter ln_10_13 (by decide +kernel) ⟨_, rfl⟩ rfl rfl (Nat.le_of_ble_eq_true rfl) ⟨⟨rfl, rfl⟩, Nat.le_of_ble_eq_true rfl, Nat.le_of_ble_eq_true rfl⟩ ⟨Nat.le_of_ble_eq_true rfl, Nat.le_of_ble_eq_true rfl⟩ rfl ?_
          refine aw_run (pc' := 134) hC [(.aload_n 2, 1, 0, 0, .null), (.aload_n 0, 1, 0, 0, .null), (.iload_n 3, 1, 0, 0, .null), (.iconst 1, 1, 0, 0, .int 1), (.iadd, 1, 0, 0, .null)] (by decide +kernel) [(0, .ref 31), (1, .ref 0), (2, .ref 20), (3, .int a3)] [.int (a3 + 1), .ref 31, .ref 20, .int q3.1] q3.2 rfl rfl ⟨trivial, trivial, trivial, trivial, trivial, trivial⟩ rfl ?_
          refine aw_sld hC hX hbl had g2 (by decide +kernel) ?_
          obtain ⟨q4, eq4, hF⟩ := bd hF
          refine aw_callV hC hA (rest := [.int q3.1]) (c_mo_letter q3.2 (xs (a3 + 1).toNatClampNeg) q4 eq4) mt_X7_letter ln_10_17 (by decide +kernel) ⟨_, rfl⟩ rfl rfl (Nat.le_of_ble_eq_true rfl) ⟨⟨rfl, rfl⟩, Nat.le_of_ble_eq_true rfl, Nat.le_of_ble_eq_true rfl⟩ ⟨Nat.le_of_ble_eq_true rfl, Nat.le_of_ble_eq_true rfl⟩ rfl ?_
          refine aw_icmp_eq (off := 417) hC 555 (by decide +kernel) (by decide) (fun h => ?_) (fun h => ?_)
          · have hF := (if_pos h).symm.trans hF
            refine aw_run (pc' := 558) hC [(.iinc 3 4, 3, 0, 0, .int 4)] (by decide +kernel) [(0, .ref 31), (1, .ref 0), (2, .ref 20), (3, .int (a3 + 4))] [] q4.2 rfl rfl ⟨trivial, trivial⟩ rfl ?_
            refine aw_goto (off := -540) hC 18 (by decide +kernel) (by decide) ?_
            exact ih (a3 + 4) q4.2 hF
          · have hF := (if_neg h).symm.trans hF
            refine aw_run (pc' := 142) hC [(.iconst 0, 1, 0, 0, .int 0)] (by decide +kernel) [(0, .ref 31), (1, .ref 0), (2, .ref 20), (3, .int a3)] [.int 0] q4.2 rfl rfl ⟨trivial, trivial⟩ rfl ?_
            exact absurd (Option.some.inj hF) (by decide)
        · have hF := (if_neg h32_0).symm.trans hF
          by_cases h32_1 : ((xs a3.toNatClampNeg) &&& 31) = 1
          · have hF := (if_pos h32_1).symm.trans hF
            refine aw_tabIn (dflt := 523) (lo := 0) (hi := 17) (offs := #[88, 111, 124, 137, 150, 173, 206, 229, 262, 285, 298, 311, 334, 367, 410, 453, 486, 509]) (len := 88) hC 111 143 h32_1 (by decide +kernel) (by decide) (by decide) (by decide) (by decide) ?_
            refine aw_run (pc' := 144) hC [(.aload_n 1, 1, 0, 0, .null)] (by decide +kernel) [(0, .ref 31), (1, .ref 0), (2, .ref 20), (3, .int a3)] [.ref 0] σ rfl rfl ⟨trivial, trivial⟩ rfl ?_
            obtain ⟨q5, eq5, hF⟩ := nmd hF
            refine aw_callV hC hA (rest := []) (c_ss_blank σ q5 eq5) mt_X6_blank ln_10_18 (by decide +kernel) ⟨_, rfl⟩ rfl rfl (Nat.le_of_ble_eq_true rfl) ⟨⟨rfl, rfl⟩, Nat.le_of_ble_eq_true rfl, Nat.le_of_ble_eq_true rfl⟩ ⟨Nat.le_of_ble_eq_true rfl, Nat.le_of_ble_eq_true rfl⟩ rfl ?_
            refine aw_run (pc' := 148) hC [(.aload_n 2, 1, 0, 0, .null)] (by decide +kernel) [(0, .ref 31), (1, .ref 0), (2, .ref 20), (3, .int a3)] [.ref 20, .int q5.1] q5.2 rfl rfl ⟨trivial, trivial⟩ rfl ?_
            obtain ⟨q6, eq6, hF⟩ := nmd hF
            refine aw_callV hC hA (rest := [.int q5.1]) (c_mo_blank q5.2 q6 eq6) mt_X7_blank ln_10_22 (by decide +kernel) ⟨_, rfl⟩ rfl rfl (Nat.le_of_ble_eq_true rfl) ⟨⟨rfl, rfl⟩, Nat.le_of_ble_eq_true rfl, Nat.le_of_ble_eq_true rfl⟩ ⟨Nat.le_of_ble_eq_true rfl, Nat.le_of_ble_eq_true rfl⟩ rfl ?_
            refine aw_icmp_eq (off := 404) hC 555 (by decide +kernel) (by decide) (fun h => ?_) (fun h => ?_)
            · have hF := (if_pos h).symm.trans hF
              refine aw_run (pc' := 558) hC [(.iinc 3 4, 3, 0, 0, .int 4)] (by decide +kernel) [(0, .ref 31), (1, .ref 0), (2, .ref 20), (3, .int (a3 + 4))] [] q6.2 rfl rfl ⟨trivial, trivial⟩ rfl ?_
              refine aw_goto (off := -540) hC 18 (by decide +kernel) (by decide) ?_
              exact ih (a3 + 4) q6.2 hF
            · have hF := (if_neg h).symm.trans hF
              refine aw_run (pc' := 155) hC [(.iconst 0, 1, 0, 0, .int 0)] (by decide +kernel) [(0, .ref 31), (1, .ref 0), (2, .ref 20), (3, .int a3)] [.int 0] q6.2 rfl rfl ⟨trivial, trivial⟩ rfl ?_
              exact absurd (Option.some.inj hF) (by decide)
          · have hF := (if_neg h32_1).symm.trans hF
            by_cases h32_2 : ((xs a3.toNatClampNeg) &&& 31) = 2
            · have hF := (if_pos h32_2).symm.trans hF
              refine aw_tabIn (dflt := 523) (lo := 0) (hi := 17) (offs := #[88, 111, 124, 137, 150, 173, 206, 229, 262, 285, 298, 311, 334, 367, 410, 453, 486, 509]) (len := 88) hC 124 156 h32_2 (by decide +kernel) (by decide) (by decide) (by decide) (by decide) ?_
              refine aw_run (pc' := 157) hC [(.aload_n 1, 1, 0, 0, .null)] (by decide +kernel) [(0, .ref 31), (1, .ref 0), (2, .ref 20), (3, .int a3)] [.ref 0] σ rfl rfl ⟨trivial, trivial⟩ rfl ?_
              obtain ⟨q7, eq7, hF⟩ := bd hF
              refine aw_callV hC hA (rest := []) (c_ss_fault N σ q7 eq7) mt_X6_fault ln_10_23 (by decide +kernel) ⟨_, rfl⟩ rfl rfl (Nat.le_of_ble_eq_true rfl) ⟨⟨rfl, rfl⟩, Nat.le_of_ble_eq_true rfl, Nat.le_of_ble_eq_true rfl⟩ ⟨Nat.le_of_ble_eq_true rfl, Nat.le_of_ble_eq_true rfl⟩ rfl ?_
              refine aw_run (pc' := 161) hC [(.aload_n 2, 1, 0, 0, .null)] (by decide +kernel) [(0, .ref 31), (1, .ref 0), (2, .ref 20), (3, .int a3)] [.ref 20, .int q7.1] q7.2 rfl rfl ⟨trivial, trivial⟩ rfl ?_
              obtain ⟨q8, eq8, hF⟩ := bd hF
              refine aw_callV hC hA (rest := [.int q7.1]) (c_mo_fault N q7.2 q8 eq8) mt_X7_fault ln_10_26 (by decide +kernel) ⟨_, rfl⟩ rfl rfl (Nat.le_of_ble_eq_true rfl) ⟨⟨rfl, rfl⟩, Nat.le_of_ble_eq_true rfl, Nat.le_of_ble_eq_true rfl⟩ ⟨Nat.le_of_ble_eq_true rfl, Nat.le_of_ble_eq_true rfl⟩ rfl ?_
              refine aw_icmp_eq (off := 391) hC 555 (by decide +kernel) (by decide) (fun h => ?_) (fun h => ?_)
              · have hF := (if_pos h).symm.trans hF
                refine aw_run (pc' := 558) hC [(.iinc 3 4, 3, 0, 0, .int 4)] (by decide +kernel) [(0, .ref 31), (1, .ref 0), (2, .ref 20), (3, .int (a3 + 4))] [] q8.2 rfl rfl ⟨trivial, trivial⟩ rfl ?_
                refine aw_goto (off := -540) hC 18 (by decide +kernel) (by decide) ?_
                exact ih (a3 + 4) q8.2 hF
              · have hF := (if_neg h).symm.trans hF
                refine aw_run (pc' := 168) hC [(.iconst 0, 1, 0, 0, .int 0)] (by decide +kernel) [(0, .ref 31), (1, .ref 0), (2, .ref 20), (3, .int a3)] [.int 0] q8.2 rfl rfl ⟨trivial, trivial⟩ rfl ?_
                exact absurd (Option.some.inj hF) (by decide)
            · have hF := (if_neg h32_2).symm.trans hF
              by_cases h32_3 : ((xs a3.toNatClampNeg) &&& 31) = 3
              · have hF := (if_pos h32_3).symm.trans hF
                refine aw_tabIn (dflt := 523) (lo := 0) (hi := 17) (offs := #[88, 111, 124, 137, 150, 173, 206, 229, 262, 285, 298, 311, 334, 367, 410, 453, 486, 509]) (len := 88) hC 137 169 h32_3 (by decide +kernel) (by decide) (by decide) (by decide) (by decide) ?_
                refine aw_run (pc' := 170) hC [(.aload_n 1, 1, 0, 0, .null)] (by decide +kernel) [(0, .ref 31), (1, .ref 0), (2, .ref 20), (3, .int a3)] [.ref 0] σ rfl rfl ⟨trivial, trivial⟩ rfl ?_
                obtain ⟨q9, eq9, hF⟩ := bd hF
                refine aw_callV hC hA (rest := []) (c_ss_report N σ q9 eq9) mt_X6_report ln_10_27 (by decide +kernel) ⟨_, rfl⟩ rfl rfl (Nat.le_of_ble_eq_true rfl) ⟨⟨rfl, rfl⟩, Nat.le_of_ble_eq_true rfl, Nat.le_of_ble_eq_true rfl⟩ ⟨Nat.le_of_ble_eq_true rfl, Nat.le_of_ble_eq_true rfl⟩ rfl ?_
                refine aw_run (pc' := 174) hC [(.aload_n 2, 1, 0, 0, .null)] (by decide +kernel) [(0, .ref 31), (1, .ref 0), (2, .ref 20), (3, .int a3)] [.ref 20, .int q9.1] q9.2 rfl rfl ⟨trivial, trivial⟩ rfl ?_
                obtain ⟨q10, eq10, hF⟩ := bd hF
                refine aw_callV hC hA (rest := [.int q9.1]) (c_mo_report N q9.2 q10 eq10) mt_X7_report ln_10_30 (by decide +kernel) ⟨_, rfl⟩ rfl rfl (Nat.le_of_ble_eq_true rfl) ⟨⟨rfl, rfl⟩, Nat.le_of_ble_eq_true rfl, Nat.le_of_ble_eq_true rfl⟩ ⟨Nat.le_of_ble_eq_true rfl, Nat.le_of_ble_eq_true rfl⟩ rfl ?_
                refine aw_icmp_eq (off := 378) hC 555 (by decide +kernel) (by decide) (fun h => ?_) (fun h => ?_)
                · have hF := (if_pos h).symm.trans hF
                  refine aw_run (pc' := 558) hC [(.iinc 3 4, 3, 0, 0, .int 4)] (by decide +kernel) [(0, .ref 31), (1, .ref 0), (2, .ref 20), (3, .int (a3 + 4))] [] q10.2 rfl rfl ⟨trivial, trivial⟩ rfl ?_
                  refine aw_goto (off := -540) hC 18 (by decide +kernel) (by decide) ?_
                  exact ih (a3 + 4) q10.2 hF
                · have hF := (if_neg h).symm.trans hF
                  refine aw_run (pc' := 181) hC [(.iconst 0, 1, 0, 0, .int 0)] (by decide +kernel) [(0, .ref 31), (1, .ref 0), (2, .ref 20), (3, .int a3)] [.int 0] q10.2 rfl rfl ⟨trivial, trivial⟩ rfl ?_
                  exact absurd (Option.some.inj hF) (by decide)
              · have hF := (if_neg h32_3).symm.trans hF
                by_cases h32_4 : ((xs a3.toNatClampNeg) &&& 31) = 4
                · have hF := (if_pos h32_4).symm.trans hF
                  refine aw_tabIn (dflt := 523) (lo := 0) (hi := 17) (offs := #[88, 111, 124, 137, 150, 173, 206, 229, 262, 285, 298, 311, 334, 367, 410, 453, 486, 509]) (len := 88) hC 150 182 h32_4 (by decide +kernel) (by decide) (by decide) (by decide) (by decide) ?_
                  refine aw_run (pc' := 187) hC [(.aload_n 1, 1, 0, 0, .null), (.aload_n 0, 1, 0, 0, .null), (.iload_n 3, 1, 0, 0, .null), (.iconst 1, 1, 0, 0, .int 1), (.iadd, 1, 0, 0, .null)] (by decide +kernel) [(0, .ref 31), (1, .ref 0), (2, .ref 20), (3, .int a3)] [.int (a3 + 1), .ref 31, .ref 0] σ rfl rfl ⟨trivial, trivial, trivial, trivial, trivial, trivial⟩ rfl ?_
                  obtain ⟨g11, hF⟩ := gd hF
                  refine aw_sld hC hX hbl had g11 (by decide +kernel) ?_
                  obtain ⟨q12, eq12, hF⟩ := bd hF
                  refine aw_callV hC hA (rest := []) (c_ss_drop N σ (xs (a3 + 1).toNatClampNeg) q12 eq12) mt_X6_drop ln_10_31 (by decide +kernel) ⟨_, rfl⟩ rfl rfl (Nat.le_of_ble_eq_true rfl) ⟨⟨rfl, rfl⟩, Nat.le_of_ble_eq_true rfl, Nat.le_of_ble_eq_true rfl⟩ ⟨Nat.le_of_ble_eq_true rfl, Nat.le_of_ble_eq_true rfl⟩ rfl ?_
                  refine aw_run (pc' := 196) hC [(.aload_n 2, 1, 0, 0, .null), (.aload_n 0, 1, 0, 0, .null), (.iload_n 3, 1, 0, 0, .null), (.iconst 1, 1, 0, 0, .int 1), (.iadd, 1, 0, 0, .null)] (by decide +kernel) [(0, .ref 31), (1, .ref 0), (2, .ref 20), (3, .int a3)] [.int (a3 + 1), .ref 31, .ref 20, .int q12.1] q12.2 rfl rfl ⟨trivial, trivial, trivial, trivial, trivial, trivial⟩ rfl ?_
                  refine aw_sld hC hX hbl had g11 (by decide +kernel) ?_
                  obtain ⟨q13, eq13, hF⟩ := bd hF
                  refine aw_callV hC hA (rest := [.int q12.1]) (c_mo_drop N q12.2 (xs (a3 + 1).toNatClampNeg) q13 eq13) mt_X7_drop ln_10_34 (by decide +kernel) ⟨_, rfl⟩ rfl rfl (Nat.le_of_ble_eq_true rfl) ⟨⟨rfl, rfl⟩, Nat.le_of_ble_eq_true rfl, Nat.le_of_ble_eq_true rfl⟩ ⟨Nat.le_of_ble_eq_true rfl, Nat.le_of_ble_eq_true rfl⟩ rfl ?_
                  refine aw_icmp_eq (off := 355) hC 555 (by decide +kernel) (by decide) (fun h => ?_) (fun h => ?_)
                  · have hF := (if_pos h).symm.trans hF
                    refine aw_run (pc' := 558) hC [(.iinc 3 4, 3, 0, 0, .int 4)] (by decide +kernel) [(0, .ref 31), (1, .ref 0), (2, .ref 20), (3, .int (a3 + 4))] [] q13.2 rfl rfl ⟨trivial, trivial⟩ rfl ?_
                    refine aw_goto (off := -540) hC 18 (by decide +kernel) (by decide) ?_
                    exact ih (a3 + 4) q13.2 hF
                  · have hF := (if_neg h).symm.trans hF
                    refine aw_run (pc' := 204) hC [(.iconst 0, 1, 0, 0, .int 0)] (by decide +kernel) [(0, .ref 31), (1, .ref 0), (2, .ref 20), (3, .int a3)] [.int 0] q13.2 rfl rfl ⟨trivial, trivial⟩ rfl ?_
                    exact absurd (Option.some.inj hF) (by decide)
                · have hF := (if_neg h32_4).symm.trans hF
                  by_cases h32_5 : ((xs a3.toNatClampNeg) &&& 31) = 5
                  · have hF := (if_pos h32_5).symm.trans hF
                    refine aw_tabIn (dflt := 523) (lo := 0) (hi := 17) (offs := #[88, 111, 124, 137, 150, 173, 206, 229, 262, 285, 298, 311, 334, 367, 410, 453, 486, 509]) (len := 88) hC 173 205 h32_5 (by decide +kernel) (by decide) (by decide) (by decide) (by decide) ?_
                    refine aw_run (pc' := 210) hC [(.aload_n 1, 1, 0, 0, .null), (.aload_n 0, 1, 0, 0, .null), (.iload_n 3, 1, 0, 0, .null), (.iconst 1, 1, 0, 0, .int 1), (.iadd, 1, 0, 0, .null)] (by decide +kernel) [(0, .ref 31), (1, .ref 0), (2, .ref 20), (3, .int a3)] [.int (a3 + 1), .ref 31, .ref 0] σ rfl rfl ⟨trivial, trivial, trivial, trivial, trivial, trivial⟩ rfl ?_
                    obtain ⟨g14, hF⟩ := gd hF
                    refine aw_sld hC hX hbl had g14 (by decide +kernel) ?_
                    refine aw_run (pc' := 215) hC [(.aload_n 0, 1, 0, 0, .null), (.iload_n 3, 1, 0, 0, .null), (.iconst 2, 1, 0, 0, .int 2), (.iadd, 1, 0, 0, .null)] (by decide +kernel) [(0, .ref 31), (1, .ref 0), (2, .ref 20), (3, .int a3)] [.int (a3 + 2), .ref 31, .int (xs (a3 + 1).toNatClampNeg), .ref 0] σ rfl rfl ⟨trivial, trivial, trivial, trivial, trivial⟩ rfl ?_
                    obtain ⟨g15, hF⟩ := gd hF
                    refine aw_sld hC hX hbl had g15 (by decide +kernel) ?_
                    obtain ⟨q16, eq16, hF⟩ := bd hF
                    refine aw_callV hC hA (rest := []) (c_ss_error N σ (xs (a3 + 1).toNatClampNeg) (xs (a3 + 2).toNatClampNeg) q16 eq16) mt_X6_error ln_10_35 (by decide +kernel) ⟨_, rfl⟩ rfl rfl (Nat.le_of_ble_eq_true rfl) ⟨⟨rfl, rfl⟩, Nat.le_of_ble_eq_true rfl, Nat.le_of_ble_eq_true rfl⟩ ⟨Nat.le_of_ble_eq_true rfl, Nat.le_of_ble_eq_true rfl⟩ rfl ?_
                    refine aw_run (pc' := 224) hC [(.aload_n 2, 1, 0, 0, .null), (.aload_n 0, 1, 0, 0, .null), (.iload_n 3, 1, 0, 0, .null), (.iconst 1, 1, 0, 0, .int 1), (.iadd, 1, 0, 0, .null)] (by decide +kernel) [(0, .ref 31), (1, .ref 0), (2, .ref 20), (3, .int a3)] [.int (a3 + 1), .ref 31, .ref 20, .int q16.1] q16.2 rfl rfl ⟨trivial, trivial, trivial, trivial, trivial, trivial⟩ rfl ?_
                    refine aw_sld hC hX hbl had g14 (by decide +kernel) ?_
                    refine aw_run (pc' := 229) hC [(.aload_n 0, 1, 0, 0, .null), (.iload_n 3, 1, 0, 0, .null), (.iconst 2, 1, 0, 0, .int 2), (.iadd, 1, 0, 0, .null)] (by decide +kernel) [(0, .ref 31), (1, .ref 0), (2, .ref 20), (3, .int a3)] [.int (a3 + 2), .ref 31, .int (xs (a3 + 1).toNatClampNeg), .ref 20, .int q16.1] q16.2 rfl rfl ⟨trivial, trivial, trivial, trivial, trivial⟩ rfl ?_
                    refine aw_sld hC hX hbl had g15 (by decide +kernel) ?_
                    obtain ⟨q17, eq17, hF⟩ := bd hF
                    refine aw_callV hC hA (rest := [.int q16.1]) (c_mo_error q16.2 (xs (a3 + 1).toNatClampNeg) (xs (a3 + 2).toNatClampNeg) q17 eq17) mt_X7_error ln_10_39 (by decide +kernel) ⟨_, rfl⟩ rfl rfl (Nat.le_of_ble_eq_true rfl) ⟨⟨rfl, rfl⟩, Nat.le_of_ble_eq_true rfl, Nat.le_of_ble_eq_true rfl⟩ ⟨Nat.le_of_ble_eq_true rfl, Nat.le_of_ble_eq_true rfl⟩ rfl ?_
                    refine aw_icmp_eq (off := 322) hC 555 (by decide +kernel) (by decide) (fun h => ?_) (fun h => ?_)
                    · have hF := (if_pos h).symm.trans hF
                      refine aw_run (pc' := 558) hC [(.iinc 3 4, 3, 0, 0, .int 4)] (by decide +kernel) [(0, .ref 31), (1, .ref 0), (2, .ref 20), (3, .int (a3 + 4))] [] q17.2 rfl rfl ⟨trivial, trivial⟩ rfl ?_
                      refine aw_goto (off := -540) hC 18 (by decide +kernel) (by decide) ?_
                      exact ih (a3 + 4) q17.2 hF
                    · have hF := (if_neg h).symm.trans hF
                      refine aw_run (pc' := 237) hC [(.iconst 0, 1, 0, 0, .int 0)] (by decide +kernel) [(0, .ref 31), (1, .ref 0), (2, .ref 20), (3, .int a3)] [.int 0] q17.2 rfl rfl ⟨trivial, trivial⟩ rfl ?_
                      exact absurd (Option.some.inj hF) (by decide)
                  · have hF := (if_neg h32_5).symm.trans hF
                    by_cases h32_6 : ((xs a3.toNatClampNeg) &&& 31) = 6
                    · have hF := (if_pos h32_6).symm.trans hF
                      refine aw_tabIn (dflt := 523) (lo := 0) (hi := 17) (offs := #[88, 111, 124, 137, 150, 173, 206, 229, 262, 285, 298, 311, 334, 367, 410, 453, 486, 509]) (len := 88) hC 206 238 h32_6 (by decide +kernel) (by decide) (by decide) (by decide) (by decide) ?_
                      refine aw_run (pc' := 243) hC [(.aload_n 1, 1, 0, 0, .null), (.aload_n 0, 1, 0, 0, .null), (.iload_n 3, 1, 0, 0, .null), (.iconst 1, 1, 0, 0, .int 1), (.iadd, 1, 0, 0, .null)] (by decide +kernel) [(0, .ref 31), (1, .ref 0), (2, .ref 20), (3, .int a3)] [.int (a3 + 1), .ref 31, .ref 0] σ rfl rfl ⟨trivial, trivial, trivial, trivial, trivial, trivial⟩ rfl ?_
                      obtain ⟨g18, hF⟩ := gd hF
                      refine aw_sld hC hX hbl had g18 (by decide +kernel) ?_
                      obtain ⟨q19, eq19, hF⟩ := bd hF
                      refine aw_callV hC hA (rest := []) (c_ss_speed N σ (xs (a3 + 1).toNatClampNeg) q19 eq19) mt_X6_speed ln_10_40 (by decide +kernel) ⟨_, rfl⟩ rfl rfl (Nat.le_of_ble_eq_true rfl) ⟨⟨rfl, rfl⟩, Nat.le_of_ble_eq_true rfl, Nat.le_of_ble_eq_true rfl⟩ ⟨Nat.le_of_ble_eq_true rfl, Nat.le_of_ble_eq_true rfl⟩ rfl ?_
                      refine aw_run (pc' := 252) hC [(.aload_n 2, 1, 0, 0, .null), (.aload_n 0, 1, 0, 0, .null), (.iload_n 3, 1, 0, 0, .null), (.iconst 1, 1, 0, 0, .int 1), (.iadd, 1, 0, 0, .null)] (by decide +kernel) [(0, .ref 31), (1, .ref 0), (2, .ref 20), (3, .int a3)] [.int (a3 + 1), .ref 31, .ref 20, .int q19.1] q19.2 rfl rfl ⟨trivial, trivial, trivial, trivial, trivial, trivial⟩ rfl ?_
                      refine aw_sld hC hX hbl had g18 (by decide +kernel) ?_
                      obtain ⟨q20, eq20, hF⟩ := nmd hF
                      refine aw_callV hC hA (rest := [.int q19.1]) (c_mo_speed q19.2 (xs (a3 + 1).toNatClampNeg) q20 eq20) mt_X7_speed ln_10_43 (by decide +kernel) ⟨_, rfl⟩ rfl rfl (Nat.le_of_ble_eq_true rfl) ⟨⟨rfl, rfl⟩, Nat.le_of_ble_eq_true rfl, Nat.le_of_ble_eq_true rfl⟩ ⟨Nat.le_of_ble_eq_true rfl, Nat.le_of_ble_eq_true rfl⟩ rfl ?_
                      refine aw_icmp_eq (off := 299) hC 555 (by decide +kernel) (by decide) (fun h => ?_) (fun h => ?_)
                      · have hF := (if_pos h).symm.trans hF
                        refine aw_run (pc' := 558) hC [(.iinc 3 4, 3, 0, 0, .int 4)] (by decide +kernel) [(0, .ref 31), (1, .ref 0), (2, .ref 20), (3, .int (a3 + 4))] [] q20.2 rfl rfl ⟨trivial, trivial⟩ rfl ?_
                        refine aw_goto (off := -540) hC 18 (by decide +kernel) (by decide) ?_
                        exact ih (a3 + 4) q20.2 hF
                      · have hF := (if_neg h).symm.trans hF
                        refine aw_run (pc' := 260) hC [(.iconst 0, 1, 0, 0, .int 0)] (by decide +kernel) [(0, .ref 31), (1, .ref 0), (2, .ref 20), (3, .int a3)] [.int 0] q20.2 rfl rfl ⟨trivial, trivial⟩ rfl ?_
                        exact absurd (Option.some.inj hF) (by decide)
                    · have hF := (if_neg h32_6).symm.trans hF
                      by_cases h32_7 : ((xs a3.toNatClampNeg) &&& 31) = 7
                      · have hF := (if_pos h32_7).symm.trans hF
                        refine aw_tabIn (dflt := 523) (lo := 0) (hi := 17) (offs := #[88, 111, 124, 137, 150, 173, 206, 229, 262, 285, 298, 311, 334, 367, 410, 453, 486, 509]) (len := 88) hC 229 261 h32_7 (by decide +kernel) (by decide) (by decide) (by decide) (by decide) ?_
                        refine aw_run (pc' := 266) hC [(.aload_n 1, 1, 0, 0, .null), (.aload_n 0, 1, 0, 0, .null), (.iload_n 3, 1, 0, 0, .null), (.iconst 1, 1, 0, 0, .int 1), (.iadd, 1, 0, 0, .null)] (by decide +kernel) [(0, .ref 31), (1, .ref 0), (2, .ref 20), (3, .int a3)] [.int (a3 + 1), .ref 31, .ref 0] σ rfl rfl ⟨trivial, trivial, trivial, trivial, trivial, trivial⟩ rfl ?_
                        obtain ⟨g21, hF⟩ := gd hF
                        refine aw_sld hC hX hbl had g21 (by decide +kernel) ?_
                        refine aw_run (pc' := 271) hC [(.aload_n 0, 1, 0, 0, .null), (.iload_n 3, 1, 0, 0, .null), (.iconst 2, 1, 0, 0, .int 2), (.iadd, 1, 0, 0, .null)] (by decide +kernel) [(0, .ref 31), (1, .ref 0), (2, .ref 20), (3, .int a3)] [.int (a3 + 2), .ref 31, .int (xs (a3 + 1).toNatClampNeg), .ref 0] σ rfl rfl ⟨trivial, trivial, trivial, trivial, trivial⟩ rfl ?_
                        obtain ⟨g22, hF⟩ := gd hF
                        refine aw_sld hC hX hbl had g22 (by decide +kernel) ?_
                        obtain ⟨q23, eq23, hF⟩ := bd hF
                        refine aw_callV hC hA (rest := []) (c_ss_station σ (xs (a3 + 1).toNatClampNeg) (xs (a3 + 2).toNatClampNeg) q23 eq23) mt_X6_station ln_10_44 (by decide +kernel) ⟨_, rfl⟩ rfl rfl (Nat.le_of_ble_eq_true rfl) ⟨⟨rfl, rfl⟩, Nat.le_of_ble_eq_true rfl, Nat.le_of_ble_eq_true rfl⟩ ⟨Nat.le_of_ble_eq_true rfl, Nat.le_of_ble_eq_true rfl⟩ rfl ?_
                        refine aw_run (pc' := 280) hC [(.aload_n 2, 1, 0, 0, .null), (.aload_n 0, 1, 0, 0, .null), (.iload_n 3, 1, 0, 0, .null), (.iconst 1, 1, 0, 0, .int 1), (.iadd, 1, 0, 0, .null)] (by decide +kernel) [(0, .ref 31), (1, .ref 0), (2, .ref 20), (3, .int a3)] [.int (a3 + 1), .ref 31, .ref 20, .int q23] σ rfl rfl ⟨trivial, trivial, trivial, trivial, trivial, trivial⟩ rfl ?_
                        refine aw_sld hC hX hbl had g21 (by decide +kernel) ?_
                        refine aw_run (pc' := 285) hC [(.aload_n 0, 1, 0, 0, .null), (.iload_n 3, 1, 0, 0, .null), (.iconst 2, 1, 0, 0, .int 2), (.iadd, 1, 0, 0, .null)] (by decide +kernel) [(0, .ref 31), (1, .ref 0), (2, .ref 20), (3, .int a3)] [.int (a3 + 2), .ref 31, .int (xs (a3 + 1).toNatClampNeg), .ref 20, .int q23] σ rfl rfl ⟨trivial, trivial, trivial, trivial, trivial⟩ rfl ?_
                        refine aw_sld hC hX hbl had g22 (by decide +kernel) ?_
                        obtain ⟨q24, eq24, hF⟩ := bd hF
                        refine aw_callV hC hA (rest := [.int q23]) (c_mo_station σ (xs (a3 + 1).toNatClampNeg) (xs (a3 + 2).toNatClampNeg) q24 eq24) mt_X7_station ln_10_47 (by decide +kernel) ⟨_, rfl⟩ rfl rfl (Nat.le_of_ble_eq_true rfl) ⟨⟨rfl, rfl⟩, Nat.le_of_ble_eq_true rfl, Nat.le_of_ble_eq_true rfl⟩ ⟨Nat.le_of_ble_eq_true rfl, Nat.le_of_ble_eq_true rfl⟩ rfl ?_
                        refine aw_icmp_eq (off := 266) hC 555 (by decide +kernel) (by decide) (fun h => ?_) (fun h => ?_)
                        · have hF := (if_pos h).symm.trans hF
                          refine aw_run (pc' := 558) hC [(.iinc 3 4, 3, 0, 0, .int 4)] (by decide +kernel) [(0, .ref 31), (1, .ref 0), (2, .ref 20), (3, .int (a3 + 4))] [] σ rfl rfl ⟨trivial, trivial⟩ rfl ?_
                          refine aw_goto (off := -540) hC 18 (by decide +kernel) (by decide) ?_
                          exact ih (a3 + 4) σ hF
                        · have hF := (if_neg h).symm.trans hF
                          refine aw_run (pc' := 293) hC [(.iconst 0, 1, 0, 0, .int 0)] (by decide +kernel) [(0, .ref 31), (1, .ref 0), (2, .ref 20), (3, .int a3)] [.int 0] σ rfl rfl ⟨trivial, trivial⟩ rfl ?_
                          exact absurd (Option.some.inj hF) (by decide)
                      · have hF := (if_neg h32_7).symm.trans hF
                        by_cases h32_8 : ((xs a3.toNatClampNeg) &&& 31) = 8
                        · have hF := (if_pos h32_8).symm.trans hF
                          refine aw_tabIn (dflt := 523) (lo := 0) (hi := 17) (offs := #[88, 111, 124, 137, 150, 173, 206, 229, 262, 285, 298, 311, 334, 367, 410, 453, 486, 509]) (len := 88) hC 262 294 h32_8 (by decide +kernel) (by decide) (by decide) (by decide) (by decide) ?_
                          refine aw_run (pc' := 299) hC [(.aload_n 1, 1, 0, 0, .null), (.aload_n 0, 1, 0, 0, .null), (.iload_n 3, 1, 0, 0, .null), (.iconst 1, 1, 0, 0, .int 1), (.iadd, 1, 0, 0, .null)] (by decide +kernel) [(0, .ref 31), (1, .ref 0), (2, .ref 20), (3, .int a3)] [.int (a3 + 1), .ref 31, .ref 0] σ rfl rfl ⟨trivial, trivial, trivial, trivial, trivial, trivial⟩ rfl ?_
                          obtain ⟨g25, hF⟩ := gd hF
                          refine aw_sld hC hX hbl had g25 (by decide +kernel) ?_
                          obtain ⟨q26, eq26, hF⟩ := bd hF
                          refine aw_callV hC hA (rest := []) (c_ss_at N σ (xs (a3 + 1).toNatClampNeg) q26 eq26) mt_X6_at ln_10_48 (by decide +kernel) ⟨_, rfl⟩ rfl rfl (Nat.le_of_ble_eq_true rfl) ⟨⟨rfl, rfl⟩, Nat.le_of_ble_eq_true rfl, Nat.le_of_ble_eq_true rfl⟩ ⟨Nat.le_of_ble_eq_true rfl, Nat.le_of_ble_eq_true rfl⟩ rfl ?_
                          refine aw_run (pc' := 308) hC [(.aload_n 2, 1, 0, 0, .null), (.aload_n 0, 1, 0, 0, .null), (.iload_n 3, 1, 0, 0, .null), (.iconst 1, 1, 0, 0, .int 1), (.iadd, 1, 0, 0, .null)] (by decide +kernel) [(0, .ref 31), (1, .ref 0), (2, .ref 20), (3, .int a3)] [.int (a3 + 1), .ref 31, .ref 20, .int q26] σ rfl rfl ⟨trivial, trivial, trivial, trivial, trivial, trivial⟩ rfl ?_
                          refine aw_sld hC hX hbl had g25 (by decide +kernel) ?_
                          obtain ⟨q27, eq27, hF⟩ := bd hF
                          refine aw_callV hC hA (rest := [.int q26]) (c_mo_at N σ (xs (a3 + 1).toNatClampNeg) q27 eq27) mt_X7_at ln_10_51 (by decide +kernel) ⟨_, rfl⟩ rfl rfl (Nat.le_of_ble_eq_true rfl) ⟨⟨rfl, rfl⟩, Nat.le_of_ble_eq_true rfl, Nat.le_of_ble_eq_true rfl⟩ ⟨Nat.le_of_ble_eq_true rfl, Nat.le_of_ble_eq_true rfl⟩ rfl ?_
                          refine aw_icmp_eq (off := 243) hC 555 (by decide +kernel) (by decide) (fun h => ?_) (fun h => ?_)
                          · have hF := (if_pos h).symm.trans hF
                            refine aw_run (pc' := 558) hC [(.iinc 3 4, 3, 0, 0, .int 4)] (by decide +kernel) [(0, .ref 31), (1, .ref 0), (2, .ref 20), (3, .int (a3 + 4))] [] σ rfl rfl ⟨trivial, trivial⟩ rfl ?_
                            refine aw_goto (off := -540) hC 18 (by decide +kernel) (by decide) ?_
                            exact ih (a3 + 4) σ hF
                          · have hF := (if_neg h).symm.trans hF
                            refine aw_run (pc' := 316) hC [(.iconst 0, 1, 0, 0, .int 0)] (by decide +kernel) [(0, .ref 31), (1, .ref 0), (2, .ref 20), (3, .int a3)] [.int 0] σ rfl rfl ⟨trivial, trivial⟩ rfl ?_
                            exact absurd (Option.some.inj hF) (by decide)
                        · have hF := (if_neg h32_8).symm.trans hF
                          by_cases h32_9 : ((xs a3.toNatClampNeg) &&& 31) = 9
                          · have hF := (if_pos h32_9).symm.trans hF
                            refine aw_tabIn (dflt := 523) (lo := 0) (hi := 17) (offs := #[88, 111, 124, 137, 150, 173, 206, 229, 262, 285, 298, 311, 334, 367, 410, 453, 486, 509]) (len := 88) hC 285 317 h32_9 (by decide +kernel) (by decide) (by decide) (by decide) (by decide) ?_
                            refine aw_run (pc' := 318) hC [(.aload_n 1, 1, 0, 0, .null)] (by decide +kernel) [(0, .ref 31), (1, .ref 0), (2, .ref 20), (3, .int a3)] [.ref 0] σ rfl rfl ⟨trivial, trivial⟩ rfl ?_
                            refine aw_callV hC hA (rest := []) (c_ss_fits σ _ rfl) mt_X6_fits ln_10_52 (by decide +kernel) ⟨_, rfl⟩ rfl rfl (Nat.le_of_ble_eq_true rfl) ⟨⟨rfl, rfl⟩, Nat.le_of_ble_eq_true rfl, Nat.le_of_ble_eq_true rfl⟩ ⟨Nat.le_of_ble_eq_true rfl, Nat.le_of_ble_eq_true rfl⟩ rfl ?_
                            refine aw_run (pc' := 322) hC [(.aload_n 2, 1, 0, 0, .null)] (by decide +kernel) [(0, .ref 31), (1, .ref 0), (2, .ref 20), (3, .int a3)] [.ref 20, .int (f_ss_fits σ)] σ rfl rfl ⟨trivial, trivial⟩ rfl ?_
                            obtain ⟨q28, eq28, hF⟩ := bd hF
                            refine aw_callV hC hA (rest := [.int (f_ss_fits σ)]) (c_mo_fits N σ q28 eq28) mt_X7_fits ln_10_55 (by decide +kernel) ⟨_, rfl⟩ rfl rfl (Nat.le_of_ble_eq_true rfl) ⟨⟨rfl, rfl⟩, Nat.le_of_ble_eq_true rfl, Nat.le_of_ble_eq_true rfl⟩ ⟨Nat.le_of_ble_eq_true rfl, Nat.le_of_ble_eq_true rfl⟩ rfl ?_
                            refine aw_icmp_eq (off := 230) hC 555 (by decide +kernel) (by decide) (fun h => ?_) (fun h => ?_)
                            · have hF := (if_pos h).symm.trans hF
                              refine aw_run (pc' := 558) hC [(.iinc 3 4, 3, 0, 0, .int 4)] (by decide +kernel) [(0, .ref 31), (1, .ref 0), (2, .ref 20), (3, .int (a3 + 4))] [] σ rfl rfl ⟨trivial, trivial⟩ rfl ?_
                              refine aw_goto (off := -540) hC 18 (by decide +kernel) (by decide) ?_
                              exact ih (a3 + 4) σ hF
                            · have hF := (if_neg h).symm.trans hF
                              refine aw_run (pc' := 329) hC [(.iconst 0, 1, 0, 0, .int 0)] (by decide +kernel) [(0, .ref 31), (1, .ref 0), (2, .ref 20), (3, .int a3)] [.int 0] σ rfl rfl ⟨trivial, trivial⟩ rfl ?_
                              exact absurd (Option.some.inj hF) (by decide)
                          · have hF := (if_neg h32_9).symm.trans hF
                            by_cases h32_10 : ((xs a3.toNatClampNeg) &&& 31) = 10
                            · have hF := (if_pos h32_10).symm.trans hF
                              refine aw_tabIn (dflt := 523) (lo := 0) (hi := 17) (offs := #[88, 111, 124, 137, 150, 173, 206, 229, 262, 285, 298, 311, 334, 367, 410, 453, 486, 509]) (len := 88) hC 298 330 h32_10 (by decide +kernel) (by decide) (by decide) (by decide) (by decide) ?_
                              refine aw_run (pc' := 331) hC [(.aload_n 1, 1, 0, 0, .null)] (by decide +kernel) [(0, .ref 31), (1, .ref 0), (2, .ref 20), (3, .int a3)] [.ref 0] σ rfl rfl ⟨trivial, trivial⟩ rfl ?_
                              refine aw_callV hC hA (rest := []) (c_ss_wrong σ _ rfl) mt_X6_wrong ln_10_56 (by decide +kernel) ⟨_, rfl⟩ rfl rfl (Nat.le_of_ble_eq_true rfl) ⟨⟨rfl, rfl⟩, Nat.le_of_ble_eq_true rfl, Nat.le_of_ble_eq_true rfl⟩ ⟨Nat.le_of_ble_eq_true rfl, Nat.le_of_ble_eq_true rfl⟩ rfl ?_
                              refine aw_run (pc' := 335) hC [(.aload_n 2, 1, 0, 0, .null)] (by decide +kernel) [(0, .ref 31), (1, .ref 0), (2, .ref 20), (3, .int a3)] [.ref 20, .int (f_ss_wrong σ)] σ rfl rfl ⟨trivial, trivial⟩ rfl ?_
                              obtain ⟨q29, eq29, hF⟩ := bd hF
                              refine aw_callV hC hA (rest := [.int (f_ss_wrong σ)]) (c_mo_wrong N σ q29 eq29) mt_X7_wrong ln_10_59 (by decide +kernel) ⟨_, rfl⟩ rfl rfl (Nat.le_of_ble_eq_true rfl) ⟨⟨rfl, rfl⟩, Nat.le_of_ble_eq_true rfl, Nat.le_of_ble_eq_true rfl⟩ ⟨Nat.le_of_ble_eq_true rfl, Nat.le_of_ble_eq_true rfl⟩ rfl ?_
                              refine aw_icmp_eq (off := 217) hC 555 (by decide +kernel) (by decide) (fun h => ?_) (fun h => ?_)
                              · have hF := (if_pos h).symm.trans hF
                                refine aw_run (pc' := 558) hC [(.iinc 3 4, 3, 0, 0, .int 4)] (by decide +kernel) [(0, .ref 31), (1, .ref 0), (2, .ref 20), (3, .int (a3 + 4))] [] σ rfl rfl ⟨trivial, trivial⟩ rfl ?_
                                refine aw_goto (off := -540) hC 18 (by decide +kernel) (by decide) ?_
                                exact ih (a3 + 4) σ hF
                              · have hF := (if_neg h).symm.trans hF
                                refine aw_run (pc' := 342) hC [(.iconst 0, 1, 0, 0, .int 0)] (by decide +kernel) [(0, .ref 31), (1, .ref 0), (2, .ref 20), (3, .int a3)] [.int 0] σ rfl rfl ⟨trivial, trivial⟩ rfl ?_
                                exact absurd (Option.some.inj hF) (by decide)
                            · have hF := (if_neg h32_10).symm.trans hF
                              by_cases h32_11 : ((xs a3.toNatClampNeg) &&& 31) = 11
                              · have hF := (if_pos h32_11).symm.trans hF
                                refine aw_tabIn (dflt := 523) (lo := 0) (hi := 17) (offs := #[88, 111, 124, 137, 150, 173, 206, 229, 262, 285, 298, 311, 334, 367, 410, 453, 486, 509]) (len := 88) hC 311 343 h32_11 (by decide +kernel) (by decide) (by decide) (by decide) (by decide) ?_
                                refine aw_run (pc' := 348) hC [(.aload_n 1, 1, 0, 0, .null), (.aload_n 0, 1, 0, 0, .null), (.iload_n 3, 1, 0, 0, .null), (.iconst 1, 1, 0, 0, .int 1), (.iadd, 1, 0, 0, .null)] (by decide +kernel) [(0, .ref 31), (1, .ref 0), (2, .ref 20), (3, .int a3)] [.int (a3 + 1), .ref 31, .ref 0] σ rfl rfl ⟨trivial, trivial, trivial, trivial, trivial, trivial⟩ rfl ?_
                                obtain ⟨g30, hF⟩ := gd hF
                                refine aw_sld hC hX hbl had g30 (by decide +kernel) ?_
                                obtain ⟨q31, eq31, hF⟩ := bd hF
                                refine aw_callV hC hA (rest := []) (c_ss_kernel N σ (xs (a3 + 1).toNatClampNeg) q31 eq31) mt_X6_kernel ln_10_60 (by decide +kernel) ⟨_, rfl⟩ rfl rfl (Nat.le_of_ble_eq_true rfl) ⟨⟨rfl, rfl⟩, Nat.le_of_ble_eq_true rfl, Nat.le_of_ble_eq_true rfl⟩ ⟨Nat.le_of_ble_eq_true rfl, Nat.le_of_ble_eq_true rfl⟩ rfl ?_
                                refine aw_run (pc' := 357) hC [(.aload_n 2, 1, 0, 0, .null), (.aload_n 0, 1, 0, 0, .null), (.iload_n 3, 1, 0, 0, .null), (.iconst 1, 1, 0, 0, .int 1), (.iadd, 1, 0, 0, .null)] (by decide +kernel) [(0, .ref 31), (1, .ref 0), (2, .ref 20), (3, .int a3)] [.int (a3 + 1), .ref 31, .ref 20, .int q31] σ rfl rfl ⟨trivial, trivial, trivial, trivial, trivial, trivial⟩ rfl ?_
                                refine aw_sld hC hX hbl had g30 (by decide +kernel) ?_
                                obtain ⟨q32, eq32, hF⟩ := bd hF
                                refine aw_callV hC hA (rest := [.int q31]) (c_mo_kernel N σ (xs (a3 + 1).toNatClampNeg) q32 eq32) mt_X7_kernel ln_10_63 (by decide +kernel) ⟨_, rfl⟩ rfl rfl (Nat.le_of_ble_eq_true rfl) ⟨⟨rfl, rfl⟩, Nat.le_of_ble_eq_true rfl, Nat.le_of_ble_eq_true rfl⟩ ⟨Nat.le_of_ble_eq_true rfl, Nat.le_of_ble_eq_true rfl⟩ rfl ?_
                                refine aw_icmp_eq (off := 194) hC 555 (by decide +kernel) (by decide) (fun h => ?_) (fun h => ?_)
                                · have hF := (if_pos h).symm.trans hF
                                  refine aw_run (pc' := 558) hC [(.iinc 3 4, 3, 0, 0, .int 4)] (by decide +kernel) [(0, .ref 31), (1, .ref 0), (2, .ref 20), (3, .int (a3 + 4))] [] q32.2 rfl rfl ⟨trivial, trivial⟩ rfl ?_
                                  refine aw_goto (off := -540) hC 18 (by decide +kernel) (by decide) ?_
                                  exact ih (a3 + 4) q32.2 hF
                                · have hF := (if_neg h).symm.trans hF
                                  refine aw_run (pc' := 365) hC [(.iconst 0, 1, 0, 0, .int 0)] (by decide +kernel) [(0, .ref 31), (1, .ref 0), (2, .ref 20), (3, .int a3)] [.int 0] q32.2 rfl rfl ⟨trivial, trivial⟩ rfl ?_
                                  exact absurd (Option.some.inj hF) (by decide)
                              · have hF := (if_neg h32_11).symm.trans hF
                                by_cases h32_12 : ((xs a3.toNatClampNeg) &&& 31) = 12
                                · have hF := (if_pos h32_12).symm.trans hF
                                  refine aw_tabIn (dflt := 523) (lo := 0) (hi := 17) (offs := #[88, 111, 124, 137, 150, 173, 206, 229, 262, 285, 298, 311, 334, 367, 410, 453, 486, 509]) (len := 88) hC 334 366 h32_12 (by decide +kernel) (by decide) (by decide) (by decide) (by decide) ?_
                                  refine aw_run (pc' := 371) hC [(.aload_n 1, 1, 0, 0, .null), (.aload_n 0, 1, 0, 0, .null), (.iload_n 3, 1, 0, 0, .null), (.iconst 1, 1, 0, 0, .int 1), (.iadd, 1, 0, 0, .null)] (by decide +kernel) [(0, .ref 31), (1, .ref 0), (2, .ref 20), (3, .int a3)] [.int (a3 + 1), .ref 31, .ref 0] σ rfl rfl ⟨trivial, trivial, trivial, trivial, trivial, trivial⟩ rfl ?_
                                  obtain ⟨g33, hF⟩ := gd hF
                                  refine aw_sld hC hX hbl had g33 (by decide +kernel) ?_
                                  refine aw_run (pc' := 376) hC [(.aload_n 0, 1, 0, 0, .null), (.iload_n 3, 1, 0, 0, .null), (.iconst 2, 1, 0, 0, .int 2), (.iadd, 1, 0, 0, .null)] (by decide +kernel) [(0, .ref 31), (1, .ref 0), (2, .ref 20), (3, .int a3)] [.int (a3 + 2), .ref 31, .int (xs (a3 + 1).toNatClampNeg), .ref 0] σ rfl rfl ⟨trivial, trivial, trivial, trivial, trivial⟩ rfl ?_
                                  obtain ⟨g34, hF⟩ := gd hF
                                  refine aw_sld hC hX hbl had g34 (by decide +kernel) ?_
                                  obtain ⟨q35, eq35, hF⟩ := bd hF
                                  refine aw_callV hC hA (rest := []) (c_ss_corner σ (xs (a3 + 1).toNatClampNeg) (xs (a3 + 2).toNatClampNeg) q35 eq35) mt_X6_corner ln_10_64 (by decide +kernel) ⟨_, rfl⟩ rfl rfl (Nat.le_of_ble_eq_true rfl) ⟨⟨rfl, rfl⟩, Nat.le_of_ble_eq_true rfl, Nat.le_of_ble_eq_true rfl⟩ ⟨Nat.le_of_ble_eq_true rfl, Nat.le_of_ble_eq_true rfl⟩ rfl ?_
                                  refine aw_run (pc' := 385) hC [(.aload_n 2, 1, 0, 0, .null), (.aload_n 0, 1, 0, 0, .null), (.iload_n 3, 1, 0, 0, .null), (.iconst 1, 1, 0, 0, .int 1), (.iadd, 1, 0, 0, .null)] (by decide +kernel) [(0, .ref 31), (1, .ref 0), (2, .ref 20), (3, .int a3)] [.int (a3 + 1), .ref 31, .ref 20, .int q35] σ rfl rfl ⟨trivial, trivial, trivial, trivial, trivial, trivial⟩ rfl ?_
                                  refine aw_sld hC hX hbl had g33 (by decide +kernel) ?_
                                  refine aw_run (pc' := 390) hC [(.aload_n 0, 1, 0, 0, .null), (.iload_n 3, 1, 0, 0, .null), (.iconst 2, 1, 0, 0, .int 2), (.iadd, 1, 0, 0, .null)] (by decide +kernel) [(0, .ref 31), (1, .ref 0), (2, .ref 20), (3, .int a3)] [.int (a3 + 2), .ref 31, .int (xs (a3 + 1).toNatClampNeg), .ref 20, .int q35] σ rfl rfl ⟨trivial, trivial, trivial, trivial, trivial⟩ rfl ?_
                                  refine aw_sld hC hX hbl had g34 (by decide +kernel) ?_
                                  obtain ⟨q36, eq36, hF⟩ := bd hF
                                  refine aw_callV hC hA (rest := [.int q35]) (c_mo_corner N σ (xs (a3 + 1).toNatClampNeg) (xs (a3 + 2).toNatClampNeg) q36 eq36) mt_X7_corner ln_10_67 (by decide +kernel) ⟨_, rfl⟩ rfl rfl (Nat.le_of_ble_eq_true rfl) ⟨⟨rfl, rfl⟩, Nat.le_of_ble_eq_true rfl, Nat.le_of_ble_eq_true rfl⟩ ⟨Nat.le_of_ble_eq_true rfl, Nat.le_of_ble_eq_true rfl⟩ rfl ?_
                                  refine aw_icmp_eq (off := 161) hC 555 (by decide +kernel) (by decide) (fun h => ?_) (fun h => ?_)
                                  · have hF := (if_pos h).symm.trans hF
                                    refine aw_run (pc' := 558) hC [(.iinc 3 4, 3, 0, 0, .int 4)] (by decide +kernel) [(0, .ref 31), (1, .ref 0), (2, .ref 20), (3, .int (a3 + 4))] [] q36.2 rfl rfl ⟨trivial, trivial⟩ rfl ?_
                                    refine aw_goto (off := -540) hC 18 (by decide +kernel) (by decide) ?_
                                    exact ih (a3 + 4) q36.2 hF
                                  · have hF := (if_neg h).symm.trans hF
                                    refine aw_run (pc' := 398) hC [(.iconst 0, 1, 0, 0, .int 0)] (by decide +kernel) [(0, .ref 31), (1, .ref 0), (2, .ref 20), (3, .int a3)] [.int 0] q36.2 rfl rfl ⟨trivial, trivial⟩ rfl ?_
                                    exact absurd (Option.some.inj hF) (by decide)
                                · have hF := (if_neg h32_12).symm.trans hF
                                  by_cases h32_13 : ((xs a3.toNatClampNeg) &&& 31) = 13
                                  · have hF := (if_pos h32_13).symm.trans hF
                                    refine aw_tabIn (dflt := 523) (lo := 0) (hi := 17) (offs := #[88, 111, 124, 137, 150, 173, 206, 229, 262, 285, 298, 311, 334, 367, 410, 453, 486, 509]) (len := 88) hC 367 399 h32_13 (by decide +kernel) (by decide) (by decide) (by decide) (by decide) ?_
                                    refine aw_run (pc' := 404) hC [(.aload_n 1, 1, 0, 0, .null), (.aload_n 0, 1, 0, 0, .null), (.iload_n 3, 1, 0, 0, .null), (.iconst 1, 1, 0, 0, .int 1), (.iadd, 1, 0, 0, .null)] (by decide +kernel) [(0, .ref 31), (1, .ref 0), (2, .ref 20), (3, .int a3)] [.int (a3 + 1), .ref 31, .ref 0] σ rfl rfl ⟨trivial, trivial, trivial, trivial, trivial, trivial⟩ rfl ?_
                                    obtain ⟨g37, hF⟩ := gd hF
                                    refine aw_sld hC hX hbl had g37 (by decide +kernel) ?_
                                    refine aw_run (pc' := 409) hC [(.aload_n 0, 1, 0, 0, .null), (.iload_n 3, 1, 0, 0, .null), (.iconst 2, 1, 0, 0, .int 2), (.iadd, 1, 0, 0, .null)] (by decide +kernel) [(0, .ref 31), (1, .ref 0), (2, .ref 20), (3, .int a3)] [.int (a3 + 2), .ref 31, .int (xs (a3 + 1).toNatClampNeg), .ref 0] σ rfl rfl ⟨trivial, trivial, trivial, trivial, trivial⟩ rfl ?_
                                    obtain ⟨g38, hF⟩ := gd hF
                                    refine aw_sld hC hX hbl had g38 (by decide +kernel) ?_
                                    refine aw_run (pc' := 414) hC [(.aload_n 0, 1, 0, 0, .null), (.iload_n 3, 1, 0, 0, .null), (.iconst 3, 1, 0, 0, .int 3), (.iadd, 1, 0, 0, .null)] (by decide +kernel) [(0, .ref 31), (1, .ref 0), (2, .ref 20), (3, .int a3)] [.int (a3 + 3), .ref 31, .int (xs (a3 + 2).toNatClampNeg), .int (xs (a3 + 1).toNatClampNeg), .ref 0] σ rfl rfl ⟨trivial, trivial, trivial, trivial, trivial⟩ rfl ?_
                                    obtain ⟨g39, hF⟩ := gd hF
                                    refine aw_sld hC hX hbl had g39 (by decide +kernel) ?_
                                    obtain ⟨q40, eq40, hF⟩ := bd hF
                                    refine aw_callV hC hA (rest := []) (c_ss_holds N σ (xs (a3 + 1).toNatClampNeg) (xs (a3 + 2).toNatClampNeg) (xs (a3 + 3).toNatClampNeg) q40 eq40) mt_X6_holds ln_10_68 (by decide +kernel) ⟨_, rfl⟩ rfl rfl (Nat.le_of_ble_eq_true rfl) ⟨⟨rfl, rfl⟩, Nat.le_of_ble_eq_true rfl, Nat.le_of_ble_eq_true rfl⟩ ⟨Nat.le_of_ble_eq_true rfl, Nat.le_of_ble_eq_true rfl⟩ rfl ?_
                                    refine aw_run (pc' := 423) hC [(.aload_n 2, 1, 0, 0, .null), (.aload_n 0, 1, 0, 0, .null), (.iload_n 3, 1, 0, 0, .null), (.iconst 1, 1, 0, 0, .int 1), (.iadd, 1, 0, 0, .null)] (by decide +kernel) [(0, .ref 31), (1, .ref 0), (2, .ref 20), (3, .int a3)] [.int (a3 + 1), .ref 31, .ref 20, .int q40.1] q40.2 rfl rfl ⟨trivial, trivial, trivial, trivial, trivial, trivial⟩ rfl ?_
                                    refine aw_sld hC hX hbl had g37 (by decide +kernel) ?_
                                    refine aw_run (pc' := 428) hC [(.aload_n 0, 1, 0, 0, .null), (.iload_n 3, 1, 0, 0, .null), (.iconst 2, 1, 0, 0, .int 2), (.iadd, 1, 0, 0, .null)] (by decide +kernel) [(0, .ref 31), (1, .ref 0), (2, .ref 20), (3, .int a3)] [.int (a3 + 2), .ref 31, .int (xs (a3 + 1).toNatClampNeg), .ref 20, .int q40.1] q40.2 rfl rfl ⟨trivial, trivial, trivial, trivial, trivial⟩ rfl ?_
                                    refine aw_sld hC hX hbl had g38 (by decide +kernel) ?_
                                    refine aw_run (pc' := 433) hC [(.aload_n 0, 1, 0, 0, .null), (.iload_n 3, 1, 0, 0, .null), (.iconst 3, 1, 0, 0, .int 3), (.iadd, 1, 0, 0, .null)] (by decide +kernel) [(0, .ref 31), (1, .ref 0), (2, .ref 20), (3, .int a3)] [.int (a3 + 3), .ref 31, .int (xs (a3 + 2).toNatClampNeg), .int (xs (a3 + 1).toNatClampNeg), .ref 20, .int q40.1] q40.2 rfl rfl ⟨trivial, trivial, trivial, trivial, trivial⟩ rfl ?_
                                    refine aw_sld hC hX hbl had g39 (by decide +kernel) ?_
                                    obtain ⟨q41, eq41, hF⟩ := bd hF
                                    refine aw_callV hC hA (rest := [.int q40.1]) (c_mo_holds N q40.2 (xs (a3 + 1).toNatClampNeg) (xs (a3 + 2).toNatClampNeg) (xs (a3 + 3).toNatClampNeg) q41 eq41) mt_X7_holds ln_10_72 (by decide +kernel) ⟨_, rfl⟩ rfl rfl (Nat.le_of_ble_eq_true rfl) ⟨⟨rfl, rfl⟩, Nat.le_of_ble_eq_true rfl, Nat.le_of_ble_eq_true rfl⟩ ⟨Nat.le_of_ble_eq_true rfl, Nat.le_of_ble_eq_true rfl⟩ rfl ?_
                                    refine aw_icmp_eq (off := 118) hC 555 (by decide +kernel) (by decide) (fun h => ?_) (fun h => ?_)
                                    · have hF := (if_pos h).symm.trans hF
                                      refine aw_run (pc' := 558) hC [(.iinc 3 4, 3, 0, 0, .int 4)] (by decide +kernel) [(0, .ref 31), (1, .ref 0), (2, .ref 20), (3, .int (a3 + 4))] [] q41.2 rfl rfl ⟨trivial, trivial⟩ rfl ?_
                                      refine aw_goto (off := -540) hC 18 (by decide +kernel) (by decide) ?_
                                      exact ih (a3 + 4) q41.2 hF
                                    · have hF := (if_neg h).symm.trans hF
                                      refine aw_run (pc' := 441) hC [(.iconst 0, 1, 0, 0, .int 0)] (by decide +kernel) [(0, .ref 31), (1, .ref 0), (2, .ref 20), (3, .int a3)] [.int 0] q41.2 rfl rfl ⟨trivial, trivial⟩ rfl ?_
                                      exact absurd (Option.some.inj hF) (by decide)
                                  · have hF := (if_neg h32_13).symm.trans hF
                                    by_cases h32_14 : ((xs a3.toNatClampNeg) &&& 31) = 14
                                    · have hF := (if_pos h32_14).symm.trans hF
                                      refine aw_tabIn (dflt := 523) (lo := 0) (hi := 17) (offs := #[88, 111, 124, 137, 150, 173, 206, 229, 262, 285, 298, 311, 334, 367, 410, 453, 486, 509]) (len := 88) hC 410 442 h32_14 (by decide +kernel) (by decide) (by decide) (by decide) (by decide) ?_
                                      refine aw_run (pc' := 447) hC [(.aload_n 1, 1, 0, 0, .null), (.aload_n 0, 1, 0, 0, .null), (.iload_n 3, 1, 0, 0, .null), (.iconst 1, 1, 0, 0, .int 1), (.iadd, 1, 0, 0, .null)] (by decide +kernel) [(0, .ref 31), (1, .ref 0), (2, .ref 20), (3, .int a3)] [.int (a3 + 1), .ref 31, .ref 0] σ rfl rfl ⟨trivial, trivial, trivial, trivial, trivial, trivial⟩ rfl ?_
                                      obtain ⟨g42, hF⟩ := gd hF
                                      refine aw_sld hC hX hbl had g42 (by decide +kernel) ?_
                                      refine aw_run (pc' := 452) hC [(.aload_n 0, 1, 0, 0, .null), (.iload_n 3, 1, 0, 0, .null), (.iconst 2, 1, 0, 0, .int 2), (.iadd, 1, 0, 0, .null)] (by decide +kernel) [(0, .ref 31), (1, .ref 0), (2, .ref 20), (3, .int a3)] [.int (a3 + 2), .ref 31, .int (xs (a3 + 1).toNatClampNeg), .ref 0] σ rfl rfl ⟨trivial, trivial, trivial, trivial, trivial⟩ rfl ?_
                                      obtain ⟨g43, hF⟩ := gd hF
                                      refine aw_sld hC hX hbl had g43 (by decide +kernel) ?_
                                      refine aw_run (pc' := 457) hC [(.aload_n 0, 1, 0, 0, .null), (.iload_n 3, 1, 0, 0, .null), (.iconst 3, 1, 0, 0, .int 3), (.iadd, 1, 0, 0, .null)] (by decide +kernel) [(0, .ref 31), (1, .ref 0), (2, .ref 20), (3, .int a3)] [.int (a3 + 3), .ref 31, .int (xs (a3 + 2).toNatClampNeg), .int (xs (a3 + 1).toNatClampNeg), .ref 0] σ rfl rfl ⟨trivial, trivial, trivial, trivial, trivial⟩ rfl ?_
                                      obtain ⟨g44, hF⟩ := gd hF
                                      refine aw_sld hC hX hbl had g44 (by decide +kernel) ?_
                                      obtain ⟨q45, eq45, hF⟩ := bd hF
                                      refine aw_callV hC hA (rest := []) (c_ss_reach N σ (xs (a3 + 1).toNatClampNeg) (xs (a3 + 2).toNatClampNeg) (xs (a3 + 3).toNatClampNeg) q45 eq45) mt_X6_reach ln_10_73 (by decide +kernel) ⟨_, rfl⟩ rfl rfl (Nat.le_of_ble_eq_true rfl) ⟨⟨rfl, rfl⟩, Nat.le_of_ble_eq_true rfl, Nat.le_of_ble_eq_true rfl⟩ ⟨Nat.le_of_ble_eq_true rfl, Nat.le_of_ble_eq_true rfl⟩ rfl ?_
                                      refine aw_run (pc' := 466) hC [(.aload_n 2, 1, 0, 0, .null), (.aload_n 0, 1, 0, 0, .null), (.iload_n 3, 1, 0, 0, .null), (.iconst 1, 1, 0, 0, .int 1), (.iadd, 1, 0, 0, .null)] (by decide +kernel) [(0, .ref 31), (1, .ref 0), (2, .ref 20), (3, .int a3)] [.int (a3 + 1), .ref 31, .ref 20, .int q45.1] q45.2 rfl rfl ⟨trivial, trivial, trivial, trivial, trivial, trivial⟩ rfl ?_
                                      refine aw_sld hC hX hbl had g42 (by decide +kernel) ?_
                                      refine aw_run (pc' := 471) hC [(.aload_n 0, 1, 0, 0, .null), (.iload_n 3, 1, 0, 0, .null), (.iconst 2, 1, 0, 0, .int 2), (.iadd, 1, 0, 0, .null)] (by decide +kernel) [(0, .ref 31), (1, .ref 0), (2, .ref 20), (3, .int a3)] [.int (a3 + 2), .ref 31, .int (xs (a3 + 1).toNatClampNeg), .ref 20, .int q45.1] q45.2 rfl rfl ⟨trivial, trivial, trivial, trivial, trivial⟩ rfl ?_
                                      refine aw_sld hC hX hbl had g43 (by decide +kernel) ?_
                                      refine aw_run (pc' := 476) hC [(.aload_n 0, 1, 0, 0, .null), (.iload_n 3, 1, 0, 0, .null), (.iconst 3, 1, 0, 0, .int 3), (.iadd, 1, 0, 0, .null)] (by decide +kernel) [(0, .ref 31), (1, .ref 0), (2, .ref 20), (3, .int a3)] [.int (a3 + 3), .ref 31, .int (xs (a3 + 2).toNatClampNeg), .int (xs (a3 + 1).toNatClampNeg), .ref 20, .int q45.1] q45.2 rfl rfl ⟨trivial, trivial, trivial, trivial, trivial⟩ rfl ?_
                                      refine aw_sld hC hX hbl had g44 (by decide +kernel) ?_
                                      obtain ⟨q46, eq46, hF⟩ := bd hF
                                      refine aw_callV hC hA (rest := [.int q45.1]) (c_mo_reach N q45.2 (xs (a3 + 1).toNatClampNeg) (xs (a3 + 2).toNatClampNeg) (xs (a3 + 3).toNatClampNeg) q46 eq46) mt_X7_reach ln_10_76 (by decide +kernel) ⟨_, rfl⟩ rfl rfl (Nat.le_of_ble_eq_true rfl) ⟨⟨rfl, rfl⟩, Nat.le_of_ble_eq_true rfl, Nat.le_of_ble_eq_true rfl⟩ ⟨Nat.le_of_ble_eq_true rfl, Nat.le_of_ble_eq_true rfl⟩ rfl ?_
                                      refine aw_icmp_eq (off := 75) hC 555 (by decide +kernel) (by decide) (fun h => ?_) (fun h => ?_)
                                      · have hF := (if_pos h).symm.trans hF
                                        refine aw_run (pc' := 558) hC [(.iinc 3 4, 3, 0, 0, .int 4)] (by decide +kernel) [(0, .ref 31), (1, .ref 0), (2, .ref 20), (3, .int (a3 + 4))] [] q46.2 rfl rfl ⟨trivial, trivial⟩ rfl ?_
                                        refine aw_goto (off := -540) hC 18 (by decide +kernel) (by decide) ?_
                                        exact ih (a3 + 4) q46.2 hF
                                      · have hF := (if_neg h).symm.trans hF
                                        refine aw_run (pc' := 484) hC [(.iconst 0, 1, 0, 0, .int 0)] (by decide +kernel) [(0, .ref 31), (1, .ref 0), (2, .ref 20), (3, .int a3)] [.int 0] q46.2 rfl rfl ⟨trivial, trivial⟩ rfl ?_
                                        exact absurd (Option.some.inj hF) (by decide)
                                    · have hF := (if_neg h32_14).symm.trans hF
                                      by_cases h32_15 : ((xs a3.toNatClampNeg) &&& 31) = 15
                                      · have hF := (if_pos h32_15).symm.trans hF
                                        refine aw_tabIn (dflt := 523) (lo := 0) (hi := 17) (offs := #[88, 111, 124, 137, 150, 173, 206, 229, 262, 285, 298, 311, 334, 367, 410, 453, 486, 509]) (len := 88) hC 453 485 h32_15 (by decide +kernel) (by decide) (by decide) (by decide) (by decide) ?_
                                        refine aw_run (pc' := 490) hC [(.aload_n 1, 1, 0, 0, .null), (.aload_n 0, 1, 0, 0, .null), (.iload_n 3, 1, 0, 0, .null), (.iconst 1, 1, 0, 0, .int 1), (.iadd, 1, 0, 0, .null)] (by decide +kernel) [(0, .ref 31), (1, .ref 0), (2, .ref 20), (3, .int a3)] [.int (a3 + 1), .ref 31, .ref 0] σ rfl rfl ⟨trivial, trivial, trivial, trivial, trivial, trivial⟩ rfl ?_
                                        obtain ⟨g47, hF⟩ := gd hF
                                        refine aw_sld hC hX hbl had g47 (by decide +kernel) ?_
                                        refine aw_run (pc' := 495) hC [(.aload_n 0, 1, 0, 0, .null), (.iload_n 3, 1, 0, 0, .null), (.iconst 2, 1, 0, 0, .int 2), (.iadd, 1, 0, 0, .null)] (by decide +kernel) [(0, .ref 31), (1, .ref 0), (2, .ref 20), (3, .int a3)] [.int (a3 + 2), .ref 31, .int (xs (a3 + 1).toNatClampNeg), .ref 0] σ rfl rfl ⟨trivial, trivial, trivial, trivial, trivial⟩ rfl ?_
                                        obtain ⟨g48, hF⟩ := gd hF
                                        refine aw_sld hC hX hbl had g48 (by decide +kernel) ?_
                                        obtain ⟨q49, eq49, hF⟩ := bd hF
                                        refine aw_callV hC hA (rest := []) (c_ss_lasts N σ (xs (a3 + 1).toNatClampNeg) (xs (a3 + 2).toNatClampNeg) q49 eq49) mt_X6_lasts ln_10_77 (by decide +kernel) ⟨_, rfl⟩ rfl rfl (Nat.le_of_ble_eq_true rfl) ⟨⟨rfl, rfl⟩, Nat.le_of_ble_eq_true rfl, Nat.le_of_ble_eq_true rfl⟩ ⟨Nat.le_of_ble_eq_true rfl, Nat.le_of_ble_eq_true rfl⟩ rfl ?_
                                        refine aw_run (pc' := 504) hC [(.aload_n 2, 1, 0, 0, .null), (.aload_n 0, 1, 0, 0, .null), (.iload_n 3, 1, 0, 0, .null), (.iconst 1, 1, 0, 0, .int 1), (.iadd, 1, 0, 0, .null)] (by decide +kernel) [(0, .ref 31), (1, .ref 0), (2, .ref 20), (3, .int a3)] [.int (a3 + 1), .ref 31, .ref 20, .int q49.1] q49.2 rfl rfl ⟨trivial, trivial, trivial, trivial, trivial, trivial⟩ rfl ?_
                                        refine aw_sld hC hX hbl had g47 (by decide +kernel) ?_
                                        refine aw_run (pc' := 509) hC [(.aload_n 0, 1, 0, 0, .null), (.iload_n 3, 1, 0, 0, .null), (.iconst 2, 1, 0, 0, .int 2), (.iadd, 1, 0, 0, .null)] (by decide +kernel) [(0, .ref 31), (1, .ref 0), (2, .ref 20), (3, .int a3)] [.int (a3 + 2), .ref 31, .int (xs (a3 + 1).toNatClampNeg), .ref 20, .int q49.1] q49.2 rfl rfl ⟨trivial, trivial, trivial, trivial, trivial⟩ rfl ?_
                                        refine aw_sld hC hX hbl had g48 (by decide +kernel) ?_
                                        obtain ⟨q50, eq50, hF⟩ := bd hF
                                        refine aw_callV hC hA (rest := [.int q49.1]) (c_mo_lasts N q49.2 (xs (a3 + 1).toNatClampNeg) (xs (a3 + 2).toNatClampNeg) q50 eq50) mt_X7_lasts ln_10_80 (by decide +kernel) ⟨_, rfl⟩ rfl rfl (Nat.le_of_ble_eq_true rfl) ⟨⟨rfl, rfl⟩, Nat.le_of_ble_eq_true rfl, Nat.le_of_ble_eq_true rfl⟩ ⟨Nat.le_of_ble_eq_true rfl, Nat.le_of_ble_eq_true rfl⟩ rfl ?_
                                        refine aw_icmp_eq (off := 42) hC 555 (by decide +kernel) (by decide) (fun h => ?_) (fun h => ?_)
                                        · have hF := (if_pos h).symm.trans hF
                                          refine aw_run (pc' := 558) hC [(.iinc 3 4, 3, 0, 0, .int 4)] (by decide +kernel) [(0, .ref 31), (1, .ref 0), (2, .ref 20), (3, .int (a3 + 4))] [] q50.2 rfl rfl ⟨trivial, trivial⟩ rfl ?_
                                          refine aw_goto (off := -540) hC 18 (by decide +kernel) (by decide) ?_
                                          exact ih (a3 + 4) q50.2 hF
                                        · have hF := (if_neg h).symm.trans hF
                                          refine aw_run (pc' := 517) hC [(.iconst 0, 1, 0, 0, .int 0)] (by decide +kernel) [(0, .ref 31), (1, .ref 0), (2, .ref 20), (3, .int a3)] [.int 0] q50.2 rfl rfl ⟨trivial, trivial⟩ rfl ?_
                                          exact absurd (Option.some.inj hF) (by decide)
                                      · have hF := (if_neg h32_15).symm.trans hF
                                        by_cases h32_16 : ((xs a3.toNatClampNeg) &&& 31) = 16
                                        · have hF := (if_pos h32_16).symm.trans hF
                                          refine aw_tabIn (dflt := 523) (lo := 0) (hi := 17) (offs := #[88, 111, 124, 137, 150, 173, 206, 229, 262, 285, 298, 311, 334, 367, 410, 453, 486, 509]) (len := 88) hC 486 518 h32_16 (by decide +kernel) (by decide) (by decide) (by decide) (by decide) ?_
                                          refine aw_run (pc' := 523) hC [(.aload_n 1, 1, 0, 0, .null), (.aload_n 0, 1, 0, 0, .null), (.iload_n 3, 1, 0, 0, .null), (.iconst 1, 1, 0, 0, .int 1), (.iadd, 1, 0, 0, .null)] (by decide +kernel) [(0, .ref 31), (1, .ref 0), (2, .ref 20), (3, .int a3)] [.int (a3 + 1), .ref 31, .ref 0] σ rfl rfl ⟨trivial, trivial, trivial, trivial, trivial, trivial⟩ rfl ?_
                                          obtain ⟨g51, hF⟩ := gd hF
                                          refine aw_sld hC hX hbl had g51 (by decide +kernel) ?_
                                          obtain ⟨q52, eq52, hF⟩ := bd hF
                                          refine aw_callV hC hA (rest := []) (c_ss_count N σ (xs (a3 + 1).toNatClampNeg) q52 eq52) mt_X6_count ln_10_81 (by decide +kernel) ⟨_, rfl⟩ rfl rfl (Nat.le_of_ble_eq_true rfl) ⟨⟨rfl, rfl⟩, Nat.le_of_ble_eq_true rfl, Nat.le_of_ble_eq_true rfl⟩ ⟨Nat.le_of_ble_eq_true rfl, Nat.le_of_ble_eq_true rfl⟩ rfl ?_
                                          refine aw_run (pc' := 532) hC [(.aload_n 2, 1, 0, 0, .null), (.aload_n 0, 1, 0, 0, .null), (.iload_n 3, 1, 0, 0, .null), (.iconst 1, 1, 0, 0, .int 1), (.iadd, 1, 0, 0, .null)] (by decide +kernel) [(0, .ref 31), (1, .ref 0), (2, .ref 20), (3, .int a3)] [.int (a3 + 1), .ref 31, .ref 20, .int q52] σ rfl rfl ⟨trivial, trivial, trivial, trivial, trivial, trivial⟩ rfl ?_
                                          refine aw_sld hC hX hbl had g51 (by decide +kernel) ?_
                                          obtain ⟨q53, eq53, hF⟩ := bd hF
                                          refine aw_callV hC hA (rest := [.int q52]) (c_mo_count N σ (xs (a3 + 1).toNatClampNeg) q53 eq53) mt_X7_count ln_10_84 (by decide +kernel) ⟨_, rfl⟩ rfl rfl (Nat.le_of_ble_eq_true rfl) ⟨⟨rfl, rfl⟩, Nat.le_of_ble_eq_true rfl, Nat.le_of_ble_eq_true rfl⟩ ⟨Nat.le_of_ble_eq_true rfl, Nat.le_of_ble_eq_true rfl⟩ rfl ?_
                                          refine aw_icmp_eq (off := 19) hC 555 (by decide +kernel) (by decide) (fun h => ?_) (fun h => ?_)
                                          · have hF := (if_pos h).symm.trans hF
                                            refine aw_run (pc' := 558) hC [(.iinc 3 4, 3, 0, 0, .int 4)] (by decide +kernel) [(0, .ref 31), (1, .ref 0), (2, .ref 20), (3, .int (a3 + 4))] [] σ rfl rfl ⟨trivial, trivial⟩ rfl ?_
                                            refine aw_goto (off := -540) hC 18 (by decide +kernel) (by decide) ?_
                                            exact ih (a3 + 4) σ hF
                                          · have hF := (if_neg h).symm.trans hF
                                            refine aw_run (pc' := 540) hC [(.iconst 0, 1, 0, 0, .int 0)] (by decide +kernel) [(0, .ref 31), (1, .ref 0), (2, .ref 20), (3, .int a3)] [.int 0] σ rfl rfl ⟨trivial, trivial⟩ rfl ?_
                                            exact absurd (Option.some.inj hF) (by decide)
                                        · have hF := (if_neg h32_16).symm.trans hF
                                          by_cases h32_17 : ((xs a3.toNatClampNeg) &&& 31) = 17
                                          · have hF := (if_pos h32_17).symm.trans hF
                                            refine aw_tabIn (dflt := 523) (lo := 0) (hi := 17) (offs := #[88, 111, 124, 137, 150, 173, 206, 229, 262, 285, 298, 311, 334, 367, 410, 453, 486, 509]) (len := 88) hC 509 541 h32_17 (by decide +kernel) (by decide) (by decide) (by decide) (by decide) ?_
                                            refine aw_run (pc' := 542) hC [(.aload_n 1, 1, 0, 0, .null)] (by decide +kernel) [(0, .ref 31), (1, .ref 0), (2, .ref 20), (3, .int a3)] [.ref 0] σ rfl rfl ⟨trivial, trivial⟩ rfl ?_
                                            obtain ⟨q54, eq54, hF⟩ := bd hF
                                            refine aw_callV hC hA (rest := []) (c_ss_digest N σ q54 eq54) mt_X6_digest ln_10_85 (by decide +kernel) ⟨_, rfl⟩ rfl rfl (Nat.le_of_ble_eq_true rfl) ⟨⟨rfl, rfl⟩, Nat.le_of_ble_eq_true rfl, Nat.le_of_ble_eq_true rfl⟩ ⟨Nat.le_of_ble_eq_true rfl, Nat.le_of_ble_eq_true rfl⟩ rfl ?_
                                            refine aw_run (pc' := 546) hC [(.aload_n 2, 1, 0, 0, .null)] (by decide +kernel) [(0, .ref 31), (1, .ref 0), (2, .ref 20), (3, .int a3)] [.ref 20, .long q54.1] q54.2 rfl rfl ⟨trivial, trivial⟩ rfl ?_
                                            obtain ⟨q55, eq55, hF⟩ := bd hF
                                            refine aw_callV hC hA (rest := [.long q54.1]) (c_mo_digest N q54.2 q55 eq55) mt_X7_digest ln_10_89 (by decide +kernel) ⟨_, rfl⟩ rfl rfl (Nat.le_of_ble_eq_true rfl) ⟨⟨rfl, rfl⟩, Nat.le_of_ble_eq_true rfl, Nat.le_of_ble_eq_true rfl⟩ ⟨Nat.le_of_ble_eq_true rfl, Nat.le_of_ble_eq_true rfl⟩ rfl ?_
                                            refine aw_run (pc' := 550) hC [(.lcmp, 1, 0, 0, .null)] (by decide +kernel) [(0, .ref 31), (1, .ref 0), (2, .ref 20), (3, .int a3)] [.int (lg_cmp q54.1 q55.1)] q55.2 rfl rfl ⟨trivial, trivial⟩ rfl ?_
                                            refine aw_if_eq (off := 5) hC 555 (lc_eq _ _) (by decide +kernel) (by decide) (fun h => ?_) (fun h => ?_)
                                            · have hF := (if_pos h).symm.trans hF
                                              refine aw_run (pc' := 558) hC [(.iinc 3 4, 3, 0, 0, .int 4)] (by decide +kernel) [(0, .ref 31), (1, .ref 0), (2, .ref 20), (3, .int (a3 + 4))] [] q55.2 rfl rfl ⟨trivial, trivial⟩ rfl ?_
                                              refine aw_goto (off := -540) hC 18 (by decide +kernel) (by decide) ?_
                                              exact ih (a3 + 4) q55.2 hF
                                            · have hF := (if_neg h).symm.trans hF
                                              refine aw_run (pc' := 554) hC [(.iconst 0, 1, 0, 0, .int 0)] (by decide +kernel) [(0, .ref 31), (1, .ref 0), (2, .ref 20), (3, .int a3)] [.int 0] q55.2 rfl rfl ⟨trivial, trivial⟩ rfl ?_
                                              exact absurd (Option.some.inj hF) (by decide)
                                          · have hF := (if_neg h32_17).symm.trans hF
                                            refine aw_tabOut (dflt := 523) (lo := 0) (hi := 17) (offs := #[88, 111, 124, 137, 150, 173, 206, 229, 262, 285, 298, 311, 334, 367, 410, 453, 486, 509]) (len := 88) hC 555 (by decide +kernel) (by have q0 := tn h32_0 (k := 0) (by decide); have q1 := tn h32_1 (k := 1) (by decide); have q2 := tn h32_2 (k := 2) (by decide); have q3 := tn h32_3 (k := 3) (by decide); have q4 := tn h32_4 (k := 4) (by decide); have q5 := tn h32_5 (k := 5) (by decide); have q6 := tn h32_6 (k := 6) (by decide); have q7 := tn h32_7 (k := 7) (by decide); have q8 := tn h32_8 (k := 8) (by decide); have q9 := tn h32_9 (k := 9) (by decide); have q10 := tn h32_10 (k := 10) (by decide); have q11 := tn h32_11 (k := 11) (by decide); have q12 := tn h32_12 (k := 12) (by decide); have q13 := tn h32_13 (k := 13) (by decide); have q14 := tn h32_14 (k := 14) (by decide); have q15 := tn h32_15 (k := 15) (by decide); have q16 := tn h32_16 (k := 16) (by decide); have q17 := tn h32_17 (k := 17) (by decide); omega) (by decide) ?_
                                            refine aw_run (pc' := 558) hC [(.iinc 3 4, 3, 0, 0, .int 4)] (by decide +kernel) [(0, .ref 31), (1, .ref 0), (2, .ref 20), (3, .int (a3 + 4))] [] σ rfl rfl ⟨trivial, trivial⟩ rfl ?_
                                            refine aw_goto (off := -540) hC 18 (by decide +kernel) (by decide) ?_
                                            exact ih (a3 + 4) σ hF
  exact Jc18
