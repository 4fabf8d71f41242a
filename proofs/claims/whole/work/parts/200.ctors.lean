/-! THE CONSTRUCTORS: cells that come, at addresses that come -/
def nests : List Cond := [.methodLinkNest RX6 15 yX2_init RX6, .methodLinkNest RX6 22 yX3_init RX6, .methodLinkNest RX6 29 yX5_init RX6, .methodLinkNest RX6 36 yX1_init RX6, .methodLinkNest RX6 43 yX4_init RX6, .methodLinkNest RX4 11 yX0_init RX6]
def KI (D : va_G) (tc : Nat → ClassId) (U : State) : Prop := KK D tc U ∧ ∀ w ∈ nests, va_Nw w U
theorem nests_link : ∀ w ∈ nests, ∃ a i x h, w = .methodLinkNest a i x h := by
  intro w hw
  simp only [nests, List.mem_cons, List.not_mem_nil, or_false] at hw
  rcases hw with rfl | rfl | rfl | rfl | rfl | rfl <;> exact ⟨_, _, _, _, rfl⟩
theorem KI.moved {D : va_G} {tc : Nat → ClassId} {s U : State} (hW : s.WarmedH U.vm) (h : KI D tc s) : KI D tc U := ⟨h.1.moved hW, fun w hw => by
  obtain ⟨a, i, x, hh, rfl⟩ := nests_link w hw
  exact va_Nw.warmM hW (h.2 _ hw)⟩
theorem KI.called {D : va_G} {tc : Nat → ClassId} {U : State} {g : JFrame} {mk : MethodId} {a : Array Value} (h : KI D tc U) : KI D tc (U.calling g mk a) := ⟨⟨va_K.moved (u := U) (U := U.calling g mk a) (Vm.Alike.refl U.vm) h.1.1, va_Nw.same rfl (rfl : U.vm = (U.calling g mk a).vm) h.1.2⟩, fun w hw => by
  obtain ⟨b, i, x, hh, rfl⟩ := nests_link w hw
  exact va_Nw.same rfl (rfl : U.vm = (U.calling g mk a).vm) (h.2 _ hw)⟩
/-- a constructor: the new object's cell alone before it, the world F behind it -/
def CtI (y : MethodName) (bytes : ByteArray) (rm : Room) (mc ms ci : Nat) (fs0 : List Value) (F : (Nat → ClassId) → Nat → (Nat → Nat) → va_W) : Prop :=
  ∀ (l : Launch) (D : va_G) (tc : Nat → ClassId) (h0 sz : Nat), Met l y (.code y bytes 1 none :: tw) rm (va_Pc [.ref h0] (fun U => U.heap.size = sz ∧ va_P D classes [(h0, .inr (ci, fs0))] U.heap ∧ KI D tc U ∧ va_D (fun _ => True) [(h0, .inr (ci, fs0))]))
    (va_Qv (fun _ : Nat → Nat => True) (fun q t => va_P D classes (F tc h0 q) t.heap ∧ KI D tc t ∧ va_D (va_A [(h0, .inr (ci, fs0))] sz) (F tc h0 q)) (va_A [(h0, .inr (ci, fs0))] sz)) mc ms (va_A [(h0, .inr (ci, fs0))] sz)
section NEWT
variable {p : Program} {l : Launch} {e : Env} {R : Room} {s : State} {m : MethodId} {args : Array Value} {below : List Frame} {meth : Method} {c : Code} {H : Heap} {locs : List Loc} {cells slots : Nat} {Q : State → Prop}
variable {cc : ByteArray} {pc : Nat} {ls : Array Slot} {rest : List Value} {D : va_G} {A : Nat → Prop} {tc : Nat → ClassId} {ws : va_W} {H0 : Heap}
/-- an array comes: its class is the one that is known -/
theorem va_newT (hexec : p.tables.exec = Jvm.exec) (hb : c.code = cc) (t : Nat) {atype : ArrayType} {ty : FieldType} (ht : (t = 0 ∧ ty = .int) ∨ (t = 1 ∧ ty = .boolean) ∨ (t = 2 ∧ ty = .long)) (harr : (Cond.arrayClass (newarray.typeOf atype)).before args s = true) (hty : newarray.typeOf atype = ty) (hK : va_K D classes (tys tc) s) (hP : va_P D classes ws H) (hD : va_D A ws) (hS : va_S A H0 H locs) (hA : ∀ q, H0.size ≤ q → A q)
    {n : Int32} {N' : Nat} {a0 : vp_A} (ha : ∀ cA : ClassId, vp_cell cA a0 = arrV cA N' (fun _ => defaultValue ty)) (hn : ¬ n < 0) (hN : n.toNatClampNeg = N') (hbytes : N' * componentBytes ty ≤ 536870912) (hcells : cells + 1 ≤ R.cells) (hslots : slots + N' ≤ R.slots) (hdg : decode cc pc = .ok (.newarray atype, 2))
    (kk : ∀ (q : Nat) (H1 : Heap), va_P D classes (ws ++ [(q, .inl (tc t, a0))]) H1 → va_D A (ws ++ [(q, .inl (tc t, a0))]) → va_S A H0 H1 locs →
      W p l e R s m args below meth c H1 locs (cells + 1) (slots + N') Q (F0 m (pc + 2) ls (.ref q :: rest))) : W p l e R s m args below meth c H locs cells slots Q (F0 m pc ls (.int n :: rest)) := by
  refine va_newa hexec hb harr hty hK hP hD hS hA ha hn hN hbytes hcells hslots hdg (fun q cA H1 hK1 hP1 hD1 hS1 => ?_)
  have h1 := (hK1.2 3 (cA, ty) rfl).2
  have hc : cA = tc t := by
    rcases ht with ⟨rfl, rfl⟩ | ⟨rfl, rfl⟩ | ⟨rfl, rfl⟩
    · exact Option.some.inj (h1.symm.trans (hK1.2 0 _ rfl).2)
    · exact Option.some.inj (h1.symm.trans (hK1.2 1 _ rfl).2)
    · exact Option.some.inj (h1.symm.trans (hK1.2 2 _ rfl).2)
  subst hc
  exact kk q H1 hP1 hD1 hS1
end NEWT
def fz : Nat → Int32 := fun _ => 0
def gz : Nat → Int64 := fun _ => 0
def w_ct_bo_init (tc : Nat → ClassId) (h0 : Nat) (q : Nat → Nat) : va_W := [(h0, .inr (0, [.int 0, .long 0, .long 0]))]
set_option maxHeartbeats 4000000 in
set_option maxRecDepth 100000 in
theorem ct_bo_init : CtI yX0_init cX0_init { frames := 1, cells := 0, slots := 0, locals := 12 } 0 0 0 [.int 0, .long 0, .long 0] w_ct_bo_init := by
  intro l D tc h0 sz
  refine Met.ofW (cc := cX0_init) (maxL := 1) (ret := none) (by decide) rfl ?_
  intro p e s m args below meth c s₁ B hml hv
  obtain ⟨rfl, hsz, hP, hK, hD0⟩ := hv
  have hx := B.exec
  have hb := B.bytes
  have hr := B.returns
  have hts : ∀ w ∈ tw, w.before _ s = true := fun w hw => atoms_spec (ws := .code yX0_init cX0_init 1 none :: tw) B.pre w (List.mem_cons_of_mem _ hw)
  have hown : s.vm.findClass RX0 = some m.cls := findClass_of_methodNamed B.named
  have hlocks := B.notSynchronized
  have hin : meth.name = "<init>" := (name_of_methodNamed B.named B.method).1
  subst hsz
  have hD := hD0.self (sz := s.heap.size)
  generalize hAe : va_A [(h0, .inr (0, [.int 0, .long 0, .long 0]))] s.heap.size = A at hD ⊢
  have hA : ∀ q : Nat, s.heap.size ≤ q → A q := fun q h => by rw [← hAe]; exact Or.inr h
  have hS : va_S A s.heap s.heap [] := va_S.rf
  have hP : va_P D classes [(h0, .inr (0, [.int 0, .long 0, .long 0]))] s.heap := hP
  have hl := lv_entry ([.ref h0]) (n := 1) (Nat.le_of_ble_eq_true rfl)
  rw [lg_entry_eq]
  generalize (lg_sl ([.ref h0]) ++ List.replicate (1 - (lg_sl ([.ref h0])).length) Slot.unset).toArray = ls at hl ⊢
  have hl : lv_has ls 1 [(0, .ref h0)] := hl
  refine lv_aload_n hx hb (by decide +kernel : decode cX0_init 0 = .ok (.aload_n 0, 1)) rfl (lv_at hl 0 rfl) ?_
  refine W.objInit hx hb hown (hts _ (tw_of 212 (by decide +kernel) rfl)) (hts _ (tw_of 89 (by decide +kernel) rfl)) (hts _ (tw_of 90 (by decide +kernel) rfl)) rfl (by rw [hml]; exact hl.1) rfl (by decide +kernel : decode cX0_init 1 = .ok (.invokespecial 1, 3)) (Nat.le_of_ble_eq_true rfl) (Nat.le_of_ble_eq_true rfl) ?_
  refine W.eq (g2 := F0 m 4 ls []) rfl ?_
  exact W.vret hx hb hr (fun t ht hW => ⟨⟨(fun _ => 0), rfl, trivial, by rw [ht]; exact hP, hK.moved hW, hD⟩, hS.F ht⟩) hS.2.2 (by decide +kernel : decode cX0_init 4 = .ok (.return_, 1))
def w_ct_re_init (tc : Nat → ClassId) (h0 : Nat) (q : Nat → Nat) : va_W := [(h0, .inr (2, [.ref (q 0), .int 0, .int 0, .int 0])), ((q 0), .inl (tc 0, 4, .inl fz))]
set_option maxHeartbeats 4000000 in
set_option maxRecDepth 100000 in
theorem ct_re_init : CtI yX2_init cX2_init { frames := 1, cells := 1, slots := 4, locals := 12 } 1 4 2 [.null, .int 0, .int 0, .int 0] w_ct_re_init := by
  intro l D tc h0 sz
  refine Met.ofW (cc := cX2_init) (maxL := 1) (ret := none) (by decide) rfl ?_
  intro p e s m args below meth c s₁ B hml hv
  obtain ⟨rfl, hsz, hP, hK, hD0⟩ := hv
  have hx := B.exec
  have hb := B.bytes
  have hr := B.returns
  have hts : ∀ w ∈ tw, w.before _ s = true := fun w hw => atoms_spec (ws := .code yX2_init cX2_init 1 none :: tw) B.pre w (List.mem_cons_of_mem _ hw)
  have hown : s.vm.findClass RX2 = some m.cls := findClass_of_methodNamed B.named
  have hlocks := B.notSynchronized
  have hin : meth.name = "<init>" := (name_of_methodNamed B.named B.method).1
  subst hsz
  have hD := hD0.self (sz := s.heap.size)
  generalize hAe : va_A [(h0, .inr (2, [.null, .int 0, .int 0, .int 0]))] s.heap.size = A at hD ⊢
  have hA : ∀ q : Nat, s.heap.size ≤ q → A q := fun q h => by rw [← hAe]; exact Or.inr h
  have hS : va_S A s.heap s.heap [] := va_S.rf
  have hP : va_P D classes [(h0, .inr (2, [.null, .int 0, .int 0, .int 0]))] s.heap := hP
  have hl := lv_entry ([.ref h0]) (n := 1) (Nat.le_of_ble_eq_true rfl)
  rw [lg_entry_eq]
  generalize (lg_sl ([.ref h0]) ++ List.replicate (1 - (lg_sl ([.ref h0])).length) Slot.unset).toArray = ls at hl ⊢
  have hl : lv_has ls 1 [(0, .ref h0)] := hl
  refine lv_aload_n hx hb (by decide +kernel : decode cX2_init 0 = .ok (.aload_n 0, 1)) rfl (lv_at hl 0 rfl) ?_
  refine W.objInit hx hb hown (hts _ (tw_of 96 (by decide +kernel) rfl)) (hts _ (tw_of 89 (by decide +kernel) rfl)) (hts _ (tw_of 90 (by decide +kernel) rfl)) rfl (by rw [hml]; exact hl.1) rfl (by decide +kernel : decode cX2_init 1 = .ok (.invokespecial 3, 3)) (Nat.le_of_ble_eq_true rfl) (Nat.le_of_ble_eq_true rfl) ?_
  refine W.eq (g2 := F0 m 4 ls []) rfl ?_
  refine lv_aload_n hx hb (by decide +kernel : decode cX2_init 4 = .ok (.aload_n 0, 1)) rfl (lv_at hl 0 rfl) ?_
  refine lv_iconst (v := 4) hx hb (by decide +kernel : decode cX2_init 5 = .ok (.iconst 4, 1)) rfl ?_
  refine va_newT (D := D) (tc := tc) (atype := .int) (ty := .int) (N' := 4) (a0 := (4, .inl fz)) hx hb 0 (by decide) (hts _ (tw_of 110 (by decide +kernel) rfl)) rfl hK.1.1 hP hD hS hA (fun cA => rfl) (by decide) (by decide) (by decide) (Nat.le_of_ble_eq_true rfl) (Nat.le_of_ble_eq_true rfl) (by decide +kernel : decode cX2_init 6 = .ok (.newarray .int, 2)) (fun q6 H hP hD hS => ?_)
  have hP : va_P D classes [(h0, .inr (2, [.null, .int 0, .int 0, .int 0])), (q6, .inl (tc 0, 4, .inl fz))] H := hP
  have hD : va_D A [(h0, .inr (2, [.null, .int 0, .int 0, .int 0])), (q6, .inl (tc 0, 4, .inl fz))] := hD
  refine W.widen (k := 1) (n := 4) (by omega) (by omega) ?_
  refine va_putF (D := D) (ci := 2) (v := .ref q6) (ty := .array .int) (C := RX2) (T := TX2) (N := 4) hx hb hts (lays_tw cl_i2) tyX2 tyX2_ok nmX2 hown hK.1.1 hP hD hS 0 rfl rfl 0 (by decide) (hts _ (tw_of 97 (by decide +kernel) rfl)) (fun _ h9 => h9) rfl hin rfl (by decide +kernel) rfl rfl (Nat.le_of_ble_eq_true rfl) (by decide +kernel : decode cX2_init 8 = .ok (.putfield 9, 3)) (fun H locs hP hD hS => ?_)
  have hP : va_P D classes [(h0, .inr (2, [.ref q6, .int 0, .int 0, .int 0])), (q6, .inl (tc 0, 4, .inl fz))] H := hP
  have hD : va_D A [(h0, .inr (2, [.ref q6, .int 0, .int 0, .int 0])), (q6, .inl (tc 0, 4, .inl fz))] := hD
  exact W.vret hx hb hr (fun t ht hW => ⟨⟨(fun i => match i with | 0 => q6 | _ => 0), rfl, trivial, by rw [ht]; exact hP, hK.moved hW, hD⟩, hS.F ht⟩) hS.2.2 (by decide +kernel : decode cX2_init 11 = .ok (.return_, 1))
def w_ct_ro_init (tc : Nat → ClassId) (h0 : Nat) (q : Nat → Nat) : va_W := [(h0, .inr (3, [.ref (q 0), .ref (q 1), .ref (q 2), .ref (q 3), .ref (q 4), .int 0, .int 10])), ((q 0), .inl (tc 0, 8, .inl fz)), ((q 1), .inl (tc 1, 8, .inl fz)), ((q 2), .inl (tc 0, 8, .inl fz)), ((q 3), .inl (tc 0, 8, .inl fz)), ((q 4), .inl (tc 0, 8, .inl fz))]
set_option maxHeartbeats 4000000 in
set_option maxRecDepth 100000 in
theorem ct_ro_init : CtI yX3_init cX3_init { frames := 1, cells := 5, slots := 40, locals := 12 } 5 40 3 [.null, .null, .null, .null, .null, .int 0, .int 0] w_ct_ro_init := by
  intro l D tc h0 sz
  refine Met.ofW (cc := cX3_init) (maxL := 1) (ret := none) (by decide) rfl ?_
  intro p e s m args below meth c s₁ B hml hv
  obtain ⟨rfl, hsz, hP, hK, hD0⟩ := hv
  have hx := B.exec
  have hb := B.bytes
  have hr := B.returns
  have hts : ∀ w ∈ tw, w.before _ s = true := fun w hw => atoms_spec (ws := .code yX3_init cX3_init 1 none :: tw) B.pre w (List.mem_cons_of_mem _ hw)
  have hown : s.vm.findClass RX3 = some m.cls := findClass_of_methodNamed B.named
  have hlocks := B.notSynchronized
  have hin : meth.name = "<init>" := (name_of_methodNamed B.named B.method).1
  subst hsz
  have hD := hD0.self (sz := s.heap.size)
  generalize hAe : va_A [(h0, .inr (3, [.null, .null, .null, .null, .null, .int 0, .int 0]))] s.heap.size = A at hD ⊢
  have hA : ∀ q : Nat, s.heap.size ≤ q → A q := fun q h => by rw [← hAe]; exact Or.inr h
  have hS : va_S A s.heap s.heap [] := va_S.rf
  have hP : va_P D classes [(h0, .inr (3, [.null, .null, .null, .null, .null, .int 0, .int 0]))] s.heap := hP
  have hl := lv_entry ([.ref h0]) (n := 1) (Nat.le_of_ble_eq_true rfl)
  rw [lg_entry_eq]
  generalize (lg_sl ([.ref h0]) ++ List.replicate (1 - (lg_sl ([.ref h0])).length) Slot.unset).toArray = ls at hl ⊢
  have hl : lv_has ls 1 [(0, .ref h0)] := hl
  refine lv_aload_n hx hb (by decide +kernel : decode cX3_init 0 = .ok (.aload_n 0, 1)) rfl (lv_at hl 0 rfl) ?_
  refine W.objInit hx hb hown (hts _ (tw_of 116 (by decide +kernel) rfl)) (hts _ (tw_of 89 (by decide +kernel) rfl)) (hts _ (tw_of 90 (by decide +kernel) rfl)) rfl (by rw [hml]; exact hl.1) rfl (by decide +kernel : decode cX3_init 1 = .ok (.invokespecial 3, 3)) (Nat.le_of_ble_eq_true rfl) (Nat.le_of_ble_eq_true rfl) ?_
  refine W.eq (g2 := F0 m 4 ls []) rfl ?_
  refine lv_aload_n hx hb (by decide +kernel : decode cX3_init 4 = .ok (.aload_n 0, 1)) rfl (lv_at hl 0 rfl) ?_
  refine lv_bipush (v := 8) hx hb (by decide +kernel : decode cX3_init 5 = .ok (.bipush 8, 2)) rfl ?_
  refine va_newT (D := D) (tc := tc) (atype := .int) (ty := .int) (N' := 8) (a0 := (8, .inl fz)) hx hb 0 (by decide) (hts _ (tw_of 110 (by decide +kernel) rfl)) rfl hK.1.1 hP hD hS hA (fun cA => rfl) (by decide) (by decide) (by decide) (Nat.le_of_ble_eq_true rfl) (Nat.le_of_ble_eq_true rfl) (by decide +kernel : decode cX3_init 7 = .ok (.newarray .int, 2)) (fun q7 H hP hD hS => ?_)
  have hP : va_P D classes [(h0, .inr (3, [.null, .null, .null, .null, .null, .int 0, .int 0])), (q7, .inl (tc 0, 8, .inl fz))] H := hP
  have hD : va_D A [(h0, .inr (3, [.null, .null, .null, .null, .null, .int 0, .int 0])), (q7, .inl (tc 0, 8, .inl fz))] := hD
  refine W.widen (k := 1) (n := 8) (by omega) (by omega) ?_
  refine va_putF (D := D) (ci := 3) (v := .ref q7) (ty := .array .int) (C := RX3) (T := TX3) (N := 7) hx hb hts (lays_tw cl_i3) tyX3 tyX3_ok nmX3 hown hK.1.1 hP hD hS 0 rfl rfl 0 (by decide) (hts _ (tw_of 117 (by decide +kernel) rfl)) (fun _ h9 => h9) rfl hin rfl (by decide +kernel) rfl rfl (Nat.le_of_ble_eq_true rfl) (by decide +kernel : decode cX3_init 9 = .ok (.putfield 9, 3)) (fun H locs hP hD hS => ?_)
  have hP : va_P D classes [(h0, .inr (3, [.ref q7, .null, .null, .null, .null, .int 0, .int 0])), (q7, .inl (tc 0, 8, .inl fz))] H := hP
  have hD : va_D A [(h0, .inr (3, [.ref q7, .null, .null, .null, .null, .int 0, .int 0])), (q7, .inl (tc 0, 8, .inl fz))] := hD
  refine lv_aload_n hx hb (by decide +kernel : decode cX3_init 12 = .ok (.aload_n 0, 1)) rfl (lv_at hl 0 rfl) ?_
  refine lv_bipush (v := 8) hx hb (by decide +kernel : decode cX3_init 13 = .ok (.bipush 8, 2)) rfl ?_
  refine va_newT (D := D) (tc := tc) (atype := .boolean) (ty := .boolean) (N' := 8) (a0 := (8, .inl fz)) hx hb 1 (by decide) (hts _ (tw_of 155 (by decide +kernel) rfl)) rfl hK.1.1 hP hD hS hA (fun cA => rfl) (by decide) (by decide) (by decide) (Nat.le_of_ble_eq_true rfl) (Nat.le_of_ble_eq_true rfl) (by decide +kernel : decode cX3_init 15 = .ok (.newarray .boolean, 2)) (fun q15 H hP hD hS => ?_)
  have hP : va_P D classes [(h0, .inr (3, [.ref q7, .null, .null, .null, .null, .int 0, .int 0])), (q7, .inl (tc 0, 8, .inl fz)), (q15, .inl (tc 1, 8, .inl fz))] H := hP
  have hD : va_D A [(h0, .inr (3, [.ref q7, .null, .null, .null, .null, .int 0, .int 0])), (q7, .inl (tc 0, 8, .inl fz)), (q15, .inl (tc 1, 8, .inl fz))] := hD
  refine W.widen (k := 2) (n := 16) (by omega) (by omega) ?_
  refine va_putF (D := D) (ci := 3) (v := .ref q15) (ty := .array .boolean) (C := RX3) (T := TX3) (N := 7) hx hb hts (lays_tw cl_i3) tyX3 tyX3_ok nmX3 hown hK.1.1 hP hD hS 0 rfl rfl 1 (by decide) (hts _ (tw_of 122 (by decide +kernel) rfl)) (fun _ h9 => h9) rfl hin rfl (by decide +kernel) rfl rfl (Nat.le_of_ble_eq_true rfl) (by decide +kernel : decode cX3_init 17 = .ok (.putfield 15, 3)) (fun H locs hP hD hS => ?_)
  have hP : va_P D classes [(h0, .inr (3, [.ref q7, .ref q15, .null, .null, .null, .int 0, .int 0])), (q7, .inl (tc 0, 8, .inl fz)), (q15, .inl (tc 1, 8, .inl fz))] H := hP
  have hD : va_D A [(h0, .inr (3, [.ref q7, .ref q15, .null, .null, .null, .int 0, .int 0])), (q7, .inl (tc 0, 8, .inl fz)), (q15, .inl (tc 1, 8, .inl fz))] := hD
  refine lv_aload_n hx hb (by decide +kernel : decode cX3_init 20 = .ok (.aload_n 0, 1)) rfl (lv_at hl 0 rfl) ?_
  refine lv_bipush (v := 8) hx hb (by decide +kernel : decode cX3_init 21 = .ok (.bipush 8, 2)) rfl ?_
  refine va_newT (D := D) (tc := tc) (atype := .int) (ty := .int) (N' := 8) (a0 := (8, .inl fz)) hx hb 0 (by decide) (hts _ (tw_of 110 (by decide +kernel) rfl)) rfl hK.1.1 hP hD hS hA (fun cA => rfl) (by decide) (by decide) (by decide) (Nat.le_of_ble_eq_true rfl) (Nat.le_of_ble_eq_true rfl) (by decide +kernel : decode cX3_init 23 = .ok (.newarray .int, 2)) (fun q23 H hP hD hS => ?_)
  have hP : va_P D classes [(h0, .inr (3, [.ref q7, .ref q15, .null, .null, .null, .int 0, .int 0])), (q7, .inl (tc 0, 8, .inl fz)), (q15, .inl (tc 1, 8, .inl fz)), (q23, .inl (tc 0, 8, .inl fz))] H := hP
  have hD : va_D A [(h0, .inr (3, [.ref q7, .ref q15, .null, .null, .null, .int 0, .int 0])), (q7, .inl (tc 0, 8, .inl fz)), (q15, .inl (tc 1, 8, .inl fz)), (q23, .inl (tc 0, 8, .inl fz))] := hD
  refine W.widen (k := 3) (n := 24) (by omega) (by omega) ?_
  refine va_putF (D := D) (ci := 3) (v := .ref q23) (ty := .array .int) (C := RX3) (T := TX3) (N := 7) hx hb hts (lays_tw cl_i3) tyX3 tyX3_ok nmX3 hown hK.1.1 hP hD hS 0 rfl rfl 2 (by decide) (hts _ (tw_of 127 (by decide +kernel) rfl)) (fun _ h9 => h9) rfl hin rfl (by decide +kernel) rfl rfl (Nat.le_of_ble_eq_true rfl) (by decide +kernel : decode cX3_init 25 = .ok (.putfield 19, 3)) (fun H locs hP hD hS => ?_)
  have hP : va_P D classes [(h0, .inr (3, [.ref q7, .ref q15, .ref q23, .null, .null, .int 0, .int 0])), (q7, .inl (tc 0, 8, .inl fz)), (q15, .inl (tc 1, 8, .inl fz)), (q23, .inl (tc 0, 8, .inl fz))] H := hP
  have hD : va_D A [(h0, .inr (3, [.ref q7, .ref q15, .ref q23, .null, .null, .int 0, .int 0])), (q7, .inl (tc 0, 8, .inl fz)), (q15, .inl (tc 1, 8, .inl fz)), (q23, .inl (tc 0, 8, .inl fz))] := hD
  refine lv_aload_n hx hb (by decide +kernel : decode cX3_init 28 = .ok (.aload_n 0, 1)) rfl (lv_at hl 0 rfl) ?_
  refine lv_bipush (v := 8) hx hb (by decide +kernel : decode cX3_init 29 = .ok (.bipush 8, 2)) rfl ?_
  refine va_newT (D := D) (tc := tc) (atype := .int) (ty := .int) (N' := 8) (a0 := (8, .inl fz)) hx hb 0 (by decide) (hts _ (tw_of 110 (by decide +kernel) rfl)) rfl hK.1.1 hP hD hS hA (fun cA => rfl) (by decide) (by decide) (by decide) (Nat.le_of_ble_eq_true rfl) (Nat.le_of_ble_eq_true rfl) (by decide +kernel : decode cX3_init 31 = .ok (.newarray .int, 2)) (fun q31 H hP hD hS => ?_)
  have hP : va_P D classes [(h0, .inr (3, [.ref q7, .ref q15, .ref q23, .null, .null, .int 0, .int 0])), (q7, .inl (tc 0, 8, .inl fz)), (q15, .inl (tc 1, 8, .inl fz)), (q23, .inl (tc 0, 8, .inl fz)), (q31, .inl (tc 0, 8, .inl fz))] H := hP
  have hD : va_D A [(h0, .inr (3, [.ref q7, .ref q15, .ref q23, .null, .null, .int 0, .int 0])), (q7, .inl (tc 0, 8, .inl fz)), (q15, .inl (tc 1, 8, .inl fz)), (q23, .inl (tc 0, 8, .inl fz)), (q31, .inl (tc 0, 8, .inl fz))] := hD
  refine W.widen (k := 4) (n := 32) (by omega) (by omega) ?_
  refine va_putF (D := D) (ci := 3) (v := .ref q31) (ty := .array .int) (C := RX3) (T := TX3) (N := 7) hx hb hts (lays_tw cl_i3) tyX3 tyX3_ok nmX3 hown hK.1.1 hP hD hS 0 rfl rfl 3 (by decide) (hts _ (tw_of 129 (by decide +kernel) rfl)) (fun _ h9 => h9) rfl hin rfl (by decide +kernel) rfl rfl (Nat.le_of_ble_eq_true rfl) (by decide +kernel : decode cX3_init 33 = .ok (.putfield 22, 3)) (fun H locs hP hD hS => ?_)
  have hP : va_P D classes [(h0, .inr (3, [.ref q7, .ref q15, .ref q23, .ref q31, .null, .int 0, .int 0])), (q7, .inl (tc 0, 8, .inl fz)), (q15, .inl (tc 1, 8, .inl fz)), (q23, .inl (tc 0, 8, .inl fz)), (q31, .inl (tc 0, 8, .inl fz))] H := hP
  have hD : va_D A [(h0, .inr (3, [.ref q7, .ref q15, .ref q23, .ref q31, .null, .int 0, .int 0])), (q7, .inl (tc 0, 8, .inl fz)), (q15, .inl (tc 1, 8, .inl fz)), (q23, .inl (tc 0, 8, .inl fz)), (q31, .inl (tc 0, 8, .inl fz))] := hD
  refine lv_aload_n hx hb (by decide +kernel : decode cX3_init 36 = .ok (.aload_n 0, 1)) rfl (lv_at hl 0 rfl) ?_
  refine lv_bipush (v := 8) hx hb (by decide +kernel : decode cX3_init 37 = .ok (.bipush 8, 2)) rfl ?_
  refine va_newT (D := D) (tc := tc) (atype := .int) (ty := .int) (N' := 8) (a0 := (8, .inl fz)) hx hb 0 (by decide) (hts _ (tw_of 110 (by decide +kernel) rfl)) rfl hK.1.1 hP hD hS hA (fun cA => rfl) (by decide) (by decide) (by decide) (Nat.le_of_ble_eq_true rfl) (Nat.le_of_ble_eq_true rfl) (by decide +kernel : decode cX3_init 39 = .ok (.newarray .int, 2)) (fun q39 H hP hD hS => ?_)
  have hP : va_P D classes [(h0, .inr (3, [.ref q7, .ref q15, .ref q23, .ref q31, .null, .int 0, .int 0])), (q7, .inl (tc 0, 8, .inl fz)), (q15, .inl (tc 1, 8, .inl fz)), (q23, .inl (tc 0, 8, .inl fz)), (q31, .inl (tc 0, 8, .inl fz)), (q39, .inl (tc 0, 8, .inl fz))] H := hP
  have hD : va_D A [(h0, .inr (3, [.ref q7, .ref q15, .ref q23, .ref q31, .null, .int 0, .int 0])), (q7, .inl (tc 0, 8, .inl fz)), (q15, .inl (tc 1, 8, .inl fz)), (q23, .inl (tc 0, 8, .inl fz)), (q31, .inl (tc 0, 8, .inl fz)), (q39, .inl (tc 0, 8, .inl fz))] := hD
  refine W.widen (k := 5) (n := 40) (by omega) (by omega) ?_
  refine va_putF (D := D) (ci := 3) (v := .ref q39) (ty := .array .int) (C := RX3) (T := TX3) (N := 7) hx hb hts (lays_tw cl_i3) tyX3 tyX3_ok nmX3 hown hK.1.1 hP hD hS 0 rfl rfl 4 (by decide) (hts _ (tw_of 131 (by decide +kernel) rfl)) (fun _ h9 => h9) rfl hin rfl (by decide +kernel) rfl rfl (Nat.le_of_ble_eq_true rfl) (by decide +kernel : decode cX3_init 41 = .ok (.putfield 25, 3)) (fun H locs hP hD hS => ?_)
  have hP : va_P D classes [(h0, .inr (3, [.ref q7, .ref q15, .ref q23, .ref q31, .ref q39, .int 0, .int 0])), (q7, .inl (tc 0, 8, .inl fz)), (q15, .inl (tc 1, 8, .inl fz)), (q23, .inl (tc 0, 8, .inl fz)), (q31, .inl (tc 0, 8, .inl fz)), (q39, .inl (tc 0, 8, .inl fz))] H := hP
  have hD : va_D A [(h0, .inr (3, [.ref q7, .ref q15, .ref q23, .ref q31, .ref q39, .int 0, .int 0])), (q7, .inl (tc 0, 8, .inl fz)), (q15, .inl (tc 1, 8, .inl fz)), (q23, .inl (tc 0, 8, .inl fz)), (q31, .inl (tc 0, 8, .inl fz)), (q39, .inl (tc 0, 8, .inl fz))] := hD
  refine lv_aload_n hx hb (by decide +kernel : decode cX3_init 44 = .ok (.aload_n 0, 1)) rfl (lv_at hl 0 rfl) ?_
  refine lv_bipush (v := 10) hx hb (by decide +kernel : decode cX3_init 45 = .ok (.bipush 10, 2)) rfl ?_
  refine va_put (D := D) (ci := 3) (v := .int 10) (ty := .int) (C := RX3) (T := TX3) (N := 7) hx hb hts (lays_tw cl_i3) tyX3 tyX3_ok nmX3 hown hK.1.1 hP hD hS 0 rfl rfl 6 (by decide) (hts _ (tw_of 138 (by decide +kernel) rfl)) (fun _ h9 => h9) rfl (by decide +kernel) rfl rfl (Nat.le_of_ble_eq_true rfl) (by decide +kernel : decode cX3_init 47 = .ok (.putfield 28, 3)) (fun H locs hP hD hS => ?_)
  have hP : va_P D classes [(h0, .inr (3, [.ref q7, .ref q15, .ref q23, .ref q31, .ref q39, .int 0, .int 10])), (q7, .inl (tc 0, 8, .inl fz)), (q15, .inl (tc 1, 8, .inl fz)), (q23, .inl (tc 0, 8, .inl fz)), (q31, .inl (tc 0, 8, .inl fz)), (q39, .inl (tc 0, 8, .inl fz))] H := hP
  have hD : va_D A [(h0, .inr (3, [.ref q7, .ref q15, .ref q23, .ref q31, .ref q39, .int 0, .int 10])), (q7, .inl (tc 0, 8, .inl fz)), (q15, .inl (tc 1, 8, .inl fz)), (q23, .inl (tc 0, 8, .inl fz)), (q31, .inl (tc 0, 8, .inl fz)), (q39, .inl (tc 0, 8, .inl fz))] := hD
  exact W.vret hx hb hr (fun t ht hW => ⟨⟨(fun i => match i with | 0 => q7 | 1 => q15 | 2 => q23 | 3 => q31 | 4 => q39 | _ => 0), rfl, trivial, by rw [ht]; exact hP, hK.moved hW, hD⟩, hS.F ht⟩) hS.2.2 (by decide +kernel : decode cX3_init 50 = .ok (.return_, 1))
def w_ct_ve_init (tc : Nat → ClassId) (h0 : Nat) (q : Nat → Nat) : va_W := [(h0, .inr (5, [.ref (q 0), .int 0, .int 0])), ((q 0), .inl (tc 0, 56, .inl fz))]
set_option maxHeartbeats 4000000 in
set_option maxRecDepth 100000 in
theorem ct_ve_init : CtI yX5_init cX5_init { frames := 1, cells := 1, slots := 56, locals := 12 } 1 56 5 [.null, .int 0, .int 0] w_ct_ve_init := by
  intro l D tc h0 sz
  refine Met.ofW (cc := cX5_init) (maxL := 1) (ret := none) (by decide) rfl ?_
  intro p e s m args below meth c s₁ B hml hv
  obtain ⟨rfl, hsz, hP, hK, hD0⟩ := hv
  have hx := B.exec
  have hb := B.bytes
  have hr := B.returns
  have hts : ∀ w ∈ tw, w.before _ s = true := fun w hw => atoms_spec (ws := .code yX5_init cX5_init 1 none :: tw) B.pre w (List.mem_cons_of_mem _ hw)
  have hown : s.vm.findClass RX5 = some m.cls := findClass_of_methodNamed B.named
  have hlocks := B.notSynchronized
  have hin : meth.name = "<init>" := (name_of_methodNamed B.named B.method).1
  subst hsz
  have hD := hD0.self (sz := s.heap.size)
  generalize hAe : va_A [(h0, .inr (5, [.null, .int 0, .int 0]))] s.heap.size = A at hD ⊢
  have hA : ∀ q : Nat, s.heap.size ≤ q → A q := fun q h => by rw [← hAe]; exact Or.inr h
  have hS : va_S A s.heap s.heap [] := va_S.rf
  have hP : va_P D classes [(h0, .inr (5, [.null, .int 0, .int 0]))] s.heap := hP
  have hl := lv_entry ([.ref h0]) (n := 1) (Nat.le_of_ble_eq_true rfl)
  rw [lg_entry_eq]
  generalize (lg_sl ([.ref h0]) ++ List.replicate (1 - (lg_sl ([.ref h0])).length) Slot.unset).toArray = ls at hl ⊢
  have hl : lv_has ls 1 [(0, .ref h0)] := hl
  refine lv_aload_n hx hb (by decide +kernel : decode cX5_init 0 = .ok (.aload_n 0, 1)) rfl (lv_at hl 0 rfl) ?_
  refine W.objInit hx hb hown (hts _ (tw_of 161 (by decide +kernel) rfl)) (hts _ (tw_of 89 (by decide +kernel) rfl)) (hts _ (tw_of 90 (by decide +kernel) rfl)) rfl (by rw [hml]; exact hl.1) rfl (by decide +kernel : decode cX5_init 1 = .ok (.invokespecial 3, 3)) (Nat.le_of_ble_eq_true rfl) (Nat.le_of_ble_eq_true rfl) ?_
  refine W.eq (g2 := F0 m 4 ls []) rfl ?_
  refine lv_aload_n hx hb (by decide +kernel : decode cX5_init 4 = .ok (.aload_n 0, 1)) rfl (lv_at hl 0 rfl) ?_
  refine lv_bipush (v := 56) hx hb (by decide +kernel : decode cX5_init 5 = .ok (.bipush 56, 2)) rfl ?_
  refine va_newT (D := D) (tc := tc) (atype := .int) (ty := .int) (N' := 56) (a0 := (56, .inl fz)) hx hb 0 (by decide) (hts _ (tw_of 110 (by decide +kernel) rfl)) rfl hK.1.1 hP hD hS hA (fun cA => rfl) (by decide) (by decide) (by decide) (Nat.le_of_ble_eq_true rfl) (Nat.le_of_ble_eq_true rfl) (by decide +kernel : decode cX5_init 7 = .ok (.newarray .int, 2)) (fun q7 H hP hD hS => ?_)
  have hP : va_P D classes [(h0, .inr (5, [.null, .int 0, .int 0])), (q7, .inl (tc 0, 56, .inl fz))] H := hP
  have hD : va_D A [(h0, .inr (5, [.null, .int 0, .int 0])), (q7, .inl (tc 0, 56, .inl fz))] := hD
  refine W.widen (k := 1) (n := 56) (by omega) (by omega) ?_
  refine va_putF (D := D) (ci := 5) (v := .ref q7) (ty := .array .int) (C := RX5) (T := TX5) (N := 3) hx hb hts (lays_tw cl_i5) tyX5 tyX5_ok nmX5 hown hK.1.1 hP hD hS 0 rfl rfl 0 (by decide) (hts _ (tw_of 162 (by decide +kernel) rfl)) (fun _ h9 => h9) rfl hin rfl (by decide +kernel) rfl rfl (Nat.le_of_ble_eq_true rfl) (by decide +kernel : decode cX5_init 9 = .ok (.putfield 11, 3)) (fun H locs hP hD hS => ?_)
  have hP : va_P D classes [(h0, .inr (5, [.ref q7, .int 0, .int 0])), (q7, .inl (tc 0, 56, .inl fz))] H := hP
  have hD : va_D A [(h0, .inr (5, [.ref q7, .int 0, .int 0])), (q7, .inl (tc 0, 56, .inl fz))] := hD
  exact W.vret hx hb hr (fun t ht hW => ⟨⟨(fun i => match i with | 0 => q7 | _ => 0), rfl, trivial, by rw [ht]; exact hP, hK.moved hW, hD⟩, hS.F ht⟩) hS.2.2 (by decide +kernel : decode cX5_init 12 = .ok (.return_, 1))
def w_ct_hu_init (tc : Nat → ClassId) (h0 : Nat) (q : Nat → Nat) : va_W := [(h0, .inr (1, [.ref (q 0), .ref (q 1), .int 0, .ref (q 2), .ref (q 3), .int 0])), ((q 0), .inl (tc 0, 16, .inl fz)), ((q 1), .inl (tc 0, 16, .inl fz)), ((q 2), .inl (tc 0, 16, .inl fz)), ((q 3), .inl (tc 0, 16, .inl fz))]
set_option maxHeartbeats 4000000 in
set_option maxRecDepth 100000 in
theorem ct_hu_init : CtI yX1_init cX1_init { frames := 1, cells := 4, slots := 64, locals := 12 } 4 64 1 [.null, .null, .int 0, .null, .null, .int 0] w_ct_hu_init := by
  intro l D tc h0 sz
  refine Met.ofW (cc := cX1_init) (maxL := 1) (ret := none) (by decide) rfl ?_
  intro p e s m args below meth c s₁ B hml hv
  obtain ⟨rfl, hsz, hP, hK, hD0⟩ := hv
  have hx := B.exec
  have hb := B.bytes
  have hr := B.returns
  have hts : ∀ w ∈ tw, w.before _ s = true := fun w hw => atoms_spec (ws := .code yX1_init cX1_init 1 none :: tw) B.pre w (List.mem_cons_of_mem _ hw)
  have hown : s.vm.findClass RX1 = some m.cls := findClass_of_methodNamed B.named
  have hlocks := B.notSynchronized
  have hin : meth.name = "<init>" := (name_of_methodNamed B.named B.method).1
  subst hsz
  have hD := hD0.self (sz := s.heap.size)
  generalize hAe : va_A [(h0, .inr (1, [.null, .null, .int 0, .null, .null, .int 0]))] s.heap.size = A at hD ⊢
  have hA : ∀ q : Nat, s.heap.size ≤ q → A q := fun q h => by rw [← hAe]; exact Or.inr h
  have hS : va_S A s.heap s.heap [] := va_S.rf
  have hP : va_P D classes [(h0, .inr (1, [.null, .null, .int 0, .null, .null, .int 0]))] s.heap := hP
  have hl := lv_entry ([.ref h0]) (n := 1) (Nat.le_of_ble_eq_true rfl)
  rw [lg_entry_eq]
  generalize (lg_sl ([.ref h0]) ++ List.replicate (1 - (lg_sl ([.ref h0])).length) Slot.unset).toArray = ls at hl ⊢
  have hl : lv_has ls 1 [(0, .ref h0)] := hl
  refine lv_aload_n hx hb (by decide +kernel : decode cX1_init 0 = .ok (.aload_n 0, 1)) rfl (lv_at hl 0 rfl) ?_
  refine W.objInit hx hb hown (hts _ (tw_of 178 (by decide +kernel) rfl)) (hts _ (tw_of 89 (by decide +kernel) rfl)) (hts _ (tw_of 90 (by decide +kernel) rfl)) rfl (by rw [hml]; exact hl.1) rfl (by decide +kernel : decode cX1_init 1 = .ok (.invokespecial 3, 3)) (Nat.le_of_ble_eq_true rfl) (Nat.le_of_ble_eq_true rfl) ?_
  refine W.eq (g2 := F0 m 4 ls []) rfl ?_
  refine lv_aload_n hx hb (by decide +kernel : decode cX1_init 4 = .ok (.aload_n 0, 1)) rfl (lv_at hl 0 rfl) ?_
  refine lv_bipush (v := 16) hx hb (by decide +kernel : decode cX1_init 5 = .ok (.bipush 16, 2)) rfl ?_
  refine va_newT (D := D) (tc := tc) (atype := .int) (ty := .int) (N' := 16) (a0 := (16, .inl fz)) hx hb 0 (by decide) (hts _ (tw_of 110 (by decide +kernel) rfl)) rfl hK.1.1 hP hD hS hA (fun cA => rfl) (by decide) (by decide) (by decide) (Nat.le_of_ble_eq_true rfl) (Nat.le_of_ble_eq_true rfl) (by decide +kernel : decode cX1_init 7 = .ok (.newarray .int, 2)) (fun q7 H hP hD hS => ?_)
  have hP : va_P D classes [(h0, .inr (1, [.null, .null, .int 0, .null, .null, .int 0])), (q7, .inl (tc 0, 16, .inl fz))] H := hP
  have hD : va_D A [(h0, .inr (1, [.null, .null, .int 0, .null, .null, .int 0])), (q7, .inl (tc 0, 16, .inl fz))] := hD
  refine W.widen (k := 1) (n := 16) (by omega) (by omega) ?_
  refine va_putF (D := D) (ci := 1) (v := .ref q7) (ty := .array .int) (C := RX1) (T := TX1) (N := 6) hx hb hts (lays_tw cl_i1) tyX1 tyX1_ok nmX1 hown hK.1.1 hP hD hS 0 rfl rfl 0 (by decide) (hts _ (tw_of 179 (by decide +kernel) rfl)) (fun _ h9 => h9) rfl hin rfl (by decide +kernel) rfl rfl (Nat.le_of_ble_eq_true rfl) (by decide +kernel : decode cX1_init 9 = .ok (.putfield 11, 3)) (fun H locs hP hD hS => ?_)
  have hP : va_P D classes [(h0, .inr (1, [.ref q7, .null, .int 0, .null, .null, .int 0])), (q7, .inl (tc 0, 16, .inl fz))] H := hP
  have hD : va_D A [(h0, .inr (1, [.ref q7, .null, .int 0, .null, .null, .int 0])), (q7, .inl (tc 0, 16, .inl fz))] := hD
  refine lv_aload_n hx hb (by decide +kernel : decode cX1_init 12 = .ok (.aload_n 0, 1)) rfl (lv_at hl 0 rfl) ?_
  refine lv_bipush (v := 16) hx hb (by decide +kernel : decode cX1_init 13 = .ok (.bipush 16, 2)) rfl ?_
  refine va_newT (D := D) (tc := tc) (atype := .int) (ty := .int) (N' := 16) (a0 := (16, .inl fz)) hx hb 0 (by decide) (hts _ (tw_of 110 (by decide +kernel) rfl)) rfl hK.1.1 hP hD hS hA (fun cA => rfl) (by decide) (by decide) (by decide) (Nat.le_of_ble_eq_true rfl) (Nat.le_of_ble_eq_true rfl) (by decide +kernel : decode cX1_init 15 = .ok (.newarray .int, 2)) (fun q15 H hP hD hS => ?_)
  have hP : va_P D classes [(h0, .inr (1, [.ref q7, .null, .int 0, .null, .null, .int 0])), (q7, .inl (tc 0, 16, .inl fz)), (q15, .inl (tc 0, 16, .inl fz))] H := hP
  have hD : va_D A [(h0, .inr (1, [.ref q7, .null, .int 0, .null, .null, .int 0])), (q7, .inl (tc 0, 16, .inl fz)), (q15, .inl (tc 0, 16, .inl fz))] := hD
  refine W.widen (k := 2) (n := 32) (by omega) (by omega) ?_
  refine va_putF (D := D) (ci := 1) (v := .ref q15) (ty := .array .int) (C := RX1) (T := TX1) (N := 6) hx hb hts (lays_tw cl_i1) tyX1 tyX1_ok nmX1 hown hK.1.1 hP hD hS 0 rfl rfl 1 (by decide) (hts _ (tw_of 180 (by decide +kernel) rfl)) (fun _ h9 => h9) rfl hin rfl (by decide +kernel) rfl rfl (Nat.le_of_ble_eq_true rfl) (by decide +kernel : decode cX1_init 17 = .ok (.putfield 15, 3)) (fun H locs hP hD hS => ?_)
  have hP : va_P D classes [(h0, .inr (1, [.ref q7, .ref q15, .int 0, .null, .null, .int 0])), (q7, .inl (tc 0, 16, .inl fz)), (q15, .inl (tc 0, 16, .inl fz))] H := hP
  have hD : va_D A [(h0, .inr (1, [.ref q7, .ref q15, .int 0, .null, .null, .int 0])), (q7, .inl (tc 0, 16, .inl fz)), (q15, .inl (tc 0, 16, .inl fz))] := hD
  refine lv_aload_n hx hb (by decide +kernel : decode cX1_init 20 = .ok (.aload_n 0, 1)) rfl (lv_at hl 0 rfl) ?_
  refine lv_bipush (v := 16) hx hb (by decide +kernel : decode cX1_init 21 = .ok (.bipush 16, 2)) rfl ?_
  refine va_newT (D := D) (tc := tc) (atype := .int) (ty := .int) (N' := 16) (a0 := (16, .inl fz)) hx hb 0 (by decide) (hts _ (tw_of 110 (by decide +kernel) rfl)) rfl hK.1.1 hP hD hS hA (fun cA => rfl) (by decide) (by decide) (by decide) (Nat.le_of_ble_eq_true rfl) (Nat.le_of_ble_eq_true rfl) (by decide +kernel : decode cX1_init 23 = .ok (.newarray .int, 2)) (fun q23 H hP hD hS => ?_)
  have hP : va_P D classes [(h0, .inr (1, [.ref q7, .ref q15, .int 0, .null, .null, .int 0])), (q7, .inl (tc 0, 16, .inl fz)), (q15, .inl (tc 0, 16, .inl fz)), (q23, .inl (tc 0, 16, .inl fz))] H := hP
  have hD : va_D A [(h0, .inr (1, [.ref q7, .ref q15, .int 0, .null, .null, .int 0])), (q7, .inl (tc 0, 16, .inl fz)), (q15, .inl (tc 0, 16, .inl fz)), (q23, .inl (tc 0, 16, .inl fz))] := hD
  refine W.widen (k := 3) (n := 48) (by omega) (by omega) ?_
  refine va_putF (D := D) (ci := 1) (v := .ref q23) (ty := .array .int) (C := RX1) (T := TX1) (N := 6) hx hb hts (lays_tw cl_i1) tyX1 tyX1_ok nmX1 hown hK.1.1 hP hD hS 0 rfl rfl 3 (by decide) (hts _ (tw_of 182 (by decide +kernel) rfl)) (fun _ h9 => h9) rfl hin rfl (by decide +kernel) rfl rfl (Nat.le_of_ble_eq_true rfl) (by decide +kernel : decode cX1_init 25 = .ok (.putfield 18, 3)) (fun H locs hP hD hS => ?_)
  have hP : va_P D classes [(h0, .inr (1, [.ref q7, .ref q15, .int 0, .ref q23, .null, .int 0])), (q7, .inl (tc 0, 16, .inl fz)), (q15, .inl (tc 0, 16, .inl fz)), (q23, .inl (tc 0, 16, .inl fz))] H := hP
  have hD : va_D A [(h0, .inr (1, [.ref q7, .ref q15, .int 0, .ref q23, .null, .int 0])), (q7, .inl (tc 0, 16, .inl fz)), (q15, .inl (tc 0, 16, .inl fz)), (q23, .inl (tc 0, 16, .inl fz))] := hD
  refine lv_aload_n hx hb (by decide +kernel : decode cX1_init 28 = .ok (.aload_n 0, 1)) rfl (lv_at hl 0 rfl) ?_
  refine lv_bipush (v := 16) hx hb (by decide +kernel : decode cX1_init 29 = .ok (.bipush 16, 2)) rfl ?_
  refine va_newT (D := D) (tc := tc) (atype := .int) (ty := .int) (N' := 16) (a0 := (16, .inl fz)) hx hb 0 (by decide) (hts _ (tw_of 110 (by decide +kernel) rfl)) rfl hK.1.1 hP hD hS hA (fun cA => rfl) (by decide) (by decide) (by decide) (Nat.le_of_ble_eq_true rfl) (Nat.le_of_ble_eq_true rfl) (by decide +kernel : decode cX1_init 31 = .ok (.newarray .int, 2)) (fun q31 H hP hD hS => ?_)
  have hP : va_P D classes [(h0, .inr (1, [.ref q7, .ref q15, .int 0, .ref q23, .null, .int 0])), (q7, .inl (tc 0, 16, .inl fz)), (q15, .inl (tc 0, 16, .inl fz)), (q23, .inl (tc 0, 16, .inl fz)), (q31, .inl (tc 0, 16, .inl fz))] H := hP
  have hD : va_D A [(h0, .inr (1, [.ref q7, .ref q15, .int 0, .ref q23, .null, .int 0])), (q7, .inl (tc 0, 16, .inl fz)), (q15, .inl (tc 0, 16, .inl fz)), (q23, .inl (tc 0, 16, .inl fz)), (q31, .inl (tc 0, 16, .inl fz))] := hD
  refine W.widen (k := 4) (n := 64) (by omega) (by omega) ?_
  refine va_putF (D := D) (ci := 1) (v := .ref q31) (ty := .array .int) (C := RX1) (T := TX1) (N := 6) hx hb hts (lays_tw cl_i1) tyX1 tyX1_ok nmX1 hown hK.1.1 hP hD hS 0 rfl rfl 4 (by decide) (hts _ (tw_of 184 (by decide +kernel) rfl)) (fun _ h9 => h9) rfl hin rfl (by decide +kernel) rfl rfl (Nat.le_of_ble_eq_true rfl) (by decide +kernel : decode cX1_init 33 = .ok (.putfield 21, 3)) (fun H locs hP hD hS => ?_)
  have hP : va_P D classes [(h0, .inr (1, [.ref q7, .ref q15, .int 0, .ref q23, .ref q31, .int 0])), (q7, .inl (tc 0, 16, .inl fz)), (q15, .inl (tc 0, 16, .inl fz)), (q23, .inl (tc 0, 16, .inl fz)), (q31, .inl (tc 0, 16, .inl fz))] H := hP
  have hD : va_D A [(h0, .inr (1, [.ref q7, .ref q15, .int 0, .ref q23, .ref q31, .int 0])), (q7, .inl (tc 0, 16, .inl fz)), (q15, .inl (tc 0, 16, .inl fz)), (q23, .inl (tc 0, 16, .inl fz)), (q31, .inl (tc 0, 16, .inl fz))] := hD
  exact W.vret hx hb hr (fun t ht hW => ⟨⟨(fun i => match i with | 0 => q7 | 1 => q15 | 2 => q23 | 3 => q31 | _ => 0), rfl, trivial, by rw [ht]; exact hP, hK.moved hW, hD⟩, hS.F ht⟩) hS.2.2 (by decide +kernel : decode cX1_init 36 = .ok (.return_, 1))
def w_ct_sp_init (tc : Nat → ClassId) (h0 : Nat) (q : Nat → Nat) : va_W := [(h0, .inr (4, [.ref (q 0), .ref (q 1), .int 0])), ((q 0), .inr (0, [.int 0, .long 0, .long 0])), ((q 1), .inr (0, [.int 0, .long 0, .long 0]))]
set_option maxHeartbeats 4000000 in
set_option maxRecDepth 100000 in
theorem ct_sp_init : CtI yX4_init cX4_init { frames := 2, cells := 2, slots := 6, locals := 32 } 2 6 4 [.null, .null, .int 0] w_ct_sp_init := by
  intro l D tc h0 sz
  refine Met.ofW (cc := cX4_init) (maxL := 1) (ret := none) (by decide) rfl ?_
  intro p e s m args below meth c s₁ B hml hv
  obtain ⟨rfl, hsz, hP, hK, hD0⟩ := hv
  have hx := B.exec
  have hb := B.bytes
  have hr := B.returns
  have hts : ∀ w ∈ tw, w.before _ s = true := fun w hw => atoms_spec (ws := .code yX4_init cX4_init 1 none :: tw) B.pre w (List.mem_cons_of_mem _ hw)
  have hown : s.vm.findClass RX4 = some m.cls := findClass_of_methodNamed B.named
  have hlocks := B.notSynchronized
  have hin : meth.name = "<init>" := (name_of_methodNamed B.named B.method).1
  subst hsz
  have hD := hD0.self (sz := s.heap.size)
  generalize hAe : va_A [(h0, .inr (4, [.null, .null, .int 0]))] s.heap.size = A at hD ⊢
  have hA : ∀ q : Nat, s.heap.size ≤ q → A q := fun q h => by rw [← hAe]; exact Or.inr h
  have hS : va_S A s.heap s.heap [] := va_S.rf
  have hP : va_P D classes [(h0, .inr (4, [.null, .null, .int 0]))] s.heap := hP
  have hl := lv_entry ([.ref h0]) (n := 1) (Nat.le_of_ble_eq_true rfl)
  rw [lg_entry_eq]
  generalize (lg_sl ([.ref h0]) ++ List.replicate (1 - (lg_sl ([.ref h0])).length) Slot.unset).toArray = ls at hl ⊢
  have hl : lv_has ls 1 [(0, .ref h0)] := hl
  refine lv_aload_n hx hb (by decide +kernel : decode cX4_init 0 = .ok (.aload_n 0, 1)) rfl (lv_at hl 0 rfl) ?_
  refine W.objInit hx hb hown (hts _ (tw_of 206 (by decide +kernel) rfl)) (hts _ (tw_of 89 (by decide +kernel) rfl)) (hts _ (tw_of 90 (by decide +kernel) rfl)) rfl (by rw [hml]; exact hl.1) rfl (by decide +kernel : decode cX4_init 1 = .ok (.invokespecial 3, 3)) (Nat.le_of_ble_eq_true rfl) (Nat.le_of_ble_eq_true rfl) ?_
  refine W.eq (g2 := F0 m 4 ls []) rfl ?_
  refine lv_aload_n hx hb (by decide +kernel : decode cX4_init 4 = .ok (.aload_n 0, 1)) rfl (lv_at hl 0 rfl) ?_
  refine va_new (D := D) (ci := 0) (fs := [.int 0, .long 0, .long 0]) (C := RX0) (T := TX0) (N := 3) hx hb hts (lays_tw cl_i0) tyX0 tyX0_ok hown (hts _ (tw_of 207 (by decide +kernel) rfl)) (hts _ (tw_of 208 (by decide +kernel) rfl)) (hts _ (tw_of 79 (by decide +kernel) rfl)) hK.1.1 hP hD hS hA rfl (by decide) (Nat.le_of_ble_eq_true rfl) (Nat.le_of_ble_eq_true rfl) (by decide +kernel : decode cX4_init 5 = .ok (.new 9, 3)) (fun q5 H hP hD hS => ?_)
  have hP : va_P D classes [(h0, .inr (4, [.null, .null, .int 0])), (q5, .inr (0, [.int 0, .long 0, .long 0]))] H := hP
  have hD : va_D A [(h0, .inr (4, [.null, .null, .int 0])), (q5, .inr (0, [.int 0, .long 0, .long 0]))] := hD
  refine W.widen (k := 1) (n := 3) (by omega) (by omega) ?_
  refine lv_dup hx hb (by decide +kernel : decode cX4_init 8 = .ok (.dup, 1)) rfl ?_
  have hPc := hP.sub (ws' := [(q5, .inr (0, [.int 0, .long 0, .long 0]))]) [1] rfl
  have hDc := hD.sub (ws' := [(q5, .inr (0, [.int 0, .long 0, .long 0]))]) [1] (by decide) rfl
  have hFc := va_free (wc := [(q5, .inr (0, [.int 0, .long 0, .long 0]))]) hD hS hA [1] rfl
  refine va_callv (va_runIN (As := []) (rest := [.ref q5, .ref h0]) (host := RX6) (index := 11) ⟨hx, hb, hml, hown, hts⟩ (ct_bo_init l D tc q5 H.size) ⟨va_cnB 0 hts (good_c (tw_of 211 (by decide +kernel) rfl)) rfl rfl rfl (hK.2 _ (by simp [nests])) (hts _ (tw_of 79 (by decide +kernel) rfl)) ⟨by decide, by decide, by decide +kernel⟩ ⟨Nat.le_of_ble_eq_true rfl, Nat.le_of_ble_eq_true rfl⟩, rfl, hts _ (tw_of 210 (by decide +kernel) rfl)⟩ ⟨fun a U g mk q => by obtain ⟨q0, q1, qP, qK, qD⟩ := q; exact ⟨q0, q1, qP, qK.called, qD⟩, fun U hU hW => ⟨rfl, by rw [hU], by rw [hU]; exact hPc, hK.moved hW, hDc.weaken (fun _ _ _ _ => trivial)⟩⟩ rfl rfl hl.1 rfl (lv_room (Nat.le_of_ble_eq_true rfl)) (by decide +kernel : decode cX4_init 9 = .ok (.invokespecial 11, 3)) ⟨Nat.le_of_ble_eq_true rfl, Nat.le_of_ble_eq_true rfl⟩) hS (fun q _ h => hFc q h) hFc (fun u t H1 locs ht hvm hw hB hz1 hk1 hS => ?_)
  obtain ⟨u9, rfl⟩ : ∃ z, z = u := ⟨_, rfl⟩
  obtain ⟨hP1, -, hD1⟩ := hB
  rw [ht] at hP1
  obtain ⟨hP, hD⟩ := va_join (wr := [(h0, .inr (4, [.null, .null, .int 0]))]) (w1 := [(q5, .inr (0, [.int 0, .long 0, .long 0]))]) hP hD [1] [0] rfl rfl (by decide) (by decide) hk1 hFc hP1 hD1
  generalize H1 = H at hP hS ⊢
  have hP : va_P D classes [(h0, .inr (4, [.null, .null, .int 0])), (q5, .inr (0, [.int 0, .long 0, .long 0]))] H := hP
  have hD : va_D A [(h0, .inr (4, [.null, .null, .int 0])), (q5, .inr (0, [.int 0, .long 0, .long 0]))] := hD
  refine W.widen (k := 1) (n := 3) (by omega) (by omega) ?_
  refine va_putF (D := D) (ci := 4) (v := .ref q5) (ty := .object "ShadowSpans$Bound") (C := RX4) (T := TX4) (N := 3) hx hb hts (lays_tw cl_i4) tyX4 tyX4_ok nmX4 hown hK.1.1 hP hD hS 0 rfl rfl 0 (by decide) (hts _ (tw_of 226 (by decide +kernel) rfl)) (fun _ h9 => h9) rfl hin rfl (by decide +kernel) rfl rfl (Nat.le_of_ble_eq_true rfl) (by decide +kernel : decode cX4_init 12 = .ok (.putfield 12, 3)) (fun H locs hP hD hS => ?_)
  have hP : va_P D classes [(h0, .inr (4, [.ref q5, .null, .int 0])), (q5, .inr (0, [.int 0, .long 0, .long 0]))] H := hP
  have hD : va_D A [(h0, .inr (4, [.ref q5, .null, .int 0])), (q5, .inr (0, [.int 0, .long 0, .long 0]))] := hD
  refine lv_aload_n hx hb (by decide +kernel : decode cX4_init 15 = .ok (.aload_n 0, 1)) rfl (lv_at hl 0 rfl) ?_
  refine va_new (D := D) (ci := 0) (fs := [.int 0, .long 0, .long 0]) (C := RX0) (T := TX0) (N := 3) hx hb hts (lays_tw cl_i0) tyX0 tyX0_ok hown (hts _ (tw_of 207 (by decide +kernel) rfl)) (hts _ (tw_of 208 (by decide +kernel) rfl)) (hts _ (tw_of 79 (by decide +kernel) rfl)) hK.1.1 hP hD hS hA rfl (by decide) (Nat.le_of_ble_eq_true rfl) (Nat.le_of_ble_eq_true rfl) (by decide +kernel : decode cX4_init 16 = .ok (.new 9, 3)) (fun q16 H hP hD hS => ?_)
  have hP : va_P D classes [(h0, .inr (4, [.ref q5, .null, .int 0])), (q5, .inr (0, [.int 0, .long 0, .long 0])), (q16, .inr (0, [.int 0, .long 0, .long 0]))] H := hP
  have hD : va_D A [(h0, .inr (4, [.ref q5, .null, .int 0])), (q5, .inr (0, [.int 0, .long 0, .long 0])), (q16, .inr (0, [.int 0, .long 0, .long 0]))] := hD
  refine W.widen (k := 2) (n := 6) (by omega) (by omega) ?_
  refine lv_dup hx hb (by decide +kernel : decode cX4_init 19 = .ok (.dup, 1)) rfl ?_
  have hPc := hP.sub (ws' := [(q16, .inr (0, [.int 0, .long 0, .long 0]))]) [2] rfl
  have hDc := hD.sub (ws' := [(q16, .inr (0, [.int 0, .long 0, .long 0]))]) [2] (by decide) rfl
  have hFc := va_free (wc := [(q16, .inr (0, [.int 0, .long 0, .long 0]))]) hD hS hA [2] rfl
  refine va_callv (va_runIN (As := []) (rest := [.ref q16, .ref h0]) (host := RX6) (index := 11) ⟨hx, hb, hml, hown, hts⟩ (ct_bo_init l D tc q16 H.size) ⟨va_cnB 0 hts (good_c (tw_of 211 (by decide +kernel) rfl)) rfl rfl rfl (hK.2 _ (by simp [nests])) (hts _ (tw_of 79 (by decide +kernel) rfl)) ⟨by decide, by decide, by decide +kernel⟩ ⟨Nat.le_of_ble_eq_true rfl, Nat.le_of_ble_eq_true rfl⟩, rfl, hts _ (tw_of 210 (by decide +kernel) rfl)⟩ ⟨fun a U g mk q => by obtain ⟨q0, q1, qP, qK, qD⟩ := q; exact ⟨q0, q1, qP, qK.called, qD⟩, fun U hU hW => ⟨rfl, by rw [hU], by rw [hU]; exact hPc, hK.moved hW, hDc.weaken (fun _ _ _ _ => trivial)⟩⟩ rfl rfl hl.1 rfl (lv_room (Nat.le_of_ble_eq_true rfl)) (by decide +kernel : decode cX4_init 20 = .ok (.invokespecial 11, 3)) ⟨Nat.le_of_ble_eq_true rfl, Nat.le_of_ble_eq_true rfl⟩) hS (fun q _ h => hFc q h) hFc (fun u t H1 locs ht hvm hw hB hz1 hk1 hS => ?_)
  obtain ⟨u20, rfl⟩ : ∃ z, z = u := ⟨_, rfl⟩
  obtain ⟨hP1, -, hD1⟩ := hB
  rw [ht] at hP1
  obtain ⟨hP, hD⟩ := va_join (wr := [(h0, .inr (4, [.ref q5, .null, .int 0])), (q5, .inr (0, [.int 0, .long 0, .long 0]))]) (w1 := [(q16, .inr (0, [.int 0, .long 0, .long 0]))]) hP hD [2] [0, 1] rfl rfl (by decide) (by decide) hk1 hFc hP1 hD1
  generalize H1 = H at hP hS ⊢
  have hP : va_P D classes [(h0, .inr (4, [.ref q5, .null, .int 0])), (q5, .inr (0, [.int 0, .long 0, .long 0])), (q16, .inr (0, [.int 0, .long 0, .long 0]))] H := hP
  have hD : va_D A [(h0, .inr (4, [.ref q5, .null, .int 0])), (q5, .inr (0, [.int 0, .long 0, .long 0])), (q16, .inr (0, [.int 0, .long 0, .long 0]))] := hD
  refine W.widen (k := 2) (n := 6) (by omega) (by omega) ?_
  refine va_putF (D := D) (ci := 4) (v := .ref q16) (ty := .object "ShadowSpans$Bound") (C := RX4) (T := TX4) (N := 3) hx hb hts (lays_tw cl_i4) tyX4 tyX4_ok nmX4 hown hK.1.1 hP hD hS 0 rfl rfl 1 (by decide) (hts _ (tw_of 227 (by decide +kernel) rfl)) (fun _ h9 => h9) rfl hin rfl (by decide +kernel) rfl rfl (Nat.le_of_ble_eq_true rfl) (by decide +kernel : decode cX4_init 23 = .ok (.putfield 18, 3)) (fun H locs hP hD hS => ?_)
  have hP : va_P D classes [(h0, .inr (4, [.ref q5, .ref q16, .int 0])), (q5, .inr (0, [.int 0, .long 0, .long 0])), (q16, .inr (0, [.int 0, .long 0, .long 0]))] H := hP
  have hD : va_D A [(h0, .inr (4, [.ref q5, .ref q16, .int 0])), (q5, .inr (0, [.int 0, .long 0, .long 0])), (q16, .inr (0, [.int 0, .long 0, .long 0]))] := hD
  exact W.vret hx hb hr (fun t ht hW => ⟨⟨(fun i => match i with | 0 => q5 | 1 => q16 | _ => 0), rfl, trivial, by rw [ht]; exact hP, hK.moved hW, hD⟩, hS.F ht⟩) hS.2.2 (by decide +kernel : decode cX4_init 26 = .ok (.return_, 1))
def w_ct_ss_init (tc : Nat → ClassId) (h0 : Nat) (q : Nat → Nat) : va_W := [(h0, .inr (6, [.ref (q 0), .ref (q 1), .ref (q 3), .ref (q 9), .ref (q 11), .ref (q 16), .int 0, .int 0, .int 0])), ((q 0), .inl (tc 0, 24, .inl fz)), ((q 1), .inr (2, [.ref (q 2), .int 0, .int 0, .int 0])), ((q 2), .inl (tc 0, 4, .inl fz)), ((q 3), .inr (3, [.ref (q 4), .ref (q 5), .ref (q 6), .ref (q 7), .ref (q 8), .int 0, .int 10])), ((q 4), .inl (tc 0, 8, .inl fz)), ((q 5), .inl (tc 1, 8, .inl fz)), ((q 6), .inl (tc 0, 8, .inl fz)), ((q 7), .inl (tc 0, 8, .inl fz)), ((q 8), .inl (tc 0, 8, .inl fz)), ((q 9), .inr (5, [.ref (q 10), .int 0, .int 0])), ((q 10), .inl (tc 0, 56, .inl fz)), ((q 11), .inr (1, [.ref (q 12), .ref (q 13), .int 0, .ref (q 14), .ref (q 15), .int 0])), ((q 12), .inl (tc 0, 16, .inl fz)), ((q 13), .inl (tc 0, 16, .inl fz)), ((q 14), .inl (tc 0, 16, .inl fz)), ((q 15), .inl (tc 0, 16, .inl fz)), ((q 16), .inr (4, [.ref (q 17), .ref (q 18), .int 0])), ((q 17), .inr (0, [.int 0, .long 0, .long 0])), ((q 18), .inr (0, [.int 0, .long 0, .long 0]))]
set_option maxHeartbeats 4000000 in
set_option maxRecDepth 100000 in
theorem ct_ss_init : CtI yX6_init cX6_init { frames := 3, cells := 19, slots := 217, locals := 52 } 19 217 6 [.null, .null, .null, .null, .null, .null, .int 0, .int 0, .int 0] w_ct_ss_init := by
  intro l D tc h0 sz
  refine Met.ofW (cc := cX6_init) (maxL := 1) (ret := none) (by decide) rfl ?_
  intro p e s m args below meth c s₁ B hml hv
  obtain ⟨rfl, hsz, hP, hK, hD0⟩ := hv
  have hx := B.exec
  have hb := B.bytes
  have hr := B.returns
  have hts : ∀ w ∈ tw, w.before _ s = true := fun w hw => atoms_spec (ws := .code yX6_init cX6_init 1 none :: tw) B.pre w (List.mem_cons_of_mem _ hw)
  have hown : s.vm.findClass RX6 = some m.cls := findClass_of_methodNamed B.named
  have hlocks := B.notSynchronized
  have hin : meth.name = "<init>" := (name_of_methodNamed B.named B.method).1
  subst hsz
  have hD := hD0.self (sz := s.heap.size)
  generalize hAe : va_A [(h0, .inr (6, [.null, .null, .null, .null, .null, .null, .int 0, .int 0, .int 0]))] s.heap.size = A at hD ⊢
  have hA : ∀ q : Nat, s.heap.size ≤ q → A q := fun q h => by rw [← hAe]; exact Or.inr h
  have hS : va_S A s.heap s.heap [] := va_S.rf
  have hP : va_P D classes [(h0, .inr (6, [.null, .null, .null, .null, .null, .null, .int 0, .int 0, .int 0]))] s.heap := hP
  have hl := lv_entry ([.ref h0]) (n := 1) (Nat.le_of_ble_eq_true rfl)
  rw [lg_entry_eq]
  generalize (lg_sl ([.ref h0]) ++ List.replicate (1 - (lg_sl ([.ref h0])).length) Slot.unset).toArray = ls at hl ⊢
  have hl : lv_has ls 1 [(0, .ref h0)] := hl
  refine lv_aload_n hx hb (by decide +kernel : decode cX6_init 0 = .ok (.aload_n 0, 1)) rfl (lv_at hl 0 rfl) ?_
  refine W.objInit hx hb hown (hts _ (tw_of 88 (by decide +kernel) rfl)) (hts _ (tw_of 89 (by decide +kernel) rfl)) (hts _ (tw_of 90 (by decide +kernel) rfl)) rfl (by rw [hml]; exact hl.1) rfl (by decide +kernel : decode cX6_init 1 = .ok (.invokespecial 1, 3)) (Nat.le_of_ble_eq_true rfl) (Nat.le_of_ble_eq_true rfl) ?_
  refine W.eq (g2 := F0 m 4 ls []) rfl ?_
  refine lv_aload_n hx hb (by decide +kernel : decode cX6_init 4 = .ok (.aload_n 0, 1)) rfl (lv_at hl 0 rfl) ?_
  refine lv_bipush (v := 24) hx hb (by decide +kernel : decode cX6_init 5 = .ok (.bipush 24, 2)) rfl ?_
  refine va_newT (D := D) (tc := tc) (atype := .int) (ty := .int) (N' := 24) (a0 := (24, .inl fz)) hx hb 0 (by decide) (hts _ (tw_of 110 (by decide +kernel) rfl)) rfl hK.1.1 hP hD hS hA (fun cA => rfl) (by decide) (by decide) (by decide) (Nat.le_of_ble_eq_true rfl) (Nat.le_of_ble_eq_true rfl) (by decide +kernel : decode cX6_init 7 = .ok (.newarray .int, 2)) (fun q7 H hP hD hS => ?_)
  have hP : va_P D classes [(h0, .inr (6, [.null, .null, .null, .null, .null, .null, .int 0, .int 0, .int 0])), (q7, .inl (tc 0, 24, .inl fz))] H := hP
  have hD : va_D A [(h0, .inr (6, [.null, .null, .null, .null, .null, .null, .int 0, .int 0, .int 0])), (q7, .inl (tc 0, 24, .inl fz))] := hD
  refine W.widen (k := 1) (n := 24) (by omega) (by omega) ?_
  refine va_putF (D := D) (ci := 6) (v := .ref q7) (ty := .array .int) (C := RX6) (T := TX6) (N := 9) hx hb hts (lays_tw cl_i6) tyX6 tyX6_ok nmX6 hown hK.1.1 hP hD hS 0 rfl rfl 0 (by decide) (hts _ (tw_of 236 (by decide +kernel) rfl)) (fun _ h9 => h9) rfl hin rfl (by decide +kernel) rfl rfl (Nat.le_of_ble_eq_true rfl) (by decide +kernel : decode cX6_init 9 = .ok (.putfield 9, 3)) (fun H locs hP hD hS => ?_)
  have hP : va_P D classes [(h0, .inr (6, [.ref q7, .null, .null, .null, .null, .null, .int 0, .int 0, .int 0])), (q7, .inl (tc 0, 24, .inl fz))] H := hP
  have hD : va_D A [(h0, .inr (6, [.ref q7, .null, .null, .null, .null, .null, .int 0, .int 0, .int 0])), (q7, .inl (tc 0, 24, .inl fz))] := hD
  refine lv_aload_n hx hb (by decide +kernel : decode cX6_init 12 = .ok (.aload_n 0, 1)) rfl (lv_at hl 0 rfl) ?_
  refine va_new (D := D) (ci := 2) (fs := [.null, .int 0, .int 0, .int 0]) (C := RX2) (T := TX2) (N := 4) hx hb hts (lays_tw cl_i2) tyX2 tyX2_ok hown (hts _ (tw_of 91 (by decide +kernel) rfl)) (hts _ (tw_of 92 (by decide +kernel) rfl)) (hts _ (tw_of 74 (by decide +kernel) rfl)) hK.1.1 hP hD hS hA rfl (by decide) (Nat.le_of_ble_eq_true rfl) (Nat.le_of_ble_eq_true rfl) (by decide +kernel : decode cX6_init 13 = .ok (.new 13, 3)) (fun q13 H hP hD hS => ?_)
  have hP : va_P D classes [(h0, .inr (6, [.ref q7, .null, .null, .null, .null, .null, .int 0, .int 0, .int 0])), (q7, .inl (tc 0, 24, .inl fz)), (q13, .inr (2, [.null, .int 0, .int 0, .int 0]))] H := hP
  have hD : va_D A [(h0, .inr (6, [.ref q7, .null, .null, .null, .null, .null, .int 0, .int 0, .int 0])), (q7, .inl (tc 0, 24, .inl fz)), (q13, .inr (2, [.null, .int 0, .int 0, .int 0]))] := hD
  refine W.widen (k := 2) (n := 28) (by omega) (by omega) ?_
  refine lv_dup hx hb (by decide +kernel : decode cX6_init 16 = .ok (.dup, 1)) rfl ?_
  have hPc := hP.sub (ws' := [(q13, .inr (2, [.null, .int 0, .int 0, .int 0]))]) [2] rfl
  have hDc := hD.sub (ws' := [(q13, .inr (2, [.null, .int 0, .int 0, .int 0]))]) [2] (by decide) rfl
  have hFc := va_free (wc := [(q13, .inr (2, [.null, .int 0, .int 0, .int 0]))]) hD hS hA [2] rfl
  refine va_callv (va_runIN (As := []) (rest := [.ref q13, .ref h0]) (host := RX6) (index := 15) ⟨hx, hb, hml, hown, hts⟩ (ct_re_init l D tc q13 H.size) ⟨va_cnB 0 hts (good_c (tw_of 95 (by decide +kernel) rfl)) rfl rfl rfl (hK.2 _ (by simp [nests])) (hts _ (tw_of 74 (by decide +kernel) rfl)) ⟨by decide, by decide, by decide +kernel⟩ ⟨Nat.le_of_ble_eq_true rfl, Nat.le_of_ble_eq_true rfl⟩, rfl, hts _ (tw_of 94 (by decide +kernel) rfl)⟩ ⟨fun a U g mk q => by obtain ⟨q0, q1, qP, qK, qD⟩ := q; exact ⟨q0, q1, qP, qK.called, qD⟩, fun U hU hW => ⟨rfl, by rw [hU], by rw [hU]; exact hPc, hK.moved hW, hDc.weaken (fun _ _ _ _ => trivial)⟩⟩ rfl rfl hl.1 rfl (lv_room (Nat.le_of_ble_eq_true rfl)) (by decide +kernel : decode cX6_init 17 = .ok (.invokespecial 15, 3)) ⟨Nat.le_of_ble_eq_true rfl, Nat.le_of_ble_eq_true rfl⟩) hS (fun q _ h => hFc q h) hFc (fun u t H1 locs ht hvm hw hB hz1 hk1 hS => ?_)
  obtain ⟨u17, rfl⟩ : ∃ z, z = u := ⟨_, rfl⟩
  obtain ⟨hP1, -, hD1⟩ := hB
  rw [ht] at hP1
  obtain ⟨hP, hD⟩ := va_join (wr := [(h0, .inr (6, [.ref q7, .null, .null, .null, .null, .null, .int 0, .int 0, .int 0])), (q7, .inl (tc 0, 24, .inl fz))]) (w1 := [(q13, .inr (2, [.ref (u17 0), .int 0, .int 0, .int 0])), ((u17 0), .inl (tc 0, 4, .inl fz))]) hP hD [2] [0, 1] rfl rfl (by decide) (by decide) hk1 hFc hP1 hD1
  generalize H1 = H at hP hS ⊢
  have hP : va_P D classes [(h0, .inr (6, [.ref q7, .null, .null, .null, .null, .null, .int 0, .int 0, .int 0])), (q7, .inl (tc 0, 24, .inl fz)), (q13, .inr (2, [.ref (u17 0), .int 0, .int 0, .int 0])), ((u17 0), .inl (tc 0, 4, .inl fz))] H := hP
  have hD : va_D A [(h0, .inr (6, [.ref q7, .null, .null, .null, .null, .null, .int 0, .int 0, .int 0])), (q7, .inl (tc 0, 24, .inl fz)), (q13, .inr (2, [.ref (u17 0), .int 0, .int 0, .int 0])), ((u17 0), .inl (tc 0, 4, .inl fz))] := hD
  refine W.widen (k := 3) (n := 32) (by omega) (by omega) ?_
  refine va_putF (D := D) (ci := 6) (v := .ref q13) (ty := .object "ShadowSpans$Reader") (C := RX6) (T := TX6) (N := 9) hx hb hts (lays_tw cl_i6) tyX6 tyX6_ok nmX6 hown hK.1.1 hP hD hS 0 rfl rfl 1 (by decide) (hts _ (tw_of 237 (by decide +kernel) rfl)) (fun _ h9 => h9) rfl hin rfl (by decide +kernel) rfl rfl (Nat.le_of_ble_eq_true rfl) (by decide +kernel : decode cX6_init 20 = .ok (.putfield 16, 3)) (fun H locs hP hD hS => ?_)
  have hP : va_P D classes [(h0, .inr (6, [.ref q7, .ref q13, .null, .null, .null, .null, .int 0, .int 0, .int 0])), (q7, .inl (tc 0, 24, .inl fz)), (q13, .inr (2, [.ref (u17 0), .int 0, .int 0, .int 0])), ((u17 0), .inl (tc 0, 4, .inl fz))] H := hP
  have hD : va_D A [(h0, .inr (6, [.ref q7, .ref q13, .null, .null, .null, .null, .int 0, .int 0, .int 0])), (q7, .inl (tc 0, 24, .inl fz)), (q13, .inr (2, [.ref (u17 0), .int 0, .int 0, .int 0])), ((u17 0), .inl (tc 0, 4, .inl fz))] := hD
  refine lv_aload_n hx hb (by decide +kernel : decode cX6_init 23 = .ok (.aload_n 0, 1)) rfl (lv_at hl 0 rfl) ?_
  refine va_new (D := D) (ci := 3) (fs := [.null, .null, .null, .null, .null, .int 0, .int 0]) (C := RX3) (T := TX3) (N := 7) hx hb hts (lays_tw cl_i3) tyX3 tyX3_ok hown (hts _ (tw_of 111 (by decide +kernel) rfl)) (hts _ (tw_of 112 (by decide +kernel) rfl)) (hts _ (tw_of 75 (by decide +kernel) rfl)) hK.1.1 hP hD hS hA rfl (by decide) (Nat.le_of_ble_eq_true rfl) (Nat.le_of_ble_eq_true rfl) (by decide +kernel : decode cX6_init 24 = .ok (.new 20, 3)) (fun q24 H hP hD hS => ?_)
  have hP : va_P D classes [(h0, .inr (6, [.ref q7, .ref q13, .null, .null, .null, .null, .int 0, .int 0, .int 0])), (q7, .inl (tc 0, 24, .inl fz)), (q13, .inr (2, [.ref (u17 0), .int 0, .int 0, .int 0])), ((u17 0), .inl (tc 0, 4, .inl fz)), (q24, .inr (3, [.null, .null, .null, .null, .null, .int 0, .int 0]))] H := hP
  have hD : va_D A [(h0, .inr (6, [.ref q7, .ref q13, .null, .null, .null, .null, .int 0, .int 0, .int 0])), (q7, .inl (tc 0, 24, .inl fz)), (q13, .inr (2, [.ref (u17 0), .int 0, .int 0, .int 0])), ((u17 0), .inl (tc 0, 4, .inl fz)), (q24, .inr (3, [.null, .null, .null, .null, .null, .int 0, .int 0]))] := hD
  refine W.widen (k := 4) (n := 39) (by omega) (by omega) ?_
  refine lv_dup hx hb (by decide +kernel : decode cX6_init 27 = .ok (.dup, 1)) rfl ?_
  have hPc := hP.sub (ws' := [(q24, .inr (3, [.null, .null, .null, .null, .null, .int 0, .int 0]))]) [4] rfl
  have hDc := hD.sub (ws' := [(q24, .inr (3, [.null, .null, .null, .null, .null, .int 0, .int 0]))]) [4] (by decide) rfl
  have hFc := va_free (wc := [(q24, .inr (3, [.null, .null, .null, .null, .null, .int 0, .int 0]))]) hD hS hA [4] rfl
  refine va_callv (va_runIN (As := []) (rest := [.ref q24, .ref h0]) (host := RX6) (index := 22) ⟨hx, hb, hml, hown, hts⟩ (ct_ro_init l D tc q24 H.size) ⟨va_cnB 0 hts (good_c (tw_of 115 (by decide +kernel) rfl)) rfl rfl rfl (hK.2 _ (by simp [nests])) (hts _ (tw_of 75 (by decide +kernel) rfl)) ⟨by decide, by decide, by decide +kernel⟩ ⟨Nat.le_of_ble_eq_true rfl, Nat.le_of_ble_eq_true rfl⟩, rfl, hts _ (tw_of 114 (by decide +kernel) rfl)⟩ ⟨fun a U g mk q => by obtain ⟨q0, q1, qP, qK, qD⟩ := q; exact ⟨q0, q1, qP, qK.called, qD⟩, fun U hU hW => ⟨rfl, by rw [hU], by rw [hU]; exact hPc, hK.moved hW, hDc.weaken (fun _ _ _ _ => trivial)⟩⟩ rfl rfl hl.1 rfl (lv_room (Nat.le_of_ble_eq_true rfl)) (by decide +kernel : decode cX6_init 28 = .ok (.invokespecial 22, 3)) ⟨Nat.le_of_ble_eq_true rfl, Nat.le_of_ble_eq_true rfl⟩) hS (fun q _ h => hFc q h) hFc (fun u t H1 locs ht hvm hw hB hz1 hk1 hS => ?_)
  obtain ⟨u28, rfl⟩ : ∃ z, z = u := ⟨_, rfl⟩
  obtain ⟨hP1, -, hD1⟩ := hB
  rw [ht] at hP1
  obtain ⟨hP, hD⟩ := va_join (wr := [(h0, .inr (6, [.ref q7, .ref q13, .null, .null, .null, .null, .int 0, .int 0, .int 0])), (q7, .inl (tc 0, 24, .inl fz)), (q13, .inr (2, [.ref (u17 0), .int 0, .int 0, .int 0])), ((u17 0), .inl (tc 0, 4, .inl fz))]) (w1 := [(q24, .inr (3, [.ref (u28 0), .ref (u28 1), .ref (u28 2), .ref (u28 3), .ref (u28 4), .int 0, .int 10])), ((u28 0), .inl (tc 0, 8, .inl fz)), ((u28 1), .inl (tc 1, 8, .inl fz)), ((u28 2), .inl (tc 0, 8, .inl fz)), ((u28 3), .inl (tc 0, 8, .inl fz)), ((u28 4), .inl (tc 0, 8, .inl fz))]) hP hD [4] [0, 1, 2, 3] rfl rfl (by decide) (by decide) hk1 hFc hP1 hD1
  generalize H1 = H at hP hS ⊢
  have hP : va_P D classes [(h0, .inr (6, [.ref q7, .ref q13, .null, .null, .null, .null, .int 0, .int 0, .int 0])), (q7, .inl (tc 0, 24, .inl fz)), (q13, .inr (2, [.ref (u17 0), .int 0, .int 0, .int 0])), ((u17 0), .inl (tc 0, 4, .inl fz)), (q24, .inr (3, [.ref (u28 0), .ref (u28 1), .ref (u28 2), .ref (u28 3), .ref (u28 4), .int 0, .int 10])), ((u28 0), .inl (tc 0, 8, .inl fz)), ((u28 1), .inl (tc 1, 8, .inl fz)), ((u28 2), .inl (tc 0, 8, .inl fz)), ((u28 3), .inl (tc 0, 8, .inl fz)), ((u28 4), .inl (tc 0, 8, .inl fz))] H := hP
  have hD : va_D A [(h0, .inr (6, [.ref q7, .ref q13, .null, .null, .null, .null, .int 0, .int 0, .int 0])), (q7, .inl (tc 0, 24, .inl fz)), (q13, .inr (2, [.ref (u17 0), .int 0, .int 0, .int 0])), ((u17 0), .inl (tc 0, 4, .inl fz)), (q24, .inr (3, [.ref (u28 0), .ref (u28 1), .ref (u28 2), .ref (u28 3), .ref (u28 4), .int 0, .int 10])), ((u28 0), .inl (tc 0, 8, .inl fz)), ((u28 1), .inl (tc 1, 8, .inl fz)), ((u28 2), .inl (tc 0, 8, .inl fz)), ((u28 3), .inl (tc 0, 8, .inl fz)), ((u28 4), .inl (tc 0, 8, .inl fz))] := hD
  refine W.widen (k := 9) (n := 79) (by omega) (by omega) ?_
  refine va_putF (D := D) (ci := 6) (v := .ref q24) (ty := .object "ShadowSpans$Roster") (C := RX6) (T := TX6) (N := 9) hx hb hts (lays_tw cl_i6) tyX6 tyX6_ok nmX6 hown hK.1.1 hP hD hS 0 rfl rfl 2 (by decide) (hts _ (tw_of 238 (by decide +kernel) rfl)) (fun _ h9 => h9) rfl hin rfl (by decide +kernel) rfl rfl (Nat.le_of_ble_eq_true rfl) (by decide +kernel : decode cX6_init 31 = .ok (.putfield 23, 3)) (fun H locs hP hD hS => ?_)
  have hP : va_P D classes [(h0, .inr (6, [.ref q7, .ref q13, .ref q24, .null, .null, .null, .int 0, .int 0, .int 0])), (q7, .inl (tc 0, 24, .inl fz)), (q13, .inr (2, [.ref (u17 0), .int 0, .int 0, .int 0])), ((u17 0), .inl (tc 0, 4, .inl fz)), (q24, .inr (3, [.ref (u28 0), .ref (u28 1), .ref (u28 2), .ref (u28 3), .ref (u28 4), .int 0, .int 10])), ((u28 0), .inl (tc 0, 8, .inl fz)), ((u28 1), .inl (tc 1, 8, .inl fz)), ((u28 2), .inl (tc 0, 8, .inl fz)), ((u28 3), .inl (tc 0, 8, .inl fz)), ((u28 4), .inl (tc 0, 8, .inl fz))] H := hP
  have hD : va_D A [(h0, .inr (6, [.ref q7, .ref q13, .ref q24, .null, .null, .null, .int 0, .int 0, .int 0])), (q7, .inl (tc 0, 24, .inl fz)), (q13, .inr (2, [.ref (u17 0), .int 0, .int 0, .int 0])), ((u17 0), .inl (tc 0, 4, .inl fz)), (q24, .inr (3, [.ref (u28 0), .ref (u28 1), .ref (u28 2), .ref (u28 3), .ref (u28 4), .int 0, .int 10])), ((u28 0), .inl (tc 0, 8, .inl fz)), ((u28 1), .inl (tc 1, 8, .inl fz)), ((u28 2), .inl (tc 0, 8, .inl fz)), ((u28 3), .inl (tc 0, 8, .inl fz)), ((u28 4), .inl (tc 0, 8, .inl fz))] := hD
  refine lv_aload_n hx hb (by decide +kernel : decode cX6_init 34 = .ok (.aload_n 0, 1)) rfl (lv_at hl 0 rfl) ?_
  refine va_new (D := D) (ci := 5) (fs := [.null, .int 0, .int 0]) (C := RX5) (T := TX5) (N := 3) hx hb hts (lays_tw cl_i5) tyX5 tyX5_ok hown (hts _ (tw_of 156 (by decide +kernel) rfl)) (hts _ (tw_of 157 (by decide +kernel) rfl)) (hts _ (tw_of 76 (by decide +kernel) rfl)) hK.1.1 hP hD hS hA rfl (by decide) (Nat.le_of_ble_eq_true rfl) (Nat.le_of_ble_eq_true rfl) (by decide +kernel : decode cX6_init 35 = .ok (.new 27, 3)) (fun q35 H hP hD hS => ?_)
  have hP : va_P D classes [(h0, .inr (6, [.ref q7, .ref q13, .ref q24, .null, .null, .null, .int 0, .int 0, .int 0])), (q7, .inl (tc 0, 24, .inl fz)), (q13, .inr (2, [.ref (u17 0), .int 0, .int 0, .int 0])), ((u17 0), .inl (tc 0, 4, .inl fz)), (q24, .inr (3, [.ref (u28 0), .ref (u28 1), .ref (u28 2), .ref (u28 3), .ref (u28 4), .int 0, .int 10])), ((u28 0), .inl (tc 0, 8, .inl fz)), ((u28 1), .inl (tc 1, 8, .inl fz)), ((u28 2), .inl (tc 0, 8, .inl fz)), ((u28 3), .inl (tc 0, 8, .inl fz)), ((u28 4), .inl (tc 0, 8, .inl fz)), (q35, .inr (5, [.null, .int 0, .int 0]))] H := hP
  have hD : va_D A [(h0, .inr (6, [.ref q7, .ref q13, .ref q24, .null, .null, .null, .int 0, .int 0, .int 0])), (q7, .inl (tc 0, 24, .inl fz)), (q13, .inr (2, [.ref (u17 0), .int 0, .int 0, .int 0])), ((u17 0), .inl (tc 0, 4, .inl fz)), (q24, .inr (3, [.ref (u28 0), .ref (u28 1), .ref (u28 2), .ref (u28 3), .ref (u28 4), .int 0, .int 10])), ((u28 0), .inl (tc 0, 8, .inl fz)), ((u28 1), .inl (tc 1, 8, .inl fz)), ((u28 2), .inl (tc 0, 8, .inl fz)), ((u28 3), .inl (tc 0, 8, .inl fz)), ((u28 4), .inl (tc 0, 8, .inl fz)), (q35, .inr (5, [.null, .int 0, .int 0]))] := hD
  refine W.widen (k := 10) (n := 82) (by omega) (by omega) ?_
  refine lv_dup hx hb (by decide +kernel : decode cX6_init 38 = .ok (.dup, 1)) rfl ?_
  have hPc := hP.sub (ws' := [(q35, .inr (5, [.null, .int 0, .int 0]))]) [10] rfl
  have hDc := hD.sub (ws' := [(q35, .inr (5, [.null, .int 0, .int 0]))]) [10] (by decide) rfl
  have hFc := va_free (wc := [(q35, .inr (5, [.null, .int 0, .int 0]))]) hD hS hA [10] rfl
  refine va_callv (va_runIN (As := []) (rest := [.ref q35, .ref h0]) (host := RX6) (index := 29) ⟨hx, hb, hml, hown, hts⟩ (ct_ve_init l D tc q35 H.size) ⟨va_cnB 0 hts (good_c (tw_of 160 (by decide +kernel) rfl)) rfl rfl rfl (hK.2 _ (by simp [nests])) (hts _ (tw_of 76 (by decide +kernel) rfl)) ⟨by decide, by decide, by decide +kernel⟩ ⟨Nat.le_of_ble_eq_true rfl, Nat.le_of_ble_eq_true rfl⟩, rfl, hts _ (tw_of 159 (by decide +kernel) rfl)⟩ ⟨fun a U g mk q => by obtain ⟨q0, q1, qP, qK, qD⟩ := q; exact ⟨q0, q1, qP, qK.called, qD⟩, fun U hU hW => ⟨rfl, by rw [hU], by rw [hU]; exact hPc, hK.moved hW, hDc.weaken (fun _ _ _ _ => trivial)⟩⟩ rfl rfl hl.1 rfl (lv_room (Nat.le_of_ble_eq_true rfl)) (by decide +kernel : decode cX6_init 39 = .ok (.invokespecial 29, 3)) ⟨Nat.le_of_ble_eq_true rfl, Nat.le_of_ble_eq_true rfl⟩) hS (fun q _ h => hFc q h) hFc (fun u t H1 locs ht hvm hw hB hz1 hk1 hS => ?_)
  obtain ⟨u39, rfl⟩ : ∃ z, z = u := ⟨_, rfl⟩
  obtain ⟨hP1, -, hD1⟩ := hB
  rw [ht] at hP1
  obtain ⟨hP, hD⟩ := va_join (wr := [(h0, .inr (6, [.ref q7, .ref q13, .ref q24, .null, .null, .null, .int 0, .int 0, .int 0])), (q7, .inl (tc 0, 24, .inl fz)), (q13, .inr (2, [.ref (u17 0), .int 0, .int 0, .int 0])), ((u17 0), .inl (tc 0, 4, .inl fz)), (q24, .inr (3, [.ref (u28 0), .ref (u28 1), .ref (u28 2), .ref (u28 3), .ref (u28 4), .int 0, .int 10])), ((u28 0), .inl (tc 0, 8, .inl fz)), ((u28 1), .inl (tc 1, 8, .inl fz)), ((u28 2), .inl (tc 0, 8, .inl fz)), ((u28 3), .inl (tc 0, 8, .inl fz)), ((u28 4), .inl (tc 0, 8, .inl fz))]) (w1 := [(q35, .inr (5, [.ref (u39 0), .int 0, .int 0])), ((u39 0), .inl (tc 0, 56, .inl fz))]) hP hD [10] [0, 1, 2, 3, 4, 5, 6, 7, 8, 9] rfl rfl (by decide) (by decide) hk1 hFc hP1 hD1
  generalize H1 = H at hP hS ⊢
  have hP : va_P D classes [(h0, .inr (6, [.ref q7, .ref q13, .ref q24, .null, .null, .null, .int 0, .int 0, .int 0])), (q7, .inl (tc 0, 24, .inl fz)), (q13, .inr (2, [.ref (u17 0), .int 0, .int 0, .int 0])), ((u17 0), .inl (tc 0, 4, .inl fz)), (q24, .inr (3, [.ref (u28 0), .ref (u28 1), .ref (u28 2), .ref (u28 3), .ref (u28 4), .int 0, .int 10])), ((u28 0), .inl (tc 0, 8, .inl fz)), ((u28 1), .inl (tc 1, 8, .inl fz)), ((u28 2), .inl (tc 0, 8, .inl fz)), ((u28 3), .inl (tc 0, 8, .inl fz)), ((u28 4), .inl (tc 0, 8, .inl fz)), (q35, .inr (5, [.ref (u39 0), .int 0, .int 0])), ((u39 0), .inl (tc 0, 56, .inl fz))] H := hP
  have hD : va_D A [(h0, .inr (6, [.ref q7, .ref q13, .ref q24, .null, .null, .null, .int 0, .int 0, .int 0])), (q7, .inl (tc 0, 24, .inl fz)), (q13, .inr (2, [.ref (u17 0), .int 0, .int 0, .int 0])), ((u17 0), .inl (tc 0, 4, .inl fz)), (q24, .inr (3, [.ref (u28 0), .ref (u28 1), .ref (u28 2), .ref (u28 3), .ref (u28 4), .int 0, .int 10])), ((u28 0), .inl (tc 0, 8, .inl fz)), ((u28 1), .inl (tc 1, 8, .inl fz)), ((u28 2), .inl (tc 0, 8, .inl fz)), ((u28 3), .inl (tc 0, 8, .inl fz)), ((u28 4), .inl (tc 0, 8, .inl fz)), (q35, .inr (5, [.ref (u39 0), .int 0, .int 0])), ((u39 0), .inl (tc 0, 56, .inl fz))] := hD
  refine W.widen (k := 11) (n := 138) (by omega) (by omega) ?_
  refine va_putF (D := D) (ci := 6) (v := .ref q35) (ty := .object "ShadowSpans$Verdict") (C := RX6) (T := TX6) (N := 9) hx hb hts (lays_tw cl_i6) tyX6 tyX6_ok nmX6 hown hK.1.1 hP hD hS 0 rfl rfl 3 (by decide) (hts _ (tw_of 239 (by decide +kernel) rfl)) (fun _ h9 => h9) rfl hin rfl (by decide +kernel) rfl rfl (Nat.le_of_ble_eq_true rfl) (by decide +kernel : decode cX6_init 42 = .ok (.putfield 30, 3)) (fun H locs hP hD hS => ?_)
  have hP : va_P D classes [(h0, .inr (6, [.ref q7, .ref q13, .ref q24, .ref q35, .null, .null, .int 0, .int 0, .int 0])), (q7, .inl (tc 0, 24, .inl fz)), (q13, .inr (2, [.ref (u17 0), .int 0, .int 0, .int 0])), ((u17 0), .inl (tc 0, 4, .inl fz)), (q24, .inr (3, [.ref (u28 0), .ref (u28 1), .ref (u28 2), .ref (u28 3), .ref (u28 4), .int 0, .int 10])), ((u28 0), .inl (tc 0, 8, .inl fz)), ((u28 1), .inl (tc 1, 8, .inl fz)), ((u28 2), .inl (tc 0, 8, .inl fz)), ((u28 3), .inl (tc 0, 8, .inl fz)), ((u28 4), .inl (tc 0, 8, .inl fz)), (q35, .inr (5, [.ref (u39 0), .int 0, .int 0])), ((u39 0), .inl (tc 0, 56, .inl fz))] H := hP
  have hD : va_D A [(h0, .inr (6, [.ref q7, .ref q13, .ref q24, .ref q35, .null, .null, .int 0, .int 0, .int 0])), (q7, .inl (tc 0, 24, .inl fz)), (q13, .inr (2, [.ref (u17 0), .int 0, .int 0, .int 0])), ((u17 0), .inl (tc 0, 4, .inl fz)), (q24, .inr (3, [.ref (u28 0), .ref (u28 1), .ref (u28 2), .ref (u28 3), .ref (u28 4), .int 0, .int 10])), ((u28 0), .inl (tc 0, 8, .inl fz)), ((u28 1), .inl (tc 1, 8, .inl fz)), ((u28 2), .inl (tc 0, 8, .inl fz)), ((u28 3), .inl (tc 0, 8, .inl fz)), ((u28 4), .inl (tc 0, 8, .inl fz)), (q35, .inr (5, [.ref (u39 0), .int 0, .int 0])), ((u39 0), .inl (tc 0, 56, .inl fz))] := hD
  refine lv_aload_n hx hb (by decide +kernel : decode cX6_init 45 = .ok (.aload_n 0, 1)) rfl (lv_at hl 0 rfl) ?_
  refine va_new (D := D) (ci := 1) (fs := [.null, .null, .int 0, .null, .null, .int 0]) (C := RX1) (T := TX1) (N := 6) hx hb hts (lays_tw cl_i1) tyX1 tyX1_ok hown (hts _ (tw_of 173 (by decide +kernel) rfl)) (hts _ (tw_of 174 (by decide +kernel) rfl)) (hts _ (tw_of 77 (by decide +kernel) rfl)) hK.1.1 hP hD hS hA rfl (by decide) (Nat.le_of_ble_eq_true rfl) (Nat.le_of_ble_eq_true rfl) (by decide +kernel : decode cX6_init 46 = .ok (.new 34, 3)) (fun q46 H hP hD hS => ?_)
  have hP : va_P D classes [(h0, .inr (6, [.ref q7, .ref q13, .ref q24, .ref q35, .null, .null, .int 0, .int 0, .int 0])), (q7, .inl (tc 0, 24, .inl fz)), (q13, .inr (2, [.ref (u17 0), .int 0, .int 0, .int 0])), ((u17 0), .inl (tc 0, 4, .inl fz)), (q24, .inr (3, [.ref (u28 0), .ref (u28 1), .ref (u28 2), .ref (u28 3), .ref (u28 4), .int 0, .int 10])), ((u28 0), .inl (tc 0, 8, .inl fz)), ((u28 1), .inl (tc 1, 8, .inl fz)), ((u28 2), .inl (tc 0, 8, .inl fz)), ((u28 3), .inl (tc 0, 8, .inl fz)), ((u28 4), .inl (tc 0, 8, .inl fz)), (q35, .inr (5, [.ref (u39 0), .int 0, .int 0])), ((u39 0), .inl (tc 0, 56, .inl fz)), (q46, .inr (1, [.null, .null, .int 0, .null, .null, .int 0]))] H := hP
  have hD : va_D A [(h0, .inr (6, [.ref q7, .ref q13, .ref q24, .ref q35, .null, .null, .int 0, .int 0, .int 0])), (q7, .inl (tc 0, 24, .inl fz)), (q13, .inr (2, [.ref (u17 0), .int 0, .int 0, .int 0])), ((u17 0), .inl (tc 0, 4, .inl fz)), (q24, .inr (3, [.ref (u28 0), .ref (u28 1), .ref (u28 2), .ref (u28 3), .ref (u28 4), .int 0, .int 10])), ((u28 0), .inl (tc 0, 8, .inl fz)), ((u28 1), .inl (tc 1, 8, .inl fz)), ((u28 2), .inl (tc 0, 8, .inl fz)), ((u28 3), .inl (tc 0, 8, .inl fz)), ((u28 4), .inl (tc 0, 8, .inl fz)), (q35, .inr (5, [.ref (u39 0), .int 0, .int 0])), ((u39 0), .inl (tc 0, 56, .inl fz)), (q46, .inr (1, [.null, .null, .int 0, .null, .null, .int 0]))] := hD
  refine W.widen (k := 12) (n := 144) (by omega) (by omega) ?_
  refine lv_dup hx hb (by decide +kernel : decode cX6_init 49 = .ok (.dup, 1)) rfl ?_
  have hPc := hP.sub (ws' := [(q46, .inr (1, [.null, .null, .int 0, .null, .null, .int 0]))]) [12] rfl
  have hDc := hD.sub (ws' := [(q46, .inr (1, [.null, .null, .int 0, .null, .null, .int 0]))]) [12] (by decide) rfl
  have hFc := va_free (wc := [(q46, .inr (1, [.null, .null, .int 0, .null, .null, .int 0]))]) hD hS hA [12] rfl
  refine va_callv (va_runIN (As := []) (rest := [.ref q46, .ref h0]) (host := RX6) (index := 36) ⟨hx, hb, hml, hown, hts⟩ (ct_hu_init l D tc q46 H.size) ⟨va_cnB 0 hts (good_c (tw_of 177 (by decide +kernel) rfl)) rfl rfl rfl (hK.2 _ (by simp [nests])) (hts _ (tw_of 77 (by decide +kernel) rfl)) ⟨by decide, by decide, by decide +kernel⟩ ⟨Nat.le_of_ble_eq_true rfl, Nat.le_of_ble_eq_true rfl⟩, rfl, hts _ (tw_of 176 (by decide +kernel) rfl)⟩ ⟨fun a U g mk q => by obtain ⟨q0, q1, qP, qK, qD⟩ := q; exact ⟨q0, q1, qP, qK.called, qD⟩, fun U hU hW => ⟨rfl, by rw [hU], by rw [hU]; exact hPc, hK.moved hW, hDc.weaken (fun _ _ _ _ => trivial)⟩⟩ rfl rfl hl.1 rfl (lv_room (Nat.le_of_ble_eq_true rfl)) (by decide +kernel : decode cX6_init 50 = .ok (.invokespecial 36, 3)) ⟨Nat.le_of_ble_eq_true rfl, Nat.le_of_ble_eq_true rfl⟩) hS (fun q _ h => hFc q h) hFc (fun u t H1 locs ht hvm hw hB hz1 hk1 hS => ?_)
  obtain ⟨u50, rfl⟩ : ∃ z, z = u := ⟨_, rfl⟩
  obtain ⟨hP1, -, hD1⟩ := hB
  rw [ht] at hP1
  obtain ⟨hP, hD⟩ := va_join (wr := [(h0, .inr (6, [.ref q7, .ref q13, .ref q24, .ref q35, .null, .null, .int 0, .int 0, .int 0])), (q7, .inl (tc 0, 24, .inl fz)), (q13, .inr (2, [.ref (u17 0), .int 0, .int 0, .int 0])), ((u17 0), .inl (tc 0, 4, .inl fz)), (q24, .inr (3, [.ref (u28 0), .ref (u28 1), .ref (u28 2), .ref (u28 3), .ref (u28 4), .int 0, .int 10])), ((u28 0), .inl (tc 0, 8, .inl fz)), ((u28 1), .inl (tc 1, 8, .inl fz)), ((u28 2), .inl (tc 0, 8, .inl fz)), ((u28 3), .inl (tc 0, 8, .inl fz)), ((u28 4), .inl (tc 0, 8, .inl fz)), (q35, .inr (5, [.ref (u39 0), .int 0, .int 0])), ((u39 0), .inl (tc 0, 56, .inl fz))]) (w1 := [(q46, .inr (1, [.ref (u50 0), .ref (u50 1), .int 0, .ref (u50 2), .ref (u50 3), .int 0])), ((u50 0), .inl (tc 0, 16, .inl fz)), ((u50 1), .inl (tc 0, 16, .inl fz)), ((u50 2), .inl (tc 0, 16, .inl fz)), ((u50 3), .inl (tc 0, 16, .inl fz))]) hP hD [12] [0, 1, 2, 3, 4, 5, 6, 7, 8, 9, 10, 11] rfl rfl (by decide) (by decide) hk1 hFc hP1 hD1
  generalize H1 = H at hP hS ⊢
  have hP : va_P D classes [(h0, .inr (6, [.ref q7, .ref q13, .ref q24, .ref q35, .null, .null, .int 0, .int 0, .int 0])), (q7, .inl (tc 0, 24, .inl fz)), (q13, .inr (2, [.ref (u17 0), .int 0, .int 0, .int 0])), ((u17 0), .inl (tc 0, 4, .inl fz)), (q24, .inr (3, [.ref (u28 0), .ref (u28 1), .ref (u28 2), .ref (u28 3), .ref (u28 4), .int 0, .int 10])), ((u28 0), .inl (tc 0, 8, .inl fz)), ((u28 1), .inl (tc 1, 8, .inl fz)), ((u28 2), .inl (tc 0, 8, .inl fz)), ((u28 3), .inl (tc 0, 8, .inl fz)), ((u28 4), .inl (tc 0, 8, .inl fz)), (q35, .inr (5, [.ref (u39 0), .int 0, .int 0])), ((u39 0), .inl (tc 0, 56, .inl fz)), (q46, .inr (1, [.ref (u50 0), .ref (u50 1), .int 0, .ref (u50 2), .ref (u50 3), .int 0])), ((u50 0), .inl (tc 0, 16, .inl fz)), ((u50 1), .inl (tc 0, 16, .inl fz)), ((u50 2), .inl (tc 0, 16, .inl fz)), ((u50 3), .inl (tc 0, 16, .inl fz))] H := hP
  have hD : va_D A [(h0, .inr (6, [.ref q7, .ref q13, .ref q24, .ref q35, .null, .null, .int 0, .int 0, .int 0])), (q7, .inl (tc 0, 24, .inl fz)), (q13, .inr (2, [.ref (u17 0), .int 0, .int 0, .int 0])), ((u17 0), .inl (tc 0, 4, .inl fz)), (q24, .inr (3, [.ref (u28 0), .ref (u28 1), .ref (u28 2), .ref (u28 3), .ref (u28 4), .int 0, .int 10])), ((u28 0), .inl (tc 0, 8, .inl fz)), ((u28 1), .inl (tc 1, 8, .inl fz)), ((u28 2), .inl (tc 0, 8, .inl fz)), ((u28 3), .inl (tc 0, 8, .inl fz)), ((u28 4), .inl (tc 0, 8, .inl fz)), (q35, .inr (5, [.ref (u39 0), .int 0, .int 0])), ((u39 0), .inl (tc 0, 56, .inl fz)), (q46, .inr (1, [.ref (u50 0), .ref (u50 1), .int 0, .ref (u50 2), .ref (u50 3), .int 0])), ((u50 0), .inl (tc 0, 16, .inl fz)), ((u50 1), .inl (tc 0, 16, .inl fz)), ((u50 2), .inl (tc 0, 16, .inl fz)), ((u50 3), .inl (tc 0, 16, .inl fz))] := hD
  refine W.widen (k := 16) (n := 208) (by omega) (by omega) ?_
  refine va_putF (D := D) (ci := 6) (v := .ref q46) (ty := .object "ShadowSpans$Hull") (C := RX6) (T := TX6) (N := 9) hx hb hts (lays_tw cl_i6) tyX6 tyX6_ok nmX6 hown hK.1.1 hP hD hS 0 rfl rfl 4 (by decide) (hts _ (tw_of 240 (by decide +kernel) rfl)) (fun _ h9 => h9) rfl hin rfl (by decide +kernel) rfl rfl (Nat.le_of_ble_eq_true rfl) (by decide +kernel : decode cX6_init 53 = .ok (.putfield 37, 3)) (fun H locs hP hD hS => ?_)
  have hP : va_P D classes [(h0, .inr (6, [.ref q7, .ref q13, .ref q24, .ref q35, .ref q46, .null, .int 0, .int 0, .int 0])), (q7, .inl (tc 0, 24, .inl fz)), (q13, .inr (2, [.ref (u17 0), .int 0, .int 0, .int 0])), ((u17 0), .inl (tc 0, 4, .inl fz)), (q24, .inr (3, [.ref (u28 0), .ref (u28 1), .ref (u28 2), .ref (u28 3), .ref (u28 4), .int 0, .int 10])), ((u28 0), .inl (tc 0, 8, .inl fz)), ((u28 1), .inl (tc 1, 8, .inl fz)), ((u28 2), .inl (tc 0, 8, .inl fz)), ((u28 3), .inl (tc 0, 8, .inl fz)), ((u28 4), .inl (tc 0, 8, .inl fz)), (q35, .inr (5, [.ref (u39 0), .int 0, .int 0])), ((u39 0), .inl (tc 0, 56, .inl fz)), (q46, .inr (1, [.ref (u50 0), .ref (u50 1), .int 0, .ref (u50 2), .ref (u50 3), .int 0])), ((u50 0), .inl (tc 0, 16, .inl fz)), ((u50 1), .inl (tc 0, 16, .inl fz)), ((u50 2), .inl (tc 0, 16, .inl fz)), ((u50 3), .inl (tc 0, 16, .inl fz))] H := hP
  have hD : va_D A [(h0, .inr (6, [.ref q7, .ref q13, .ref q24, .ref q35, .ref q46, .null, .int 0, .int 0, .int 0])), (q7, .inl (tc 0, 24, .inl fz)), (q13, .inr (2, [.ref (u17 0), .int 0, .int 0, .int 0])), ((u17 0), .inl (tc 0, 4, .inl fz)), (q24, .inr (3, [.ref (u28 0), .ref (u28 1), .ref (u28 2), .ref (u28 3), .ref (u28 4), .int 0, .int 10])), ((u28 0), .inl (tc 0, 8, .inl fz)), ((u28 1), .inl (tc 1, 8, .inl fz)), ((u28 2), .inl (tc 0, 8, .inl fz)), ((u28 3), .inl (tc 0, 8, .inl fz)), ((u28 4), .inl (tc 0, 8, .inl fz)), (q35, .inr (5, [.ref (u39 0), .int 0, .int 0])), ((u39 0), .inl (tc 0, 56, .inl fz)), (q46, .inr (1, [.ref (u50 0), .ref (u50 1), .int 0, .ref (u50 2), .ref (u50 3), .int 0])), ((u50 0), .inl (tc 0, 16, .inl fz)), ((u50 1), .inl (tc 0, 16, .inl fz)), ((u50 2), .inl (tc 0, 16, .inl fz)), ((u50 3), .inl (tc 0, 16, .inl fz))] := hD
  refine lv_aload_n hx hb (by decide +kernel : decode cX6_init 56 = .ok (.aload_n 0, 1)) rfl (lv_at hl 0 rfl) ?_
  refine va_new (D := D) (ci := 4) (fs := [.null, .null, .int 0]) (C := RX4) (T := TX4) (N := 3) hx hb hts (lays_tw cl_i4) tyX4 tyX4_ok hown (hts _ (tw_of 201 (by decide +kernel) rfl)) (hts _ (tw_of 202 (by decide +kernel) rfl)) (hts _ (tw_of 78 (by decide +kernel) rfl)) hK.1.1 hP hD hS hA rfl (by decide) (Nat.le_of_ble_eq_true rfl) (Nat.le_of_ble_eq_true rfl) (by decide +kernel : decode cX6_init 57 = .ok (.new 41, 3)) (fun q57 H hP hD hS => ?_)
  have hP : va_P D classes [(h0, .inr (6, [.ref q7, .ref q13, .ref q24, .ref q35, .ref q46, .null, .int 0, .int 0, .int 0])), (q7, .inl (tc 0, 24, .inl fz)), (q13, .inr (2, [.ref (u17 0), .int 0, .int 0, .int 0])), ((u17 0), .inl (tc 0, 4, .inl fz)), (q24, .inr (3, [.ref (u28 0), .ref (u28 1), .ref (u28 2), .ref (u28 3), .ref (u28 4), .int 0, .int 10])), ((u28 0), .inl (tc 0, 8, .inl fz)), ((u28 1), .inl (tc 1, 8, .inl fz)), ((u28 2), .inl (tc 0, 8, .inl fz)), ((u28 3), .inl (tc 0, 8, .inl fz)), ((u28 4), .inl (tc 0, 8, .inl fz)), (q35, .inr (5, [.ref (u39 0), .int 0, .int 0])), ((u39 0), .inl (tc 0, 56, .inl fz)), (q46, .inr (1, [.ref (u50 0), .ref (u50 1), .int 0, .ref (u50 2), .ref (u50 3), .int 0])), ((u50 0), .inl (tc 0, 16, .inl fz)), ((u50 1), .inl (tc 0, 16, .inl fz)), ((u50 2), .inl (tc 0, 16, .inl fz)), ((u50 3), .inl (tc 0, 16, .inl fz)), (q57, .inr (4, [.null, .null, .int 0]))] H := hP
  have hD : va_D A [(h0, .inr (6, [.ref q7, .ref q13, .ref q24, .ref q35, .ref q46, .null, .int 0, .int 0, .int 0])), (q7, .inl (tc 0, 24, .inl fz)), (q13, .inr (2, [.ref (u17 0), .int 0, .int 0, .int 0])), ((u17 0), .inl (tc 0, 4, .inl fz)), (q24, .inr (3, [.ref (u28 0), .ref (u28 1), .ref (u28 2), .ref (u28 3), .ref (u28 4), .int 0, .int 10])), ((u28 0), .inl (tc 0, 8, .inl fz)), ((u28 1), .inl (tc 1, 8, .inl fz)), ((u28 2), .inl (tc 0, 8, .inl fz)), ((u28 3), .inl (tc 0, 8, .inl fz)), ((u28 4), .inl (tc 0, 8, .inl fz)), (q35, .inr (5, [.ref (u39 0), .int 0, .int 0])), ((u39 0), .inl (tc 0, 56, .inl fz)), (q46, .inr (1, [.ref (u50 0), .ref (u50 1), .int 0, .ref (u50 2), .ref (u50 3), .int 0])), ((u50 0), .inl (tc 0, 16, .inl fz)), ((u50 1), .inl (tc 0, 16, .inl fz)), ((u50 2), .inl (tc 0, 16, .inl fz)), ((u50 3), .inl (tc 0, 16, .inl fz)), (q57, .inr (4, [.null, .null, .int 0]))] := hD
  refine W.widen (k := 17) (n := 211) (by omega) (by omega) ?_
  refine lv_dup hx hb (by decide +kernel : decode cX6_init 60 = .ok (.dup, 1)) rfl ?_
  have hPc := hP.sub (ws' := [(q57, .inr (4, [.null, .null, .int 0]))]) [17] rfl
  have hDc := hD.sub (ws' := [(q57, .inr (4, [.null, .null, .int 0]))]) [17] (by decide) rfl
  have hFc := va_free (wc := [(q57, .inr (4, [.null, .null, .int 0]))]) hD hS hA [17] rfl
  refine va_callv (va_runIN (As := []) (rest := [.ref q57, .ref h0]) (host := RX6) (index := 43) ⟨hx, hb, hml, hown, hts⟩ (ct_sp_init l D tc q57 H.size) ⟨va_cnB 0 hts (good_c (tw_of 205 (by decide +kernel) rfl)) rfl rfl rfl (hK.2 _ (by simp [nests])) (hts _ (tw_of 78 (by decide +kernel) rfl)) ⟨by decide, by decide, by decide +kernel⟩ ⟨Nat.le_of_ble_eq_true rfl, Nat.le_of_ble_eq_true rfl⟩, rfl, hts _ (tw_of 204 (by decide +kernel) rfl)⟩ ⟨fun a U g mk q => by obtain ⟨q0, q1, qP, qK, qD⟩ := q; exact ⟨q0, q1, qP, qK.called, qD⟩, fun U hU hW => ⟨rfl, by rw [hU], by rw [hU]; exact hPc, hK.moved hW, hDc.weaken (fun _ _ _ _ => trivial)⟩⟩ rfl rfl hl.1 rfl (lv_room (Nat.le_of_ble_eq_true rfl)) (by decide +kernel : decode cX6_init 61 = .ok (.invokespecial 43, 3)) ⟨Nat.le_of_ble_eq_true rfl, Nat.le_of_ble_eq_true rfl⟩) hS (fun q _ h => hFc q h) hFc (fun u t H1 locs ht hvm hw hB hz1 hk1 hS => ?_)
  obtain ⟨u61, rfl⟩ : ∃ z, z = u := ⟨_, rfl⟩
  obtain ⟨hP1, -, hD1⟩ := hB
  rw [ht] at hP1
  obtain ⟨hP, hD⟩ := va_join (wr := [(h0, .inr (6, [.ref q7, .ref q13, .ref q24, .ref q35, .ref q46, .null, .int 0, .int 0, .int 0])), (q7, .inl (tc 0, 24, .inl fz)), (q13, .inr (2, [.ref (u17 0), .int 0, .int 0, .int 0])), ((u17 0), .inl (tc 0, 4, .inl fz)), (q24, .inr (3, [.ref (u28 0), .ref (u28 1), .ref (u28 2), .ref (u28 3), .ref (u28 4), .int 0, .int 10])), ((u28 0), .inl (tc 0, 8, .inl fz)), ((u28 1), .inl (tc 1, 8, .inl fz)), ((u28 2), .inl (tc 0, 8, .inl fz)), ((u28 3), .inl (tc 0, 8, .inl fz)), ((u28 4), .inl (tc 0, 8, .inl fz)), (q35, .inr (5, [.ref (u39 0), .int 0, .int 0])), ((u39 0), .inl (tc 0, 56, .inl fz)), (q46, .inr (1, [.ref (u50 0), .ref (u50 1), .int 0, .ref (u50 2), .ref (u50 3), .int 0])), ((u50 0), .inl (tc 0, 16, .inl fz)), ((u50 1), .inl (tc 0, 16, .inl fz)), ((u50 2), .inl (tc 0, 16, .inl fz)), ((u50 3), .inl (tc 0, 16, .inl fz))]) (w1 := [(q57, .inr (4, [.ref (u61 0), .ref (u61 1), .int 0])), ((u61 0), .inr (0, [.int 0, .long 0, .long 0])), ((u61 1), .inr (0, [.int 0, .long 0, .long 0]))]) hP hD [17] [0, 1, 2, 3, 4, 5, 6, 7, 8, 9, 10, 11, 12, 13, 14, 15, 16] rfl rfl (by decide) (by decide) hk1 hFc hP1 hD1
  generalize H1 = H at hP hS ⊢
  have hP : va_P D classes [(h0, .inr (6, [.ref q7, .ref q13, .ref q24, .ref q35, .ref q46, .null, .int 0, .int 0, .int 0])), (q7, .inl (tc 0, 24, .inl fz)), (q13, .inr (2, [.ref (u17 0), .int 0, .int 0, .int 0])), ((u17 0), .inl (tc 0, 4, .inl fz)), (q24, .inr (3, [.ref (u28 0), .ref (u28 1), .ref (u28 2), .ref (u28 3), .ref (u28 4), .int 0, .int 10])), ((u28 0), .inl (tc 0, 8, .inl fz)), ((u28 1), .inl (tc 1, 8, .inl fz)), ((u28 2), .inl (tc 0, 8, .inl fz)), ((u28 3), .inl (tc 0, 8, .inl fz)), ((u28 4), .inl (tc 0, 8, .inl fz)), (q35, .inr (5, [.ref (u39 0), .int 0, .int 0])), ((u39 0), .inl (tc 0, 56, .inl fz)), (q46, .inr (1, [.ref (u50 0), .ref (u50 1), .int 0, .ref (u50 2), .ref (u50 3), .int 0])), ((u50 0), .inl (tc 0, 16, .inl fz)), ((u50 1), .inl (tc 0, 16, .inl fz)), ((u50 2), .inl (tc 0, 16, .inl fz)), ((u50 3), .inl (tc 0, 16, .inl fz)), (q57, .inr (4, [.ref (u61 0), .ref (u61 1), .int 0])), ((u61 0), .inr (0, [.int 0, .long 0, .long 0])), ((u61 1), .inr (0, [.int 0, .long 0, .long 0]))] H := hP
  have hD : va_D A [(h0, .inr (6, [.ref q7, .ref q13, .ref q24, .ref q35, .ref q46, .null, .int 0, .int 0, .int 0])), (q7, .inl (tc 0, 24, .inl fz)), (q13, .inr (2, [.ref (u17 0), .int 0, .int 0, .int 0])), ((u17 0), .inl (tc 0, 4, .inl fz)), (q24, .inr (3, [.ref (u28 0), .ref (u28 1), .ref (u28 2), .ref (u28 3), .ref (u28 4), .int 0, .int 10])), ((u28 0), .inl (tc 0, 8, .inl fz)), ((u28 1), .inl (tc 1, 8, .inl fz)), ((u28 2), .inl (tc 0, 8, .inl fz)), ((u28 3), .inl (tc 0, 8, .inl fz)), ((u28 4), .inl (tc 0, 8, .inl fz)), (q35, .inr (5, [.ref (u39 0), .int 0, .int 0])), ((u39 0), .inl (tc 0, 56, .inl fz)), (q46, .inr (1, [.ref (u50 0), .ref (u50 1), .int 0, .ref (u50 2), .ref (u50 3), .int 0])), ((u50 0), .inl (tc 0, 16, .inl fz)), ((u50 1), .inl (tc 0, 16, .inl fz)), ((u50 2), .inl (tc 0, 16, .inl fz)), ((u50 3), .inl (tc 0, 16, .inl fz)), (q57, .inr (4, [.ref (u61 0), .ref (u61 1), .int 0])), ((u61 0), .inr (0, [.int 0, .long 0, .long 0])), ((u61 1), .inr (0, [.int 0, .long 0, .long 0]))] := hD
  refine W.widen (k := 19) (n := 217) (by omega) (by omega) ?_
  refine va_putF (D := D) (ci := 6) (v := .ref q57) (ty := .object "ShadowSpans$Span") (C := RX6) (T := TX6) (N := 9) hx hb hts (lays_tw cl_i6) tyX6 tyX6_ok nmX6 hown hK.1.1 hP hD hS 0 rfl rfl 5 (by decide) (hts _ (tw_of 241 (by decide +kernel) rfl)) (fun _ h9 => h9) rfl hin rfl (by decide +kernel) rfl rfl (Nat.le_of_ble_eq_true rfl) (by decide +kernel : decode cX6_init 64 = .ok (.putfield 44, 3)) (fun H locs hP hD hS => ?_)
  have hP : va_P D classes [(h0, .inr (6, [.ref q7, .ref q13, .ref q24, .ref q35, .ref q46, .ref q57, .int 0, .int 0, .int 0])), (q7, .inl (tc 0, 24, .inl fz)), (q13, .inr (2, [.ref (u17 0), .int 0, .int 0, .int 0])), ((u17 0), .inl (tc 0, 4, .inl fz)), (q24, .inr (3, [.ref (u28 0), .ref (u28 1), .ref (u28 2), .ref (u28 3), .ref (u28 4), .int 0, .int 10])), ((u28 0), .inl (tc 0, 8, .inl fz)), ((u28 1), .inl (tc 1, 8, .inl fz)), ((u28 2), .inl (tc 0, 8, .inl fz)), ((u28 3), .inl (tc 0, 8, .inl fz)), ((u28 4), .inl (tc 0, 8, .inl fz)), (q35, .inr (5, [.ref (u39 0), .int 0, .int 0])), ((u39 0), .inl (tc 0, 56, .inl fz)), (q46, .inr (1, [.ref (u50 0), .ref (u50 1), .int 0, .ref (u50 2), .ref (u50 3), .int 0])), ((u50 0), .inl (tc 0, 16, .inl fz)), ((u50 1), .inl (tc 0, 16, .inl fz)), ((u50 2), .inl (tc 0, 16, .inl fz)), ((u50 3), .inl (tc 0, 16, .inl fz)), (q57, .inr (4, [.ref (u61 0), .ref (u61 1), .int 0])), ((u61 0), .inr (0, [.int 0, .long 0, .long 0])), ((u61 1), .inr (0, [.int 0, .long 0, .long 0]))] H := hP
  have hD : va_D A [(h0, .inr (6, [.ref q7, .ref q13, .ref q24, .ref q35, .ref q46, .ref q57, .int 0, .int 0, .int 0])), (q7, .inl (tc 0, 24, .inl fz)), (q13, .inr (2, [.ref (u17 0), .int 0, .int 0, .int 0])), ((u17 0), .inl (tc 0, 4, .inl fz)), (q24, .inr (3, [.ref (u28 0), .ref (u28 1), .ref (u28 2), .ref (u28 3), .ref (u28 4), .int 0, .int 10])), ((u28 0), .inl (tc 0, 8, .inl fz)), ((u28 1), .inl (tc 1, 8, .inl fz)), ((u28 2), .inl (tc 0, 8, .inl fz)), ((u28 3), .inl (tc 0, 8, .inl fz)), ((u28 4), .inl (tc 0, 8, .inl fz)), (q35, .inr (5, [.ref (u39 0), .int 0, .int 0])), ((u39 0), .inl (tc 0, 56, .inl fz)), (q46, .inr (1, [.ref (u50 0), .ref (u50 1), .int 0, .ref (u50 2), .ref (u50 3), .int 0])), ((u50 0), .inl (tc 0, 16, .inl fz)), ((u50 1), .inl (tc 0, 16, .inl fz)), ((u50 2), .inl (tc 0, 16, .inl fz)), ((u50 3), .inl (tc 0, 16, .inl fz)), (q57, .inr (4, [.ref (u61 0), .ref (u61 1), .int 0])), ((u61 0), .inr (0, [.int 0, .long 0, .long 0])), ((u61 1), .inr (0, [.int 0, .long 0, .long 0]))] := hD
  exact W.vret hx hb hr (fun t ht hW => ⟨⟨(fun i => match i with | 0 => q7 | 1 => q13 | 2 => (u17 0) | 3 => q24 | 4 => (u28 0) | 5 => (u28 1) | 6 => (u28 2) | 7 => (u28 3) | 8 => (u28 4) | 9 => q35 | 10 => (u39 0) | 11 => q46 | 12 => (u50 0) | 13 => (u50 1) | 14 => (u50 2) | 15 => (u50 3) | 16 => q57 | 17 => (u61 0) | 18 => (u61 1) | _ => 0), rfl, trivial, by rw [ht]; exact hP, hK.moved hW, hD⟩, hS.F ht⟩) hS.2.2 (by decide +kernel : decode cX6_init 67 = .ok (.return_, 1))
def w_ct_mo_init (tc : Nat → ClassId) (h0 : Nat) (q : Nat → Nat) : va_W := [(h0, .inr (7, [.int 0, .ref (q 0), .int 0, .ref (q 1), .ref (q 2), .ref (q 3), .ref (q 4), .ref (q 5), .int 10, .int 0, .int 0, .int 0, .ref (q 6), .int 0, .int 0, .int 0, .int 0, .ref (q 7), .ref (q 8), .int 0, .ref (q 9), .int 0, .long 0, .long 0, .long 0])), ((q 0), .inl (tc 0, 24, .inl fz)), ((q 1), .inl (tc 0, 8, .inl fz)), ((q 2), .inl (tc 1, 8, .inl fz)), ((q 3), .inl (tc 0, 8, .inl fz)), ((q 4), .inl (tc 0, 8, .inl fz)), ((q 5), .inl (tc 0, 8, .inl fz)), ((q 6), .inl (tc 0, 4, .inl fz)), ((q 7), .inl (tc 2, 16, .inr (.inl gz))), ((q 8), .inl (tc 2, 16, .inr (.inl gz))), ((q 9), .inl (tc 0, 17, .inl fz))]
set_option maxHeartbeats 4000000 in
set_option maxRecDepth 100000 in
theorem ct_mo_init : CtI yX7_init cX7_init { frames := 1, cells := 10, slots := 117, locals := 12 } 10 117 7 [.int 0, .null, .int 0, .null, .null, .null, .null, .null, .int 0, .int 0, .int 0, .int 0, .null, .int 0, .int 0, .int 0, .int 0, .null, .null, .int 0, .null, .int 0, .long 0, .long 0, .long 0] w_ct_mo_init := by
  intro l D tc h0 sz
  refine Met.ofW (cc := cX7_init) (maxL := 1) (ret := none) (by decide) rfl ?_
  intro p e s m args below meth c s₁ B hml hv
  obtain ⟨rfl, hsz, hP, hK, hD0⟩ := hv
  have hx := B.exec
  have hb := B.bytes
  have hr := B.returns
  have hts : ∀ w ∈ tw, w.before _ s = true := fun w hw => atoms_spec (ws := .code yX7_init cX7_init 1 none :: tw) B.pre w (List.mem_cons_of_mem _ hw)
  have hown : s.vm.findClass RX7 = some m.cls := findClass_of_methodNamed B.named
  have hlocks := B.notSynchronized
  have hin : meth.name = "<init>" := (name_of_methodNamed B.named B.method).1
  subst hsz
  have hD := hD0.self (sz := s.heap.size)
  generalize hAe : va_A [(h0, .inr (7, [.int 0, .null, .int 0, .null, .null, .null, .null, .null, .int 0, .int 0, .int 0, .int 0, .null, .int 0, .int 0, .int 0, .int 0, .null, .null, .int 0, .null, .int 0, .long 0, .long 0, .long 0]))] s.heap.size = A at hD ⊢
  have hA : ∀ q : Nat, s.heap.size ≤ q → A q := fun q h => by rw [← hAe]; exact Or.inr h
  have hS : va_S A s.heap s.heap [] := va_S.rf
  have hP : va_P D classes [(h0, .inr (7, [.int 0, .null, .int 0, .null, .null, .null, .null, .null, .int 0, .int 0, .int 0, .int 0, .null, .int 0, .int 0, .int 0, .int 0, .null, .null, .int 0, .null, .int 0, .long 0, .long 0, .long 0]))] s.heap := hP
  have hl := lv_entry ([.ref h0]) (n := 1) (Nat.le_of_ble_eq_true rfl)
  rw [lg_entry_eq]
  generalize (lg_sl ([.ref h0]) ++ List.replicate (1 - (lg_sl ([.ref h0])).length) Slot.unset).toArray = ls at hl ⊢
  have hl : lv_has ls 1 [(0, .ref h0)] := hl
  refine lv_aload_n hx hb (by decide +kernel : decode cX7_init 0 = .ok (.aload_n 0, 1)) rfl (lv_at hl 0 rfl) ?_
  refine W.objInit hx hb hown (hts _ (tw_of 651 (by decide +kernel) rfl)) (hts _ (tw_of 89 (by decide +kernel) rfl)) (hts _ (tw_of 90 (by decide +kernel) rfl)) rfl (by rw [hml]; exact hl.1) rfl (by decide +kernel : decode cX7_init 1 = .ok (.invokespecial 1, 3)) (Nat.le_of_ble_eq_true rfl) (Nat.le_of_ble_eq_true rfl) ?_
  refine W.eq (g2 := F0 m 4 ls []) rfl ?_
  refine lv_aload_n hx hb (by decide +kernel : decode cX7_init 4 = .ok (.aload_n 0, 1)) rfl (lv_at hl 0 rfl) ?_
  refine lv_bipush (v := 24) hx hb (by decide +kernel : decode cX7_init 5 = .ok (.bipush 24, 2)) rfl ?_
  refine va_newT (D := D) (tc := tc) (atype := .int) (ty := .int) (N' := 24) (a0 := (24, .inl fz)) hx hb 0 (by decide) (hts _ (tw_of 110 (by decide +kernel) rfl)) rfl hK.1.1 hP hD hS hA (fun cA => rfl) (by decide) (by decide) (by decide) (Nat.le_of_ble_eq_true rfl) (Nat.le_of_ble_eq_true rfl) (by decide +kernel : decode cX7_init 7 = .ok (.newarray .int, 2)) (fun q7 H hP hD hS => ?_)
  have hP : va_P D classes [(h0, .inr (7, [.int 0, .null, .int 0, .null, .null, .null, .null, .null, .int 0, .int 0, .int 0, .int 0, .null, .int 0, .int 0, .int 0, .int 0, .null, .null, .int 0, .null, .int 0, .long 0, .long 0, .long 0])), (q7, .inl (tc 0, 24, .inl fz))] H := hP
  have hD : va_D A [(h0, .inr (7, [.int 0, .null, .int 0, .null, .null, .null, .null, .null, .int 0, .int 0, .int 0, .int 0, .null, .int 0, .int 0, .int 0, .int 0, .null, .null, .int 0, .null, .int 0, .long 0, .long 0, .long 0])), (q7, .inl (tc 0, 24, .inl fz))] := hD
  refine W.widen (k := 1) (n := 24) (by omega) (by omega) ?_
  refine va_putF (D := D) (ci := 7) (v := .ref q7) (ty := .array .int) (C := RX7) (T := TX7) (N := 25) hx hb hts (lays_tw cl_i7) tyX7 tyX7_ok nmX7 hown hK.1.1 hP hD hS 0 rfl rfl 1 (by decide) (hts _ (tw_of 653 (by decide +kernel) rfl)) (fun _ h9 => h9) rfl hin rfl (by decide +kernel) rfl rfl (Nat.le_of_ble_eq_true rfl) (by decide +kernel : decode cX7_init 9 = .ok (.putfield 7, 3)) (fun H locs hP hD hS => ?_)
  have hP : va_P D classes [(h0, .inr (7, [.int 0, .ref q7, .int 0, .null, .null, .null, .null, .null, .int 0, .int 0, .int 0, .int 0, .null, .int 0, .int 0, .int 0, .int 0, .null, .null, .int 0, .null, .int 0, .long 0, .long 0, .long 0])), (q7, .inl (tc 0, 24, .inl fz))] H := hP
  have hD : va_D A [(h0, .inr (7, [.int 0, .ref q7, .int 0, .null, .null, .null, .null, .null, .int 0, .int 0, .int 0, .int 0, .null, .int 0, .int 0, .int 0, .int 0, .null, .null, .int 0, .null, .int 0, .long 0, .long 0, .long 0])), (q7, .inl (tc 0, 24, .inl fz))] := hD
  refine lv_aload_n hx hb (by decide +kernel : decode cX7_init 12 = .ok (.aload_n 0, 1)) rfl (lv_at hl 0 rfl) ?_
  refine lv_bipush (v := 8) hx hb (by decide +kernel : decode cX7_init 13 = .ok (.bipush 8, 2)) rfl ?_
  refine va_newT (D := D) (tc := tc) (atype := .int) (ty := .int) (N' := 8) (a0 := (8, .inl fz)) hx hb 0 (by decide) (hts _ (tw_of 110 (by decide +kernel) rfl)) rfl hK.1.1 hP hD hS hA (fun cA => rfl) (by decide) (by decide) (by decide) (Nat.le_of_ble_eq_true rfl) (Nat.le_of_ble_eq_true rfl) (by decide +kernel : decode cX7_init 15 = .ok (.newarray .int, 2)) (fun q15 H hP hD hS => ?_)
  have hP : va_P D classes [(h0, .inr (7, [.int 0, .ref q7, .int 0, .null, .null, .null, .null, .null, .int 0, .int 0, .int 0, .int 0, .null, .int 0, .int 0, .int 0, .int 0, .null, .null, .int 0, .null, .int 0, .long 0, .long 0, .long 0])), (q7, .inl (tc 0, 24, .inl fz)), (q15, .inl (tc 0, 8, .inl fz))] H := hP
  have hD : va_D A [(h0, .inr (7, [.int 0, .ref q7, .int 0, .null, .null, .null, .null, .null, .int 0, .int 0, .int 0, .int 0, .null, .int 0, .int 0, .int 0, .int 0, .null, .null, .int 0, .null, .int 0, .long 0, .long 0, .long 0])), (q7, .inl (tc 0, 24, .inl fz)), (q15, .inl (tc 0, 8, .inl fz))] := hD
  refine W.widen (k := 2) (n := 32) (by omega) (by omega) ?_
  refine va_putF (D := D) (ci := 7) (v := .ref q15) (ty := .array .int) (C := RX7) (T := TX7) (N := 25) hx hb hts (lays_tw cl_i7) tyX7 tyX7_ok nmX7 hown hK.1.1 hP hD hS 0 rfl rfl 3 (by decide) (hts _ (tw_of 655 (by decide +kernel) rfl)) (fun _ h9 => h9) rfl hin rfl (by decide +kernel) rfl rfl (Nat.le_of_ble_eq_true rfl) (by decide +kernel : decode cX7_init 17 = .ok (.putfield 13, 3)) (fun H locs hP hD hS => ?_)
  have hP : va_P D classes [(h0, .inr (7, [.int 0, .ref q7, .int 0, .ref q15, .null, .null, .null, .null, .int 0, .int 0, .int 0, .int 0, .null, .int 0, .int 0, .int 0, .int 0, .null, .null, .int 0, .null, .int 0, .long 0, .long 0, .long 0])), (q7, .inl (tc 0, 24, .inl fz)), (q15, .inl (tc 0, 8, .inl fz))] H := hP
  have hD : va_D A [(h0, .inr (7, [.int 0, .ref q7, .int 0, .ref q15, .null, .null, .null, .null, .int 0, .int 0, .int 0, .int 0, .null, .int 0, .int 0, .int 0, .int 0, .null, .null, .int 0, .null, .int 0, .long 0, .long 0, .long 0])), (q7, .inl (tc 0, 24, .inl fz)), (q15, .inl (tc 0, 8, .inl fz))] := hD
  refine lv_aload_n hx hb (by decide +kernel : decode cX7_init 20 = .ok (.aload_n 0, 1)) rfl (lv_at hl 0 rfl) ?_
  refine lv_bipush (v := 8) hx hb (by decide +kernel : decode cX7_init 21 = .ok (.bipush 8, 2)) rfl ?_
  refine va_newT (D := D) (tc := tc) (atype := .boolean) (ty := .boolean) (N' := 8) (a0 := (8, .inl fz)) hx hb 1 (by decide) (hts _ (tw_of 155 (by decide +kernel) rfl)) rfl hK.1.1 hP hD hS hA (fun cA => rfl) (by decide) (by decide) (by decide) (Nat.le_of_ble_eq_true rfl) (Nat.le_of_ble_eq_true rfl) (by decide +kernel : decode cX7_init 23 = .ok (.newarray .boolean, 2)) (fun q23 H hP hD hS => ?_)
  have hP : va_P D classes [(h0, .inr (7, [.int 0, .ref q7, .int 0, .ref q15, .null, .null, .null, .null, .int 0, .int 0, .int 0, .int 0, .null, .int 0, .int 0, .int 0, .int 0, .null, .null, .int 0, .null, .int 0, .long 0, .long 0, .long 0])), (q7, .inl (tc 0, 24, .inl fz)), (q15, .inl (tc 0, 8, .inl fz)), (q23, .inl (tc 1, 8, .inl fz))] H := hP
  have hD : va_D A [(h0, .inr (7, [.int 0, .ref q7, .int 0, .ref q15, .null, .null, .null, .null, .int 0, .int 0, .int 0, .int 0, .null, .int 0, .int 0, .int 0, .int 0, .null, .null, .int 0, .null, .int 0, .long 0, .long 0, .long 0])), (q7, .inl (tc 0, 24, .inl fz)), (q15, .inl (tc 0, 8, .inl fz)), (q23, .inl (tc 1, 8, .inl fz))] := hD
  refine W.widen (k := 3) (n := 40) (by omega) (by omega) ?_
  refine va_putF (D := D) (ci := 7) (v := .ref q23) (ty := .array .boolean) (C := RX7) (T := TX7) (N := 25) hx hb hts (lays_tw cl_i7) tyX7 tyX7_ok nmX7 hown hK.1.1 hP hD hS 0 rfl rfl 4 (by decide) (hts _ (tw_of 656 (by decide +kernel) rfl)) (fun _ h9 => h9) rfl hin rfl (by decide +kernel) rfl rfl (Nat.le_of_ble_eq_true rfl) (by decide +kernel : decode cX7_init 25 = .ok (.putfield 16, 3)) (fun H locs hP hD hS => ?_)
  have hP : va_P D classes [(h0, .inr (7, [.int 0, .ref q7, .int 0, .ref q15, .ref q23, .null, .null, .null, .int 0, .int 0, .int 0, .int 0, .null, .int 0, .int 0, .int 0, .int 0, .null, .null, .int 0, .null, .int 0, .long 0, .long 0, .long 0])), (q7, .inl (tc 0, 24, .inl fz)), (q15, .inl (tc 0, 8, .inl fz)), (q23, .inl (tc 1, 8, .inl fz))] H := hP
  have hD : va_D A [(h0, .inr (7, [.int 0, .ref q7, .int 0, .ref q15, .ref q23, .null, .null, .null, .int 0, .int 0, .int 0, .int 0, .null, .int 0, .int 0, .int 0, .int 0, .null, .null, .int 0, .null, .int 0, .long 0, .long 0, .long 0])), (q7, .inl (tc 0, 24, .inl fz)), (q15, .inl (tc 0, 8, .inl fz)), (q23, .inl (tc 1, 8, .inl fz))] := hD
  refine lv_aload_n hx hb (by decide +kernel : decode cX7_init 28 = .ok (.aload_n 0, 1)) rfl (lv_at hl 0 rfl) ?_
  refine lv_bipush (v := 8) hx hb (by decide +kernel : decode cX7_init 29 = .ok (.bipush 8, 2)) rfl ?_
  refine va_newT (D := D) (tc := tc) (atype := .int) (ty := .int) (N' := 8) (a0 := (8, .inl fz)) hx hb 0 (by decide) (hts _ (tw_of 110 (by decide +kernel) rfl)) rfl hK.1.1 hP hD hS hA (fun cA => rfl) (by decide) (by decide) (by decide) (Nat.le_of_ble_eq_true rfl) (Nat.le_of_ble_eq_true rfl) (by decide +kernel : decode cX7_init 31 = .ok (.newarray .int, 2)) (fun q31 H hP hD hS => ?_)
  have hP : va_P D classes [(h0, .inr (7, [.int 0, .ref q7, .int 0, .ref q15, .ref q23, .null, .null, .null, .int 0, .int 0, .int 0, .int 0, .null, .int 0, .int 0, .int 0, .int 0, .null, .null, .int 0, .null, .int 0, .long 0, .long 0, .long 0])), (q7, .inl (tc 0, 24, .inl fz)), (q15, .inl (tc 0, 8, .inl fz)), (q23, .inl (tc 1, 8, .inl fz)), (q31, .inl (tc 0, 8, .inl fz))] H := hP
  have hD : va_D A [(h0, .inr (7, [.int 0, .ref q7, .int 0, .ref q15, .ref q23, .null, .null, .null, .int 0, .int 0, .int 0, .int 0, .null, .int 0, .int 0, .int 0, .int 0, .null, .null, .int 0, .null, .int 0, .long 0, .long 0, .long 0])), (q7, .inl (tc 0, 24, .inl fz)), (q15, .inl (tc 0, 8, .inl fz)), (q23, .inl (tc 1, 8, .inl fz)), (q31, .inl (tc 0, 8, .inl fz))] := hD
  refine W.widen (k := 4) (n := 48) (by omega) (by omega) ?_
  refine va_putF (D := D) (ci := 7) (v := .ref q31) (ty := .array .int) (C := RX7) (T := TX7) (N := 25) hx hb hts (lays_tw cl_i7) tyX7 tyX7_ok nmX7 hown hK.1.1 hP hD hS 0 rfl rfl 5 (by decide) (hts _ (tw_of 657 (by decide +kernel) rfl)) (fun _ h9 => h9) rfl hin rfl (by decide +kernel) rfl rfl (Nat.le_of_ble_eq_true rfl) (by decide +kernel : decode cX7_init 33 = .ok (.putfield 20, 3)) (fun H locs hP hD hS => ?_)
  have hP : va_P D classes [(h0, .inr (7, [.int 0, .ref q7, .int 0, .ref q15, .ref q23, .ref q31, .null, .null, .int 0, .int 0, .int 0, .int 0, .null, .int 0, .int 0, .int 0, .int 0, .null, .null, .int 0, .null, .int 0, .long 0, .long 0, .long 0])), (q7, .inl (tc 0, 24, .inl fz)), (q15, .inl (tc 0, 8, .inl fz)), (q23, .inl (tc 1, 8, .inl fz)), (q31, .inl (tc 0, 8, .inl fz))] H := hP
  have hD : va_D A [(h0, .inr (7, [.int 0, .ref q7, .int 0, .ref q15, .ref q23, .ref q31, .null, .null, .int 0, .int 0, .int 0, .int 0, .null, .int 0, .int 0, .int 0, .int 0, .null, .null, .int 0, .null, .int 0, .long 0, .long 0, .long 0])), (q7, .inl (tc 0, 24, .inl fz)), (q15, .inl (tc 0, 8, .inl fz)), (q23, .inl (tc 1, 8, .inl fz)), (q31, .inl (tc 0, 8, .inl fz))] := hD
  refine lv_aload_n hx hb (by decide +kernel : decode cX7_init 36 = .ok (.aload_n 0, 1)) rfl (lv_at hl 0 rfl) ?_
  refine lv_bipush (v := 8) hx hb (by decide +kernel : decode cX7_init 37 = .ok (.bipush 8, 2)) rfl ?_
  refine va_newT (D := D) (tc := tc) (atype := .int) (ty := .int) (N' := 8) (a0 := (8, .inl fz)) hx hb 0 (by decide) (hts _ (tw_of 110 (by decide +kernel) rfl)) rfl hK.1.1 hP hD hS hA (fun cA => rfl) (by decide) (by decide) (by decide) (Nat.le_of_ble_eq_true rfl) (Nat.le_of_ble_eq_true rfl) (by decide +kernel : decode cX7_init 39 = .ok (.newarray .int, 2)) (fun q39 H hP hD hS => ?_)
  have hP : va_P D classes [(h0, .inr (7, [.int 0, .ref q7, .int 0, .ref q15, .ref q23, .ref q31, .null, .null, .int 0, .int 0, .int 0, .int 0, .null, .int 0, .int 0, .int 0, .int 0, .null, .null, .int 0, .null, .int 0, .long 0, .long 0, .long 0])), (q7, .inl (tc 0, 24, .inl fz)), (q15, .inl (tc 0, 8, .inl fz)), (q23, .inl (tc 1, 8, .inl fz)), (q31, .inl (tc 0, 8, .inl fz)), (q39, .inl (tc 0, 8, .inl fz))] H := hP
  have hD : va_D A [(h0, .inr (7, [.int 0, .ref q7, .int 0, .ref q15, .ref q23, .ref q31, .null, .null, .int 0, .int 0, .int 0, .int 0, .null, .int 0, .int 0, .int 0, .int 0, .null, .null, .int 0, .null, .int 0, .long 0, .long 0, .long 0])), (q7, .inl (tc 0, 24, .inl fz)), (q15, .inl (tc 0, 8, .inl fz)), (q23, .inl (tc 1, 8, .inl fz)), (q31, .inl (tc 0, 8, .inl fz)), (q39, .inl (tc 0, 8, .inl fz))] := hD
  refine W.widen (k := 5) (n := 56) (by omega) (by omega) ?_
  refine va_putF (D := D) (ci := 7) (v := .ref q39) (ty := .array .int) (C := RX7) (T := TX7) (N := 25) hx hb hts (lays_tw cl_i7) tyX7 tyX7_ok nmX7 hown hK.1.1 hP hD hS 0 rfl rfl 6 (by decide) (hts _ (tw_of 658 (by decide +kernel) rfl)) (fun _ h9 => h9) rfl hin rfl (by decide +kernel) rfl rfl (Nat.le_of_ble_eq_true rfl) (by decide +kernel : decode cX7_init 41 = .ok (.putfield 23, 3)) (fun H locs hP hD hS => ?_)
  have hP : va_P D classes [(h0, .inr (7, [.int 0, .ref q7, .int 0, .ref q15, .ref q23, .ref q31, .ref q39, .null, .int 0, .int 0, .int 0, .int 0, .null, .int 0, .int 0, .int 0, .int 0, .null, .null, .int 0, .null, .int 0, .long 0, .long 0, .long 0])), (q7, .inl (tc 0, 24, .inl fz)), (q15, .inl (tc 0, 8, .inl fz)), (q23, .inl (tc 1, 8, .inl fz)), (q31, .inl (tc 0, 8, .inl fz)), (q39, .inl (tc 0, 8, .inl fz))] H := hP
  have hD : va_D A [(h0, .inr (7, [.int 0, .ref q7, .int 0, .ref q15, .ref q23, .ref q31, .ref q39, .null, .int 0, .int 0, .int 0, .int 0, .null, .int 0, .int 0, .int 0, .int 0, .null, .null, .int 0, .null, .int 0, .long 0, .long 0, .long 0])), (q7, .inl (tc 0, 24, .inl fz)), (q15, .inl (tc 0, 8, .inl fz)), (q23, .inl (tc 1, 8, .inl fz)), (q31, .inl (tc 0, 8, .inl fz)), (q39, .inl (tc 0, 8, .inl fz))] := hD
  refine lv_aload_n hx hb (by decide +kernel : decode cX7_init 44 = .ok (.aload_n 0, 1)) rfl (lv_at hl 0 rfl) ?_
  refine lv_bipush (v := 8) hx hb (by decide +kernel : decode cX7_init 45 = .ok (.bipush 8, 2)) rfl ?_
  refine va_newT (D := D) (tc := tc) (atype := .int) (ty := .int) (N' := 8) (a0 := (8, .inl fz)) hx hb 0 (by decide) (hts _ (tw_of 110 (by decide +kernel) rfl)) rfl hK.1.1 hP hD hS hA (fun cA => rfl) (by decide) (by decide) (by decide) (Nat.le_of_ble_eq_true rfl) (Nat.le_of_ble_eq_true rfl) (by decide +kernel : decode cX7_init 47 = .ok (.newarray .int, 2)) (fun q47 H hP hD hS => ?_)
  have hP : va_P D classes [(h0, .inr (7, [.int 0, .ref q7, .int 0, .ref q15, .ref q23, .ref q31, .ref q39, .null, .int 0, .int 0, .int 0, .int 0, .null, .int 0, .int 0, .int 0, .int 0, .null, .null, .int 0, .null, .int 0, .long 0, .long 0, .long 0])), (q7, .inl (tc 0, 24, .inl fz)), (q15, .inl (tc 0, 8, .inl fz)), (q23, .inl (tc 1, 8, .inl fz)), (q31, .inl (tc 0, 8, .inl fz)), (q39, .inl (tc 0, 8, .inl fz)), (q47, .inl (tc 0, 8, .inl fz))] H := hP
  have hD : va_D A [(h0, .inr (7, [.int 0, .ref q7, .int 0, .ref q15, .ref q23, .ref q31, .ref q39, .null, .int 0, .int 0, .int 0, .int 0, .null, .int 0, .int 0, .int 0, .int 0, .null, .null, .int 0, .null, .int 0, .long 0, .long 0, .long 0])), (q7, .inl (tc 0, 24, .inl fz)), (q15, .inl (tc 0, 8, .inl fz)), (q23, .inl (tc 1, 8, .inl fz)), (q31, .inl (tc 0, 8, .inl fz)), (q39, .inl (tc 0, 8, .inl fz)), (q47, .inl (tc 0, 8, .inl fz))] := hD
  refine W.widen (k := 6) (n := 64) (by omega) (by omega) ?_
  refine va_putF (D := D) (ci := 7) (v := .ref q47) (ty := .array .int) (C := RX7) (T := TX7) (N := 25) hx hb hts (lays_tw cl_i7) tyX7 tyX7_ok nmX7 hown hK.1.1 hP hD hS 0 rfl rfl 7 (by decide) (hts _ (tw_of 659 (by decide +kernel) rfl)) (fun _ h9 => h9) rfl hin rfl (by decide +kernel) rfl rfl (Nat.le_of_ble_eq_true rfl) (by decide +kernel : decode cX7_init 49 = .ok (.putfield 26, 3)) (fun H locs hP hD hS => ?_)
  have hP : va_P D classes [(h0, .inr (7, [.int 0, .ref q7, .int 0, .ref q15, .ref q23, .ref q31, .ref q39, .ref q47, .int 0, .int 0, .int 0, .int 0, .null, .int 0, .int 0, .int 0, .int 0, .null, .null, .int 0, .null, .int 0, .long 0, .long 0, .long 0])), (q7, .inl (tc 0, 24, .inl fz)), (q15, .inl (tc 0, 8, .inl fz)), (q23, .inl (tc 1, 8, .inl fz)), (q31, .inl (tc 0, 8, .inl fz)), (q39, .inl (tc 0, 8, .inl fz)), (q47, .inl (tc 0, 8, .inl fz))] H := hP
  have hD : va_D A [(h0, .inr (7, [.int 0, .ref q7, .int 0, .ref q15, .ref q23, .ref q31, .ref q39, .ref q47, .int 0, .int 0, .int 0, .int 0, .null, .int 0, .int 0, .int 0, .int 0, .null, .null, .int 0, .null, .int 0, .long 0, .long 0, .long 0])), (q7, .inl (tc 0, 24, .inl fz)), (q15, .inl (tc 0, 8, .inl fz)), (q23, .inl (tc 1, 8, .inl fz)), (q31, .inl (tc 0, 8, .inl fz)), (q39, .inl (tc 0, 8, .inl fz)), (q47, .inl (tc 0, 8, .inl fz))] := hD
  refine lv_aload_n hx hb (by decide +kernel : decode cX7_init 52 = .ok (.aload_n 0, 1)) rfl (lv_at hl 0 rfl) ?_
  refine lv_bipush (v := 10) hx hb (by decide +kernel : decode cX7_init 53 = .ok (.bipush 10, 2)) rfl ?_
  refine va_put (D := D) (ci := 7) (v := .int 10) (ty := .int) (C := RX7) (T := TX7) (N := 25) hx hb hts (lays_tw cl_i7) tyX7 tyX7_ok nmX7 hown hK.1.1 hP hD hS 0 rfl rfl 8 (by decide) (hts _ (tw_of 660 (by decide +kernel) rfl)) (fun _ h9 => h9) rfl (by decide +kernel) rfl rfl (Nat.le_of_ble_eq_true rfl) (by decide +kernel : decode cX7_init 55 = .ok (.putfield 29, 3)) (fun H locs hP hD hS => ?_)
  have hP : va_P D classes [(h0, .inr (7, [.int 0, .ref q7, .int 0, .ref q15, .ref q23, .ref q31, .ref q39, .ref q47, .int 10, .int 0, .int 0, .int 0, .null, .int 0, .int 0, .int 0, .int 0, .null, .null, .int 0, .null, .int 0, .long 0, .long 0, .long 0])), (q7, .inl (tc 0, 24, .inl fz)), (q15, .inl (tc 0, 8, .inl fz)), (q23, .inl (tc 1, 8, .inl fz)), (q31, .inl (tc 0, 8, .inl fz)), (q39, .inl (tc 0, 8, .inl fz)), (q47, .inl (tc 0, 8, .inl fz))] H := hP
  have hD : va_D A [(h0, .inr (7, [.int 0, .ref q7, .int 0, .ref q15, .ref q23, .ref q31, .ref q39, .ref q47, .int 10, .int 0, .int 0, .int 0, .null, .int 0, .int 0, .int 0, .int 0, .null, .null, .int 0, .null, .int 0, .long 0, .long 0, .long 0])), (q7, .inl (tc 0, 24, .inl fz)), (q15, .inl (tc 0, 8, .inl fz)), (q23, .inl (tc 1, 8, .inl fz)), (q31, .inl (tc 0, 8, .inl fz)), (q39, .inl (tc 0, 8, .inl fz)), (q47, .inl (tc 0, 8, .inl fz))] := hD
  refine lv_aload_n hx hb (by decide +kernel : decode cX7_init 58 = .ok (.aload_n 0, 1)) rfl (lv_at hl 0 rfl) ?_
  refine lv_iconst (v := 4) hx hb (by decide +kernel : decode cX7_init 59 = .ok (.iconst 4, 1)) rfl ?_
  refine va_newT (D := D) (tc := tc) (atype := .int) (ty := .int) (N' := 4) (a0 := (4, .inl fz)) hx hb 0 (by decide) (hts _ (tw_of 110 (by decide +kernel) rfl)) rfl hK.1.1 hP hD hS hA (fun cA => rfl) (by decide) (by decide) (by decide) (Nat.le_of_ble_eq_true rfl) (Nat.le_of_ble_eq_true rfl) (by decide +kernel : decode cX7_init 60 = .ok (.newarray .int, 2)) (fun q60 H hP hD hS => ?_)
  have hP : va_P D classes [(h0, .inr (7, [.int 0, .ref q7, .int 0, .ref q15, .ref q23, .ref q31, .ref q39, .ref q47, .int 10, .int 0, .int 0, .int 0, .null, .int 0, .int 0, .int 0, .int 0, .null, .null, .int 0, .null, .int 0, .long 0, .long 0, .long 0])), (q7, .inl (tc 0, 24, .inl fz)), (q15, .inl (tc 0, 8, .inl fz)), (q23, .inl (tc 1, 8, .inl fz)), (q31, .inl (tc 0, 8, .inl fz)), (q39, .inl (tc 0, 8, .inl fz)), (q47, .inl (tc 0, 8, .inl fz)), (q60, .inl (tc 0, 4, .inl fz))] H := hP
  have hD : va_D A [(h0, .inr (7, [.int 0, .ref q7, .int 0, .ref q15, .ref q23, .ref q31, .ref q39, .ref q47, .int 10, .int 0, .int 0, .int 0, .null, .int 0, .int 0, .int 0, .int 0, .null, .null, .int 0, .null, .int 0, .long 0, .long 0, .long 0])), (q7, .inl (tc 0, 24, .inl fz)), (q15, .inl (tc 0, 8, .inl fz)), (q23, .inl (tc 1, 8, .inl fz)), (q31, .inl (tc 0, 8, .inl fz)), (q39, .inl (tc 0, 8, .inl fz)), (q47, .inl (tc 0, 8, .inl fz)), (q60, .inl (tc 0, 4, .inl fz))] := hD
  refine W.widen (k := 7) (n := 68) (by omega) (by omega) ?_
  refine va_putF (D := D) (ci := 7) (v := .ref q60) (ty := .array .int) (C := RX7) (T := TX7) (N := 25) hx hb hts (lays_tw cl_i7) tyX7 tyX7_ok nmX7 hown hK.1.1 hP hD hS 0 rfl rfl 12 (by decide) (hts _ (tw_of 664 (by decide +kernel) rfl)) (fun _ h9 => h9) rfl hin rfl (by decide +kernel) rfl rfl (Nat.le_of_ble_eq_true rfl) (by decide +kernel : decode cX7_init 62 = .ok (.putfield 33, 3)) (fun H locs hP hD hS => ?_)
  have hP : va_P D classes [(h0, .inr (7, [.int 0, .ref q7, .int 0, .ref q15, .ref q23, .ref q31, .ref q39, .ref q47, .int 10, .int 0, .int 0, .int 0, .ref q60, .int 0, .int 0, .int 0, .int 0, .null, .null, .int 0, .null, .int 0, .long 0, .long 0, .long 0])), (q7, .inl (tc 0, 24, .inl fz)), (q15, .inl (tc 0, 8, .inl fz)), (q23, .inl (tc 1, 8, .inl fz)), (q31, .inl (tc 0, 8, .inl fz)), (q39, .inl (tc 0, 8, .inl fz)), (q47, .inl (tc 0, 8, .inl fz)), (q60, .inl (tc 0, 4, .inl fz))] H := hP
  have hD : va_D A [(h0, .inr (7, [.int 0, .ref q7, .int 0, .ref q15, .ref q23, .ref q31, .ref q39, .ref q47, .int 10, .int 0, .int 0, .int 0, .ref q60, .int 0, .int 0, .int 0, .int 0, .null, .null, .int 0, .null, .int 0, .long 0, .long 0, .long 0])), (q7, .inl (tc 0, 24, .inl fz)), (q15, .inl (tc 0, 8, .inl fz)), (q23, .inl (tc 1, 8, .inl fz)), (q31, .inl (tc 0, 8, .inl fz)), (q39, .inl (tc 0, 8, .inl fz)), (q47, .inl (tc 0, 8, .inl fz)), (q60, .inl (tc 0, 4, .inl fz))] := hD
  refine lv_aload_n hx hb (by decide +kernel : decode cX7_init 65 = .ok (.aload_n 0, 1)) rfl (lv_at hl 0 rfl) ?_
  refine lv_bipush (v := 16) hx hb (by decide +kernel : decode cX7_init 66 = .ok (.bipush 16, 2)) rfl ?_
  refine va_newT (D := D) (tc := tc) (atype := .long) (ty := .long) (N' := 16) (a0 := (16, .inr (.inl gz))) hx hb 2 (by decide) (hts _ (tw_of 728 (by decide +kernel) rfl)) rfl hK.1.1 hP hD hS hA (fun cA => rfl) (by decide) (by decide) (by decide) (Nat.le_of_ble_eq_true rfl) (Nat.le_of_ble_eq_true rfl) (by decide +kernel : decode cX7_init 68 = .ok (.newarray .long, 2)) (fun q68 H hP hD hS => ?_)
  have hP : va_P D classes [(h0, .inr (7, [.int 0, .ref q7, .int 0, .ref q15, .ref q23, .ref q31, .ref q39, .ref q47, .int 10, .int 0, .int 0, .int 0, .ref q60, .int 0, .int 0, .int 0, .int 0, .null, .null, .int 0, .null, .int 0, .long 0, .long 0, .long 0])), (q7, .inl (tc 0, 24, .inl fz)), (q15, .inl (tc 0, 8, .inl fz)), (q23, .inl (tc 1, 8, .inl fz)), (q31, .inl (tc 0, 8, .inl fz)), (q39, .inl (tc 0, 8, .inl fz)), (q47, .inl (tc 0, 8, .inl fz)), (q60, .inl (tc 0, 4, .inl fz)), (q68, .inl (tc 2, 16, .inr (.inl gz)))] H := hP
  have hD : va_D A [(h0, .inr (7, [.int 0, .ref q7, .int 0, .ref q15, .ref q23, .ref q31, .ref q39, .ref q47, .int 10, .int 0, .int 0, .int 0, .ref q60, .int 0, .int 0, .int 0, .int 0, .null, .null, .int 0, .null, .int 0, .long 0, .long 0, .long 0])), (q7, .inl (tc 0, 24, .inl fz)), (q15, .inl (tc 0, 8, .inl fz)), (q23, .inl (tc 1, 8, .inl fz)), (q31, .inl (tc 0, 8, .inl fz)), (q39, .inl (tc 0, 8, .inl fz)), (q47, .inl (tc 0, 8, .inl fz)), (q60, .inl (tc 0, 4, .inl fz)), (q68, .inl (tc 2, 16, .inr (.inl gz)))] := hD
  refine W.widen (k := 8) (n := 84) (by omega) (by omega) ?_
  refine va_putF (D := D) (ci := 7) (v := .ref q68) (ty := .array .long) (C := RX7) (T := TX7) (N := 25) hx hb hts (lays_tw cl_i7) tyX7 tyX7_ok nmX7 hown hK.1.1 hP hD hS 0 rfl rfl 17 (by decide) (hts _ (tw_of 669 (by decide +kernel) rfl)) (fun _ h9 => h9) rfl hin rfl (by decide +kernel) rfl rfl (Nat.le_of_ble_eq_true rfl) (by decide +kernel : decode cX7_init 70 = .ok (.putfield 36, 3)) (fun H locs hP hD hS => ?_)
  have hP : va_P D classes [(h0, .inr (7, [.int 0, .ref q7, .int 0, .ref q15, .ref q23, .ref q31, .ref q39, .ref q47, .int 10, .int 0, .int 0, .int 0, .ref q60, .int 0, .int 0, .int 0, .int 0, .ref q68, .null, .int 0, .null, .int 0, .long 0, .long 0, .long 0])), (q7, .inl (tc 0, 24, .inl fz)), (q15, .inl (tc 0, 8, .inl fz)), (q23, .inl (tc 1, 8, .inl fz)), (q31, .inl (tc 0, 8, .inl fz)), (q39, .inl (tc 0, 8, .inl fz)), (q47, .inl (tc 0, 8, .inl fz)), (q60, .inl (tc 0, 4, .inl fz)), (q68, .inl (tc 2, 16, .inr (.inl gz)))] H := hP
  have hD : va_D A [(h0, .inr (7, [.int 0, .ref q7, .int 0, .ref q15, .ref q23, .ref q31, .ref q39, .ref q47, .int 10, .int 0, .int 0, .int 0, .ref q60, .int 0, .int 0, .int 0, .int 0, .ref q68, .null, .int 0, .null, .int 0, .long 0, .long 0, .long 0])), (q7, .inl (tc 0, 24, .inl fz)), (q15, .inl (tc 0, 8, .inl fz)), (q23, .inl (tc 1, 8, .inl fz)), (q31, .inl (tc 0, 8, .inl fz)), (q39, .inl (tc 0, 8, .inl fz)), (q47, .inl (tc 0, 8, .inl fz)), (q60, .inl (tc 0, 4, .inl fz)), (q68, .inl (tc 2, 16, .inr (.inl gz)))] := hD
  refine lv_aload_n hx hb (by decide +kernel : decode cX7_init 73 = .ok (.aload_n 0, 1)) rfl (lv_at hl 0 rfl) ?_
  refine lv_bipush (v := 16) hx hb (by decide +kernel : decode cX7_init 74 = .ok (.bipush 16, 2)) rfl ?_
  refine va_newT (D := D) (tc := tc) (atype := .long) (ty := .long) (N' := 16) (a0 := (16, .inr (.inl gz))) hx hb 2 (by decide) (hts _ (tw_of 728 (by decide +kernel) rfl)) rfl hK.1.1 hP hD hS hA (fun cA => rfl) (by decide) (by decide) (by decide) (Nat.le_of_ble_eq_true rfl) (Nat.le_of_ble_eq_true rfl) (by decide +kernel : decode cX7_init 76 = .ok (.newarray .long, 2)) (fun q76 H hP hD hS => ?_)
  have hP : va_P D classes [(h0, .inr (7, [.int 0, .ref q7, .int 0, .ref q15, .ref q23, .ref q31, .ref q39, .ref q47, .int 10, .int 0, .int 0, .int 0, .ref q60, .int 0, .int 0, .int 0, .int 0, .ref q68, .null, .int 0, .null, .int 0, .long 0, .long 0, .long 0])), (q7, .inl (tc 0, 24, .inl fz)), (q15, .inl (tc 0, 8, .inl fz)), (q23, .inl (tc 1, 8, .inl fz)), (q31, .inl (tc 0, 8, .inl fz)), (q39, .inl (tc 0, 8, .inl fz)), (q47, .inl (tc 0, 8, .inl fz)), (q60, .inl (tc 0, 4, .inl fz)), (q68, .inl (tc 2, 16, .inr (.inl gz))), (q76, .inl (tc 2, 16, .inr (.inl gz)))] H := hP
  have hD : va_D A [(h0, .inr (7, [.int 0, .ref q7, .int 0, .ref q15, .ref q23, .ref q31, .ref q39, .ref q47, .int 10, .int 0, .int 0, .int 0, .ref q60, .int 0, .int 0, .int 0, .int 0, .ref q68, .null, .int 0, .null, .int 0, .long 0, .long 0, .long 0])), (q7, .inl (tc 0, 24, .inl fz)), (q15, .inl (tc 0, 8, .inl fz)), (q23, .inl (tc 1, 8, .inl fz)), (q31, .inl (tc 0, 8, .inl fz)), (q39, .inl (tc 0, 8, .inl fz)), (q47, .inl (tc 0, 8, .inl fz)), (q60, .inl (tc 0, 4, .inl fz)), (q68, .inl (tc 2, 16, .inr (.inl gz))), (q76, .inl (tc 2, 16, .inr (.inl gz)))] := hD
  refine W.widen (k := 9) (n := 100) (by omega) (by omega) ?_
  refine va_putF (D := D) (ci := 7) (v := .ref q76) (ty := .array .long) (C := RX7) (T := TX7) (N := 25) hx hb hts (lays_tw cl_i7) tyX7 tyX7_ok nmX7 hown hK.1.1 hP hD hS 0 rfl rfl 18 (by decide) (hts _ (tw_of 670 (by decide +kernel) rfl)) (fun _ h9 => h9) rfl hin rfl (by decide +kernel) rfl rfl (Nat.le_of_ble_eq_true rfl) (by decide +kernel : decode cX7_init 78 = .ok (.putfield 40, 3)) (fun H locs hP hD hS => ?_)
  have hP : va_P D classes [(h0, .inr (7, [.int 0, .ref q7, .int 0, .ref q15, .ref q23, .ref q31, .ref q39, .ref q47, .int 10, .int 0, .int 0, .int 0, .ref q60, .int 0, .int 0, .int 0, .int 0, .ref q68, .ref q76, .int 0, .null, .int 0, .long 0, .long 0, .long 0])), (q7, .inl (tc 0, 24, .inl fz)), (q15, .inl (tc 0, 8, .inl fz)), (q23, .inl (tc 1, 8, .inl fz)), (q31, .inl (tc 0, 8, .inl fz)), (q39, .inl (tc 0, 8, .inl fz)), (q47, .inl (tc 0, 8, .inl fz)), (q60, .inl (tc 0, 4, .inl fz)), (q68, .inl (tc 2, 16, .inr (.inl gz))), (q76, .inl (tc 2, 16, .inr (.inl gz)))] H := hP
  have hD : va_D A [(h0, .inr (7, [.int 0, .ref q7, .int 0, .ref q15, .ref q23, .ref q31, .ref q39, .ref q47, .int 10, .int 0, .int 0, .int 0, .ref q60, .int 0, .int 0, .int 0, .int 0, .ref q68, .ref q76, .int 0, .null, .int 0, .long 0, .long 0, .long 0])), (q7, .inl (tc 0, 24, .inl fz)), (q15, .inl (tc 0, 8, .inl fz)), (q23, .inl (tc 1, 8, .inl fz)), (q31, .inl (tc 0, 8, .inl fz)), (q39, .inl (tc 0, 8, .inl fz)), (q47, .inl (tc 0, 8, .inl fz)), (q60, .inl (tc 0, 4, .inl fz)), (q68, .inl (tc 2, 16, .inr (.inl gz))), (q76, .inl (tc 2, 16, .inr (.inl gz)))] := hD
  refine lv_aload_n hx hb (by decide +kernel : decode cX7_init 81 = .ok (.aload_n 0, 1)) rfl (lv_at hl 0 rfl) ?_
  refine lv_bipush (v := 17) hx hb (by decide +kernel : decode cX7_init 82 = .ok (.bipush 17, 2)) rfl ?_
  refine va_newT (D := D) (tc := tc) (atype := .int) (ty := .int) (N' := 17) (a0 := (17, .inl fz)) hx hb 0 (by decide) (hts _ (tw_of 110 (by decide +kernel) rfl)) rfl hK.1.1 hP hD hS hA (fun cA => rfl) (by decide) (by decide) (by decide) (Nat.le_of_ble_eq_true rfl) (Nat.le_of_ble_eq_true rfl) (by decide +kernel : decode cX7_init 84 = .ok (.newarray .int, 2)) (fun q84 H hP hD hS => ?_)
  have hP : va_P D classes [(h0, .inr (7, [.int 0, .ref q7, .int 0, .ref q15, .ref q23, .ref q31, .ref q39, .ref q47, .int 10, .int 0, .int 0, .int 0, .ref q60, .int 0, .int 0, .int 0, .int 0, .ref q68, .ref q76, .int 0, .null, .int 0, .long 0, .long 0, .long 0])), (q7, .inl (tc 0, 24, .inl fz)), (q15, .inl (tc 0, 8, .inl fz)), (q23, .inl (tc 1, 8, .inl fz)), (q31, .inl (tc 0, 8, .inl fz)), (q39, .inl (tc 0, 8, .inl fz)), (q47, .inl (tc 0, 8, .inl fz)), (q60, .inl (tc 0, 4, .inl fz)), (q68, .inl (tc 2, 16, .inr (.inl gz))), (q76, .inl (tc 2, 16, .inr (.inl gz))), (q84, .inl (tc 0, 17, .inl fz))] H := hP
  have hD : va_D A [(h0, .inr (7, [.int 0, .ref q7, .int 0, .ref q15, .ref q23, .ref q31, .ref q39, .ref q47, .int 10, .int 0, .int 0, .int 0, .ref q60, .int 0, .int 0, .int 0, .int 0, .ref q68, .ref q76, .int 0, .null, .int 0, .long 0, .long 0, .long 0])), (q7, .inl (tc 0, 24, .inl fz)), (q15, .inl (tc 0, 8, .inl fz)), (q23, .inl (tc 1, 8, .inl fz)), (q31, .inl (tc 0, 8, .inl fz)), (q39, .inl (tc 0, 8, .inl fz)), (q47, .inl (tc 0, 8, .inl fz)), (q60, .inl (tc 0, 4, .inl fz)), (q68, .inl (tc 2, 16, .inr (.inl gz))), (q76, .inl (tc 2, 16, .inr (.inl gz))), (q84, .inl (tc 0, 17, .inl fz))] := hD
  refine W.widen (k := 10) (n := 117) (by omega) (by omega) ?_
  refine va_putF (D := D) (ci := 7) (v := .ref q84) (ty := .array .int) (C := RX7) (T := TX7) (N := 25) hx hb hts (lays_tw cl_i7) tyX7 tyX7_ok nmX7 hown hK.1.1 hP hD hS 0 rfl rfl 20 (by decide) (hts _ (tw_of 672 (by decide +kernel) rfl)) (fun _ h9 => h9) rfl hin rfl (by decide +kernel) rfl rfl (Nat.le_of_ble_eq_true rfl) (by decide +kernel : decode cX7_init 86 = .ok (.putfield 43, 3)) (fun H locs hP hD hS => ?_)
  have hP : va_P D classes [(h0, .inr (7, [.int 0, .ref q7, .int 0, .ref q15, .ref q23, .ref q31, .ref q39, .ref q47, .int 10, .int 0, .int 0, .int 0, .ref q60, .int 0, .int 0, .int 0, .int 0, .ref q68, .ref q76, .int 0, .ref q84, .int 0, .long 0, .long 0, .long 0])), (q7, .inl (tc 0, 24, .inl fz)), (q15, .inl (tc 0, 8, .inl fz)), (q23, .inl (tc 1, 8, .inl fz)), (q31, .inl (tc 0, 8, .inl fz)), (q39, .inl (tc 0, 8, .inl fz)), (q47, .inl (tc 0, 8, .inl fz)), (q60, .inl (tc 0, 4, .inl fz)), (q68, .inl (tc 2, 16, .inr (.inl gz))), (q76, .inl (tc 2, 16, .inr (.inl gz))), (q84, .inl (tc 0, 17, .inl fz))] H := hP
  have hD : va_D A [(h0, .inr (7, [.int 0, .ref q7, .int 0, .ref q15, .ref q23, .ref q31, .ref q39, .ref q47, .int 10, .int 0, .int 0, .int 0, .ref q60, .int 0, .int 0, .int 0, .int 0, .ref q68, .ref q76, .int 0, .ref q84, .int 0, .long 0, .long 0, .long 0])), (q7, .inl (tc 0, 24, .inl fz)), (q15, .inl (tc 0, 8, .inl fz)), (q23, .inl (tc 1, 8, .inl fz)), (q31, .inl (tc 0, 8, .inl fz)), (q39, .inl (tc 0, 8, .inl fz)), (q47, .inl (tc 0, 8, .inl fz)), (q60, .inl (tc 0, 4, .inl fz)), (q68, .inl (tc 2, 16, .inr (.inl gz))), (q76, .inl (tc 2, 16, .inr (.inl gz))), (q84, .inl (tc 0, 17, .inl fz))] := hD
  exact W.vret hx hb hr (fun t ht hW => ⟨⟨(fun i => match i with | 0 => q7 | 1 => q15 | 2 => q23 | 3 => q31 | 4 => q39 | 5 => q47 | 6 => q60 | 7 => q68 | 8 => q76 | 9 => q84 | _ => 0), rfl, trivial, by rw [ht]; exact hP, hK.moved hW, hD⟩, hS.F ht⟩) hS.2.2 (by decide +kernel : decode cX7_init 89 = .ok (.return_, 1))
