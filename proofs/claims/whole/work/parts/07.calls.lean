/-! THE WALK: branches, calls, ends, a method's start -/
theorem lc_eq (x y : Int64) : x = y ↔ lg_cmp x y = 0 := by
  unfold lg_cmp
  by_cases h1 : x > y
  · rw [if_pos h1]
    constructor
    · intro h; subst h; simp [gt_iff_lt, Int64.lt_iff_toInt_lt] at h1
    · intro h; exact absurd h (by decide)
  · rw [if_neg h1]
    by_cases h2 : x = y
    · simp [h2]
    · rw [if_neg h2]
      constructor
      · intro h; exact absurd h h2
      · intro h; exact absurd h (by decide)
theorem lc_lt (x y : Int64) : x < y ↔ lg_cmp x y < 0 := by
  unfold lg_cmp
  by_cases h1 : x > y
  · rw [if_pos h1]
    constructor
    · intro h; simp only [gt_iff_lt, Int64.lt_iff_toInt_lt] at h h1; omega
    · intro h; exact absurd h (by decide)
  · rw [if_neg h1]
    by_cases h2 : x = y
    · subst h2
      rw [if_pos rfl]
      constructor
      · intro h; exact absurd h h1
      · intro h; exact absurd h (by decide)
    · rw [if_neg h2]
      constructor
      · intro _; decide
      · intro _
        simp only [gt_iff_lt, Int64.lt_iff_toInt_lt, ← Int64.toInt_inj] at h1 h2 ⊢
        omega
theorem lc_ge (x y : Int64) : y ≤ x ↔ 0 ≤ lg_cmp x y := (lg_cmp_ge x y).symm
theorem lc_gt (x y : Int64) : y < x ↔ 0 < lg_cmp x y := by
  unfold lg_cmp
  by_cases h1 : x > y
  · rw [if_pos h1]
    exact ⟨fun _ => by decide, fun _ => h1⟩
  · rw [if_neg h1]
    constructor
    · intro h; exact absurd h h1
    · intro h
      split at h
      · exact absurd h (by decide)
      · exact absurd h (by decide)
theorem lc_le (x y : Int64) : x ≤ y ↔ lg_cmp x y ≤ 0 := by
  have h := lc_gt x y
  simp only [Int64.lt_iff_toInt_lt, Int32.lt_iff_toInt_lt] at h
  simp only [Int64.le_iff_toInt_le, Int32.le_iff_toInt_le]
  omega
section WK
variable {p : Program} {l : Launch} {e : Env} {R : Room} {s : State} {m : MethodId} {args : Array Value} {below : List Frame} {meth : Method} {c : Code} {D : va_G} {ad : Nat → Nat} {tc : Nat → ClassId} {nL : Nat} {A : Nat → Prop} {H0 : Heap} {cells slots : Nat} {Q : State → Prop}
variable {o pc : Nat} {cc : ByteArray} {L L' : List (Nat × Value)} {st : List Value} {σ σ' : Sg}
/-- locals that are not needed any more -/
theorem aw_loc (L' : List (Nat × Value)) (h : ∀ q ∈ L', q ∈ L) (kk : AW p l e R s m args below meth c D ad tc nL A H0 cells slots Q pc L' st σ) : AW p l e R s m args below meth c D ad tc nL A H0 cells slots Q pc L st σ := by
  intro H locs ls hP hD hS hl
  refine kk H locs ls hP hD hS (lv_less hl (fun q hq => ?_))
  obtain ⟨r, hr, rfl⟩ := List.mem_map.mp hq
  exact List.mem_map.mpr ⟨r, h r hr, rfl⟩
theorem aw_goto (hC : Cx p s m args meth c o cc nL D tc) {off : Int} (tgt : Nat) (hd : decode cc pc = .ok (.goto off, 3)) (ht : (pc : Int) + off = (tgt : Int)) (kk : AW p l e R s m args below meth c D ad tc nL A H0 cells slots Q tgt L st σ) : AW p l e R s m args below meth c D ad tc nL A H0 cells slots Q pc L st σ :=
  fun H locs ls hP hD hS hl => lv_goto hC.1 hC.2.1 hd ht (kk H locs ls hP hD hS hl)

theorem aw_if_eq (hC : Cx p s m args meth c o cc nL D tc) {x : Int32} {off : Int} (tgt : Nat) {P : Prop} (hP0 : P ↔ x = 0) (hd : decode cc pc = .ok (.ifCond .eq off, 3)) (ht : (pc : Int) + off = (tgt : Int)) (kt : P → AW p l e R s m args below meth c D ad tc nL A H0 cells slots Q tgt L st σ) (kf : ¬ P → AW p l e R s m args below meth c D ad tc nL A H0 cells slots Q (pc + 3) L st σ) : AW p l e R s m args below meth c D ad tc nL A H0 cells slots Q pc L (.int x :: st) σ :=
  fun H locs ls hP hD hS hl => lv_if_eq hC.1 hC.2.1 hd ht (fun h => kt (hP0.mpr h) H locs ls hP hD hS hl) (fun h => kf (fun z => h (hP0.mp z)) H locs ls hP hD hS hl)
theorem aw_if_ne (hC : Cx p s m args meth c o cc nL D tc) {x : Int32} {off : Int} (tgt : Nat) {P : Prop} (hP0 : P ↔ x = 0) (hd : decode cc pc = .ok (.ifCond .ne off, 3)) (ht : (pc : Int) + off = (tgt : Int)) (kt : ¬ P → AW p l e R s m args below meth c D ad tc nL A H0 cells slots Q tgt L st σ) (kf : P → AW p l e R s m args below meth c D ad tc nL A H0 cells slots Q (pc + 3) L st σ) : AW p l e R s m args below meth c D ad tc nL A H0 cells slots Q pc L (.int x :: st) σ :=
  fun H locs ls hP hD hS hl => lv_if_ne hC.1 hC.2.1 hd ht (fun h => kt (fun z => h (hP0.mp z)) H locs ls hP hD hS hl) (fun h => kf (hP0.mpr h) H locs ls hP hD hS hl)
theorem aw_if_lt (hC : Cx p s m args meth c o cc nL D tc) {x : Int32} {off : Int} (tgt : Nat) {P : Prop} (hP0 : P ↔ x < 0) (hd : decode cc pc = .ok (.ifCond .lt off, 3)) (ht : (pc : Int) + off = (tgt : Int)) (kt : P → AW p l e R s m args below meth c D ad tc nL A H0 cells slots Q tgt L st σ) (kf : ¬ P → AW p l e R s m args below meth c D ad tc nL A H0 cells slots Q (pc + 3) L st σ) : AW p l e R s m args below meth c D ad tc nL A H0 cells slots Q pc L (.int x :: st) σ :=
  fun H locs ls hP hD hS hl => lv_if_lt hC.1 hC.2.1 hd ht (fun h => kt (hP0.mpr h) H locs ls hP hD hS hl) (fun h => kf (fun z => h (hP0.mp z)) H locs ls hP hD hS hl)
theorem aw_if_ge (hC : Cx p s m args meth c o cc nL D tc) {x : Int32} {off : Int} (tgt : Nat) {P : Prop} (hP0 : P ↔ 0 ≤ x) (hd : decode cc pc = .ok (.ifCond .ge off, 3)) (ht : (pc : Int) + off = (tgt : Int)) (kt : P → AW p l e R s m args below meth c D ad tc nL A H0 cells slots Q tgt L st σ) (kf : ¬ P → AW p l e R s m args below meth c D ad tc nL A H0 cells slots Q (pc + 3) L st σ) : AW p l e R s m args below meth c D ad tc nL A H0 cells slots Q pc L (.int x :: st) σ :=
  fun H locs ls hP hD hS hl => lv_if_ge hC.1 hC.2.1 hd ht (fun h => kt (hP0.mpr h) H locs ls hP hD hS hl) (fun h => kf (fun z => h (hP0.mp z)) H locs ls hP hD hS hl)
theorem aw_if_gt (hC : Cx p s m args meth c o cc nL D tc) {x : Int32} {off : Int} (tgt : Nat) {P : Prop} (hP0 : P ↔ 0 < x) (hd : decode cc pc = .ok (.ifCond .gt off, 3)) (ht : (pc : Int) + off = (tgt : Int)) (kt : P → AW p l e R s m args below meth c D ad tc nL A H0 cells slots Q tgt L st σ) (kf : ¬ P → AW p l e R s m args below meth c D ad tc nL A H0 cells slots Q (pc + 3) L st σ) : AW p l e R s m args below meth c D ad tc nL A H0 cells slots Q pc L (.int x :: st) σ :=
  fun H locs ls hP hD hS hl => lv_if_gt hC.1 hC.2.1 hd ht (fun h => kt (hP0.mpr h) H locs ls hP hD hS hl) (fun h => kf (fun z => h (hP0.mp z)) H locs ls hP hD hS hl)
theorem aw_if_le (hC : Cx p s m args meth c o cc nL D tc) {x : Int32} {off : Int} (tgt : Nat) {P : Prop} (hP0 : P ↔ x ≤ 0) (hd : decode cc pc = .ok (.ifCond .le off, 3)) (ht : (pc : Int) + off = (tgt : Int)) (kt : P → AW p l e R s m args below meth c D ad tc nL A H0 cells slots Q tgt L st σ) (kf : ¬ P → AW p l e R s m args below meth c D ad tc nL A H0 cells slots Q (pc + 3) L st σ) : AW p l e R s m args below meth c D ad tc nL A H0 cells slots Q pc L (.int x :: st) σ :=
  fun H locs ls hP hD hS hl => lv_if_le hC.1 hC.2.1 hd ht (fun h => kt (hP0.mpr h) H locs ls hP hD hS hl) (fun h => kf (fun z => h (hP0.mp z)) H locs ls hP hD hS hl)
theorem aw_icmp_eq (hC : Cx p s m args meth c o cc nL D tc) {x y : Int32} {off : Int} (tgt : Nat) (hd : decode cc pc = .ok (.if_icmp .eq off, 3)) (ht : (pc : Int) + off = (tgt : Int)) (kt : x = y → AW p l e R s m args below meth c D ad tc nL A H0 cells slots Q tgt L st σ) (kf : ¬ x = y → AW p l e R s m args below meth c D ad tc nL A H0 cells slots Q (pc + 3) L st σ) : AW p l e R s m args below meth c D ad tc nL A H0 cells slots Q pc L (.int y :: .int x :: st) σ :=
  fun H locs ls hP hD hS hl => lv_icmp_eq hC.1 hC.2.1 hd ht (fun h => kt h H locs ls hP hD hS hl) (fun h => kf h H locs ls hP hD hS hl)
theorem aw_icmp_ne (hC : Cx p s m args meth c o cc nL D tc) {x y : Int32} {off : Int} (tgt : Nat) (hd : decode cc pc = .ok (.if_icmp .ne off, 3)) (ht : (pc : Int) + off = (tgt : Int)) (kt : ¬ x = y → AW p l e R s m args below meth c D ad tc nL A H0 cells slots Q tgt L st σ) (kf : x = y → AW p l e R s m args below meth c D ad tc nL A H0 cells slots Q (pc + 3) L st σ) : AW p l e R s m args below meth c D ad tc nL A H0 cells slots Q pc L (.int y :: .int x :: st) σ :=
  fun H locs ls hP hD hS hl => lv_icmp_ne hC.1 hC.2.1 hd ht (fun h => kt h H locs ls hP hD hS hl) (fun h => kf h H locs ls hP hD hS hl)
theorem aw_icmp_lt (hC : Cx p s m args meth c o cc nL D tc) {x y : Int32} {off : Int} (tgt : Nat) (hd : decode cc pc = .ok (.if_icmp .lt off, 3)) (ht : (pc : Int) + off = (tgt : Int)) (kt : x < y → AW p l e R s m args below meth c D ad tc nL A H0 cells slots Q tgt L st σ) (kf : ¬ x < y → AW p l e R s m args below meth c D ad tc nL A H0 cells slots Q (pc + 3) L st σ) : AW p l e R s m args below meth c D ad tc nL A H0 cells slots Q pc L (.int y :: .int x :: st) σ :=
  fun H locs ls hP hD hS hl => lv_icmp_lt hC.1 hC.2.1 hd ht (fun h => kt h H locs ls hP hD hS hl) (fun h => kf h H locs ls hP hD hS hl)
theorem aw_icmp_ge (hC : Cx p s m args meth c o cc nL D tc) {x y : Int32} {off : Int} (tgt : Nat) (hd : decode cc pc = .ok (.if_icmp .ge off, 3)) (ht : (pc : Int) + off = (tgt : Int)) (kt : y ≤ x → AW p l e R s m args below meth c D ad tc nL A H0 cells slots Q tgt L st σ) (kf : ¬ y ≤ x → AW p l e R s m args below meth c D ad tc nL A H0 cells slots Q (pc + 3) L st σ) : AW p l e R s m args below meth c D ad tc nL A H0 cells slots Q pc L (.int y :: .int x :: st) σ :=
  fun H locs ls hP hD hS hl => lv_icmp_ge hC.1 hC.2.1 hd ht (fun h => kt h H locs ls hP hD hS hl) (fun h => kf h H locs ls hP hD hS hl)
theorem aw_icmp_gt (hC : Cx p s m args meth c o cc nL D tc) {x y : Int32} {off : Int} (tgt : Nat) (hd : decode cc pc = .ok (.if_icmp .gt off, 3)) (ht : (pc : Int) + off = (tgt : Int)) (kt : y < x → AW p l e R s m args below meth c D ad tc nL A H0 cells slots Q tgt L st σ) (kf : ¬ y < x → AW p l e R s m args below meth c D ad tc nL A H0 cells slots Q (pc + 3) L st σ) : AW p l e R s m args below meth c D ad tc nL A H0 cells slots Q pc L (.int y :: .int x :: st) σ :=
  fun H locs ls hP hD hS hl => lv_icmp_gt hC.1 hC.2.1 hd ht (fun h => kt h H locs ls hP hD hS hl) (fun h => kf h H locs ls hP hD hS hl)
theorem aw_icmp_le (hC : Cx p s m args meth c o cc nL D tc) {x y : Int32} {off : Int} (tgt : Nat) (hd : decode cc pc = .ok (.if_icmp .le off, 3)) (ht : (pc : Int) + off = (tgt : Int)) (kt : x ≤ y → AW p l e R s m args below meth c D ad tc nL A H0 cells slots Q tgt L st σ) (kf : ¬ x ≤ y → AW p l e R s m args below meth c D ad tc nL A H0 cells slots Q (pc + 3) L st σ) : AW p l e R s m args below meth c D ad tc nL A H0 cells slots Q pc L (.int y :: .int x :: st) σ :=
  fun H locs ls hP hD hS hl => lv_icmp_le hC.1 hC.2.1 hd ht (fun h => kt h H locs ls hP hD hS hl) (fun h => kf h H locs ls hP hD hS hl)
theorem aw_tabIn (hC : Cx p s m args meth c o cc nL D tc) {dflt lo hi : Int} {offs : Array Int} {len : Nat} {x v : Int32} (off : Int) (tgt : Nat) (hv : x = v) (hd : decode cc pc = .ok (.tableswitch dflt lo hi offs, len)) (h1 : ¬ v.toInt < lo) (h2 : ¬ hi < v.toInt) (ho : offs[(v.toInt - lo).toNat]? = some off) (ht : (pc : Int) + off = (tgt : Int)) (kk : AW p l e R s m args below meth c D ad tc nL A H0 cells slots Q tgt L st σ) : AW p l e R s m args below meth c D ad tc nL A H0 cells slots Q pc L (.int x :: st) σ := by
  subst hv
  exact fun H locs ls hP hD hS hl => lv_tableIn hC.1 hC.2.1 hd h1 h2 ho ht (kk H locs ls hP hD hS hl)
theorem aw_tabOut (hC : Cx p s m args meth c o cc nL D tc) {dflt lo hi : Int} {offs : Array Int} {len : Nat} {x : Int32} (tgt : Nat) (hd : decode cc pc = .ok (.tableswitch dflt lo hi offs, len)) (h : x.toInt < lo ∨ hi < x.toInt) (ht : (pc : Int) + dflt = (tgt : Int)) (kk : AW p l e R s m args below meth c D ad tc nL A H0 cells slots Q tgt L st σ) : AW p l e R s m args below meth c D ad tc nL A H0 cells slots Q pc L (.int x :: st) σ :=
  fun H locs ls hP hD hS hl => lv_tableOut hC.1 hC.2.1 hd h ht (kk H locs ls hP hD hS hl)
theorem tab_out (n : Nat) (hn : n < 100) {x : Int32} (h : ∀ k, k ≤ n → ¬ x = nI k) : x.toInt < 0 ∨ (n : Int) < x.toInt := by
  rcases Int.lt_or_le x.toInt 0 with h1 | h1
  · exact Or.inl h1
  · refine Or.inr (Int.not_le.mp fun h2 => h x.toInt.toNat (by omega) ?_)
    apply Int32.toInt_inj.mp
    rw [nI_toInt (by omega)]
    omega
/-- the end of a method: its answer, the cells, nothing else -/
def Qr (r : Option Value) (D : va_G) (ad : Nat → Nat) (tc : Nat → ClassId) (σ' : Sg) (A : Nat → Prop) : Array Value → State → Outcome → State → Prop := fun _ st oc t =>
  (oc = .returned r ∧ va_P D classes (wl ad tc σ') t.heap ∧ KK D tc t ∧ va_D A (wl ad tc σ')) ∧ va_F A st t
theorem aw_iret (hC : Cx p s m args meth c o cc nL D tc) (hr : meth.sig.returnType = some .int) {v w : Int32} (hd : decode cc pc = .ok (.ireturn, 1)) (hv : v = w) (hσ : σ = σ') : AW p l e R s m args below meth c D ad tc nL A s.heap 0 0 (MQ below (Qr (some (.int w)) D ad tc σ' A) args s 0 0 A) pc L [.int v] σ := by
  subst hσ; subst hv
  intro H locs ls hP hD hS hl
  have hlocks := hC.2.2.2.2.2.2
  exact W.iret hC.1 hC.2.1 hr (fun t ht hW => ⟨⟨rfl, by rw [ht]; exact hP, hC.2.2.2.2.2.1.moved hW, hD⟩, hS.F ht⟩) hS.2.2 hd
theorem aw_zret (hC : Cx p s m args meth c o cc nL D tc) (hr : meth.sig.returnType = some .boolean) {v w : Int32} (h01 : v = 0 ∨ v = 1) (hd : decode cc pc = .ok (.ireturn, 1)) (hv : v = w) (hσ : σ = σ') : AW p l e R s m args below meth c D ad tc nL A s.heap 0 0 (MQ below (Qr (some (.int w)) D ad tc σ' A) args s 0 0 A) pc L [.int v] σ := by
  subst hσ; subst hv
  intro H locs ls hP hD hS hl
  have hlocks := hC.2.2.2.2.2.2
  exact W.zret hC.1 hC.2.1 hr (nar_b h01).1 (fun t ht hW => ⟨⟨rfl, by rw [ht]; exact hP, hC.2.2.2.2.2.1.moved hW, hD⟩, hS.F ht⟩) hS.2.2 hd
theorem aw_lret (hC : Cx p s m args meth c o cc nL D tc) (hr : meth.sig.returnType = some .long) {v w : Int64} (hd : decode cc pc = .ok (.lreturn, 1)) (hv : v = w) (hσ : σ = σ') : AW p l e R s m args below meth c D ad tc nL A s.heap 0 0 (MQ below (Qr (some (.long w)) D ad tc σ' A) args s 0 0 A) pc L [.long v] σ := by
  subst hσ; subst hv
  intro H locs ls hP hD hS hl
  have hlocks := hC.2.2.2.2.2.2
  exact W.lret hC.1 hC.2.1 hr (fun t ht hW => ⟨⟨rfl, by rw [ht]; exact hP, hC.2.2.2.2.2.1.moved hW, hD⟩, hS.F ht⟩) hS.2.2 hd
theorem aw_vret (hC : Cx p s m args meth c o cc nL D tc) (hr : meth.sig.returnType = none) (hd : decode cc pc = .ok (.return_, 1)) (hσ : σ = σ') : AW p l e R s m args below meth c D ad tc nL A s.heap 0 0 (MQ below (Qr none D ad tc σ' A) args s 0 0 A) pc L [] σ := by
  subst hσ
  intro H locs ls hP hD hS hl
  have hlocks := hC.2.2.2.2.2.2
  exact W.vret hC.1 hC.2.1 hr (fun t ht hW => ⟨⟨rfl, by rw [ht]; exact hP, hC.2.2.2.2.2.1.moved hW, hD⟩, hS.F ht⟩) hS.2.2 hd
end WK
/-- A METHOD'S CONTRACT: with these arguments and these cells it answers r, and leaves the cells σ' -/
def Ctr (y : MethodName) (bytes : ByteArray) (maxL : Nat) (ret : Option FieldType) (rm : Room) (as : List Value) (σ : Sg) (r : Option Value) (σ' : Sg) : Prop :=
  ∀ (l : Launch) (D : va_G) (ad : Nat → Nat) (tc : Nat → ClassId) (sz : Nat), Met l y (.code y bytes maxL ret :: tw) rm (va_Pc (as.map (cv ad)) (fun U => U.heap.size = sz ∧ va_P D classes (wl ad tc σ) U.heap ∧ KK D tc U ∧ va_D (fun _ => True) (wl ad tc σ))) (Qr r D ad tc σ' (va_A (wl ad tc σ) sz)) 0 0 (va_A (wl ad tc σ) sz)
theorem ct_start {y : MethodName} {bytes : ByteArray} {maxL : Nat} {ret : Option FieldType} {rm : Room} {as : List Value} {σ : Sg} {r : Option Value} {σ' : Sg} (o : Nat) (hy : plainName y.cls = true) (ho : y.cls = RN o) (hal : ∀ ad, (lg_sl (as.map (cv ad))).length ≤ maxL) (L : List (Nat × Value)) (hL : ∀ ad, clo ad L = lv_args 0 (as.map (cv ad)))
    (body : ∀ (p : Program) (l : Launch) (e : Env) (s : State) (m : MethodId) (args : Array Value) (below : List Frame) (meth : Method) (c : Code) (D : va_G) (ad : Nat → Nat) (tc : Nat → ClassId) (A : Nat → Prop), Cx p s m args meth c o bytes maxL D tc → (∀ q, s.heap.size ≤ q → A q) → meth.sig.returnType = ret →
      AW p l e rm s m args below meth c D ad tc maxL A s.heap 0 0 (MQ below (Qr r D ad tc σ' A) args s 0 0 A) 0 L [] σ) : Ctr y bytes maxL ret rm as σ r σ' := by
  intro l D ad tc sz
  refine Met.ofW (cc := bytes) (maxL := maxL) (ret := ret) hy rfl ?_
  intro p e s m args below meth c s₁ B hml hv
  obtain ⟨rfl, hsz, hP, hK, hD0⟩ := hv
  subst hsz
  have hts := atoms_spec (ws := .code y bytes maxL ret :: tw) B.pre
  have hown : s.vm.findClass (RN o) = some m.cls := ho ▸ findClass_of_methodNamed B.named
  have hD := hD0.self (sz := s.heap.size)
  have hl := lv_entry (as.map (cv ad)) (n := maxL) (hal ad)
  rw [lg_entry_eq]
  rw [← hL ad] at hl
  exact body p l e s m _ below meth c D ad tc (va_A (wl ad tc σ) s.heap.size) ⟨B.exec, B.bytes, hml, hown, fun w hw => hts w (List.mem_cons_of_mem _ hw), hK, B.notSynchronized⟩ (fun q h => Or.inr h) B.returns s.heap [] _ hP hD va_S.rf hl
/-- what the tables say of a method that is called on an object -/
def MtV (y : MethodName) (o : Nat) (bytes : ByteArray) (maxL : Nat) (ret : Option FieldType) (n : Nat) : Prop :=
  Cond.code y bytes maxL ret ∈ tw ∧ Cond.instanceMethod y ∈ tw ∧ Cond.selects (RN o) y y ∈ tw ∧ Cond.initialized (RN o) ∈ tw ∧ y.cls = RN o ∧ y.cls ≠ "java/lang/invoke/MethodHandle" ∧ y.cls ≠ "java/lang/invoke/VarHandle" ∧ (parseMethodDescriptor y.desc).map (fun d => d.parameters.length) = some n
def MtS (y : MethodName) (bytes : ByteArray) (maxL : Nat) (ret : Option FieldType) (n : Nat) : Prop :=
  Cond.code y bytes maxL ret ∈ tw ∧ Cond.static y ∈ tw ∧ Cond.initialized y.cls ∈ tw ∧ y.cls ≠ "java/lang/invoke/MethodHandle" ∧ y.cls ≠ "java/lang/invoke/VarHandle" ∧ (parseMethodDescriptor y.desc).map (fun d => d.parameters.length) = some n
theorem good_c {y : MethodName} {bytes : ByteArray} {maxL : Nat} {ret : Option FieldType} (h : Cond.code y bytes maxL ret ∈ tw) : GoodIn tw (.code y bytes maxL ret :: tw) := fun w hw => by
  rcases List.mem_cons.mp hw with rfl | hw
  · exact ⟨h, tw_good _ h⟩
  · exact ⟨hw, tw_good w hw⟩
section CALL
variable {p : Program} {l : Launch} {e : Env} {R : Room} {s : State} {m : MethodId} {args : Array Value} {below : List Frame} {meth : Method} {c : Code} {D : va_G} {ad : Nat → Nat} {tc : Nat → ClassId} {nL : Nat} {A : Nat → Prop} {H0 : Heap} {cells slots : Nat} {Q : State → Prop}
variable {o pc : Nat} {cc : ByteArray} {L : List (Nat × Value)} {st : List Value} {σ σ' : Sg}
theorem wl_free {H : Heap} {locs : List Loc} (hD : va_D A (wl ad tc σ)) (hS : va_S A H0 H locs) (hA : ∀ q, H0.size ≤ q → A q) : ∀ q, va_A (wl ad tc σ) H.size q → A q := by
  intro q h
  rcases h with ⟨k, e, h⟩ | h
  · exact hD.2 k (q, e) h
  · exact hA q (Nat.le_trans hS.1 h)
/-- behind a call -/
theorem aw_back {H : Heap} {locs : List Loc} {ls : Array Slot} {st0 rest : List Value} {r : Option Value} {a : Array Value}
    (hr : va_Run p l e R s m args below meth c H locs cells slots 0 0 (F0 m pc ls st0) (rest.map (cv ad)) (Qr r D ad tc σ' (va_A (wl ad tc σ) H.size) a) (va_A (wl ad tc σ) H.size))
    (hD : va_D A (wl ad tc σ)) (hS : va_S A H0 H locs) (hA : ∀ q, H0.size ≤ q → A q) (hl : lv_has ls nL (clo ad L)) (hrv : r.map (cv ad) = r)
    (kk : AW p l e R s m args below meth c D ad tc nL A H0 cells slots Q (pc + 3) L (r.toList ++ rest) σ') : W p l e R s m args below meth c H locs cells slots Q (F0 m pc ls st0) := by
  intro T hT X
  obtain ⟨v, st₀, t, T', LL, h0, X', hL, e1, e2, ⟨⟨hv, hP1, hK1, hD1⟩, hz, hk⟩, st⟩ := hr T hT X
  have hf := wl_free hD hS hA
  cases hv
  rw [h0] at hz hk
  have k1 := kk t.heap (locs ++ LL) ls hP1 (hD1.weaken (fun k q _ h => hf q.1 h)) ⟨Nat.le_trans hS.1 hz, fun q h1 h2 => by rw [hk q (Nat.lt_of_lt_of_le h1 hS.1) (fun z => h2 (hf q z))]; exact hS.2.1 q h1 h2, fun q hq => by
      rcases List.mem_append.mp hq with h | h
      · exact hS.2.2 q h
      · exact hf _ (hL q h)⟩ hl
  obtain ⟨t2, a1, b1⟩ := k1 T' e1 X'
  refine ⟨t2, st t2 ?_, b1⟩
  have e3 : (r.toList ++ rest).map (cv ad) = r.toList ++ rest.map (cv ad) := by
    rw [List.map_append]
    congr 1
    cases r with
    | none => rfl
    | some x => simpa using hrv
  rw [e3] at a1
  exact a1
theorem aw_callV (hC : Cx p s m args meth c o cc nL D tc) (hA : ∀ q, H0.size ≤ q → A q) {y : MethodName} {o2 : Nat} {bytes : ByteArray} {maxL n index b : Nat} {ret : Option FieldType} {rm : Room} {As rest : List Value} {r : Option Value}
    (hM : Ctr y bytes maxL ret rm (.ref b :: As) σ r σ') (hy : MtV y o2 bytes maxL ret n) (hli : Cond.methodLink (RN o) index y ∈ tw) (hd : decode cc pc = .ok (.invokevirtual index, 3)) (hb2 : ∃ ks, shp b = .inr (o2, ks)) (hn : As.length = n) (hst : st = As.reverse ++ .ref b :: rest) (hcat : (rest.map fun v => v.category).sum ≤ 8)
    (hR : (rm.cells = 0 ∧ rm.slots = 0) ∧ rm.frames + 1 ≤ R.frames ∧ 8 + (maxL + 11) + rm.locals ≤ R.locals) (hcs : cells ≤ R.cells ∧ slots ≤ R.slots) (hrv : r.map (cv ad) = r)
    (kk : AW p l e R s m args below meth c D ad tc nL A H0 cells slots Q (pc + 3) L (r.toList ++ rest) σ') : AW p l e R s m args below meth c D ad tc nL A H0 cells slots Q pc L st σ := by
  obtain ⟨hx, hb, hml, hown, hts, hK, hlocks⟩ := hC
  obtain ⟨h1, h2, h3, h4, h5, h6, h7, h8⟩ := hy
  subst hst
  intro H locs ls hP hD hS hl
  obtain ⟨ks, hks⟩ := hb2
  obtain ⟨hp, hc8, -⟩ := shp_obj hks
  obtain ⟨N, hcl, -⟩ := cls_at hc8
  have hw := wl_at (ad := ad) (tc := tc) (σ := σ) hp
  have hcel : cel ad tc (shp b) (σ.1 b) (σ.2 b) = .inr (o2, flds ad (σ.1 b) (σ.2 b) ks) := by rw [hks]; rfl
  rw [hcel] at hw
  refine aw_back (rest := rest) (r := r) (σ := σ) (σ' := σ') (va_runV (As := As.map (cv ad)) (rest := rest.map (cv ad)) (b := ad b) (Ts := tw) (own := RN o) (C := RN o2) ⟨hx, hb, hml, hown, hts⟩ (hM l D ad tc H.size) (cwV (C := RN o2) n hts (fun w hw => ?_) rfl hR.1.1 hR.1.2 ⟨h5, h6, h7, h8⟩ hR.2) ⟨fun a U g mk q => ?_, va_recv hK.1 hP hcl hw, fun U hU hW => ⟨rfl, by rw [hU], by rw [hU]; exact hP, hK.moved hW, hD.weaken (fun _ _ _ _ => trivial)⟩⟩ rfl (by simpa using hn) (by rw [hl.1]) (by simp [cv]) ?_ hd ⟨by omega, by omega⟩) hD hS hA hl hrv kk
  · unfold wsV at hw
    rcases List.mem_append.mp hw with hw | hw
    · simp only [List.mem_cons, List.not_mem_nil, or_false] at hw
      rcases hw with rfl | rfl | rfl | rfl
      · exact ⟨hli, tw_good _ hli⟩
      · exact ⟨h2, tw_good _ h2⟩
      · exact ⟨h3, tw_good _ h3⟩
      · exact ⟨h4, tw_good _ h4⟩
    · exact good_c h1 w hw
  · obtain ⟨q0, q1, qP, qK, qD⟩ := q
    exact ⟨q0, q1, qP, ⟨va_K.moved (u := U) (U := U.calling g mk a) (Vm.Alike.refl U.vm) qK.1, va_Nw.same rfl (rfl : U.vm = (U.calling g mk a).vm) qK.2⟩, qD⟩
  · refine lv_room ?_
    rw [List.map_map]
    have : ((fun v => v.category) ∘ cv ad) = fun v : Value => v.category := by funext v; exact cv_cat ad v
    rw [this]
    exact hcat
theorem aw_callS (hC : Cx p s m args meth c o cc nL D tc) (hA : ∀ q, H0.size ≤ q → A q) {y : MethodName} {bytes : ByteArray} {maxL n index : Nat} {ret : Option FieldType} {rm : Room} {As rest : List Value} {r : Option Value}
    (hM : Ctr y bytes maxL ret rm As σ r σ') (hy : MtS y bytes maxL ret n) (hli : Cond.methodLink (RN o) index y ∈ tw) (hd : decode cc pc = .ok (.invokestatic index, 3)) (hn : As.length = n) (hst : st = As.reverse ++ rest) (hcat : (rest.map fun v => v.category).sum ≤ 8)
    (hR : (rm.cells = 0 ∧ rm.slots = 0) ∧ rm.frames + 1 ≤ R.frames ∧ 8 + (maxL + 11) + rm.locals ≤ R.locals) (hcs : cells ≤ R.cells ∧ slots ≤ R.slots) (hrv : r.map (cv ad) = r)
    (kk : AW p l e R s m args below meth c D ad tc nL A H0 cells slots Q (pc + 3) L (r.toList ++ rest) σ') : AW p l e R s m args below meth c D ad tc nL A H0 cells slots Q pc L st σ := by
  obtain ⟨hx, hb, hml, hown, hts, hK, hlocks⟩ := hC
  obtain ⟨h1, h2, h4, h6, h7, h8⟩ := hy
  subst hst
  intro H locs ls hP hD hS hl
  refine aw_back (rest := rest) (r := r) (σ := σ) (σ' := σ') (va_runS (As := As.map (cv ad)) (rest := rest.map (cv ad)) (Ts := tw) (own := RN o) ⟨hx, hb, hml, hown, hts⟩ (hM l D ad tc H.size) ⟨callB_of n hts (good_c h1) rfl hR.1.1 hR.1.2 (hts _ h4) (hts _ hli) ⟨h6, h7, h8⟩ hR.2, hts _ h2⟩ ⟨fun a U g mk q => ?_, fun U hU hW => ⟨rfl, by rw [hU], by rw [hU]; exact hP, hK.moved hW, hD.weaken (fun _ _ _ _ => trivial)⟩⟩ rfl (by simpa using hn) (by rw [hl.1]) (by simp [cv]) ?_ hd ⟨by omega, by omega⟩) hD hS hA hl hrv kk
  · obtain ⟨q0, q1, qP, qK, qD⟩ := q
    exact ⟨q0, q1, qP, ⟨va_K.moved (u := U) (U := U.calling g mk a) (Vm.Alike.refl U.vm) qK.1, va_Nw.same rfl (rfl : U.vm = (U.calling g mk a).vm) qK.2⟩, qD⟩
  · refine lv_room ?_
    rw [List.map_map]
    have : ((fun v => v.category) ∘ cv ad) = fun v : Value => v.category := by funext v; exact cv_cat ad v
    rw [this]
    exact hcat
/-- the one call of a private method of the outer class -/
theorem aw_callN (hC : Cx p s m args meth c 2 cc nL D tc) (hA : ∀ q, H0.size ≤ q → A q) {bytes : ByteArray} {maxL n : Nat} {ret : Option FieldType} {rm : Room} {As rest : List Value} {r : Option Value}
    (hM : Ctr yX6_isBackGreat bytes maxL ret rm As σ r σ') (hy : MtS yX6_isBackGreat bytes maxL ret n) (hd : decode cc pc = .ok (.invokestatic 40, 3)) (hn : As.length = n) (hst : st = As.reverse ++ rest) (hcat : (rest.map fun v => v.category).sum ≤ 8)
    (hR : (rm.cells = 0 ∧ rm.slots = 0) ∧ rm.frames + 1 ≤ R.frames ∧ 8 + (maxL + 11) + rm.locals ≤ R.locals) (hcs : cells ≤ R.cells ∧ slots ≤ R.slots) (hrv : r.map (cv ad) = r)
    (kk : AW p l e R s m args below meth c D ad tc nL A H0 cells slots Q (pc + 3) L (r.toList ++ rest) σ') : AW p l e R s m args below meth c D ad tc nL A H0 cells slots Q pc L st σ := by
  obtain ⟨hx, hb, hml, hown, hts, hK, hlocks⟩ := hC
  obtain ⟨h1, h2, h4, h6, h7, h8⟩ := hy
  subst hst
  intro H locs ls hP hD hS hl
  refine aw_back (rest := rest) (r := r) (σ := σ) (σ' := σ') (va_runSN (As := As.map (cv ad)) (rest := rest.map (cv ad)) (Ts := tw) (own := RN 2) (host := RX6) (index := 40) ⟨hx, hb, hml, hown, hts⟩ (hM l D ad tc H.size) ⟨va_cnB n hts (good_c h1) rfl hR.1.1 hR.1.2 hK.2 (hts _ h4) ⟨h6, h7, h8⟩ hR.2, hts _ h2, trivial⟩ ⟨fun a U g mk q => ?_, fun U hU hW => ⟨rfl, by rw [hU], by rw [hU]; exact hP, hK.moved hW, hD.weaken (fun _ _ _ _ => trivial)⟩⟩ rfl (by simpa using hn) (by rw [hl.1]) (by simp [cv]) ?_ hd ⟨by omega, by omega⟩) hD hS hA hl hrv kk
  · obtain ⟨q0, q1, qP, qK, qD⟩ := q
    exact ⟨q0, q1, qP, ⟨va_K.moved (u := U) (U := U.calling g mk a) (Vm.Alike.refl U.vm) qK.1, va_Nw.same rfl (rfl : U.vm = (U.calling g mk a).vm) qK.2⟩, qD⟩
  · refine lv_room ?_
    rw [List.map_map]
    have : ((fun v => v.category) ∘ cv ad) = fun v : Value => v.category := by funext v; exact cv_cat ad v
    rw [this]
    exact hcat
end CALL
/-- a guard, and a call, in the functions that the walk gives -/
theorem gd {α : Type} {P : Prop} [Decidable P] {x : Option α} {z : α} (h : (if P then x else none) = some z) : P ∧ x = some z := by
  by_cases hp : P
  · rw [if_pos hp] at h; exact ⟨hp, h⟩
  · rw [if_neg hp] at h; cases h
theorem bd {α β : Type} {x : Option α} {f : α → Option β} {z : β} (h : x.bind f = some z) : ∃ q, x = some q ∧ f q = some z := by
  cases x with
  | none => cases h
  | some q => exact ⟨q, rfl, h⟩
