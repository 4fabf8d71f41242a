/-! THE FRAME: all cells as two functions (ints, longs) over places; every ref in an object is final: a ref is a place -/
abbrev Sg : Type := (Nat → Nat → Int32) × (Nat → Nat → Int64)
def uI (σ : Sg) (p k : Nat) (x : Int32) : Sg := (fun q => if q = p then upd (σ.1 p) k x else σ.1 q, σ.2)
def uJ (σ : Sg) (p k : Nat) (x : Int64) : Sg := (σ.1, fun q => if q = p then vp_updL (σ.2 p) k x else σ.2 q)
abbrev Shp : Type := (Nat × Nat) ⊕ (Nat × List Nat)
/-- the cells: an array (0 int, 1 boolean, 2 long; its length), or an object (its class, its fields: 0 int, 1 boolean, 2 long, q + 3 the cell at the place q) -/
def shp (p : Nat) : Shp := match p with
  | 0 => .inr (6, [4, 5, 7, 13, 15, 20, 0, 0, 0])
  | 1 => .inl (0, 24)
  | 2 => .inr (2, [6, 0, 0, 1])
  | 3 => .inl (0, 4)
  | 4 => .inr (3, [8, 9, 10, 11, 12, 0, 0])
  | 5 => .inl (0, 8)
  | 6 => .inl (1, 8)
  | 7 => .inl (0, 8)
  | 8 => .inl (0, 8)
  | 9 => .inl (0, 8)
  | 10 => .inr (5, [14, 0, 0])
  | 11 => .inl (0, 56)
  | 12 => .inr (1, [16, 17, 0, 18, 19, 0])
  | 13 => .inl (0, 16)
  | 14 => .inl (0, 16)
  | 15 => .inl (0, 16)
  | 16 => .inl (0, 16)
  | 17 => .inr (4, [21, 22, 1])
  | 18 => .inr (0, [1, 2, 2])
  | 19 => .inr (0, [1, 2, 2])
  | 20 => .inr (7, [0, 24, 0, 25, 26, 27, 28, 29, 0, 0, 0, 0, 30, 0, 1, 1, 0, 31, 32, 0, 33, 1, 2, 2, 2])
  | 21 => .inl (0, 24)
  | 22 => .inl (0, 8)
  | 23 => .inl (1, 8)
  | 24 => .inl (0, 8)
  | 25 => .inl (0, 8)
  | 26 => .inl (0, 8)
  | 27 => .inl (0, 4)
  | 28 => .inl (2, 16)
  | 29 => .inl (2, 16)
  | 30 => .inl (0, 17)
  | _ => .inl (3, 0)
def fv (ad : Nat → Nat) (f : Nat → Int32) (g : Nat → Int64) (k kd : Nat) : Value := match kd with
  | 0 => .int (f k)
  | 1 => .int (f k)
  | 2 => .long (g k)
  | q + 3 => .ref (ad q)
def flds (ad : Nat → Nat) (f : Nat → Int32) (g : Nat → Int64) (ks : List Nat) : List Value := ks.mapIdx (fv ad f g)
def cel (ad : Nat → Nat) (tc : Nat → ClassId) (sh : Shp) (f : Nat → Int32) (g : Nat → Int64) : va_E := match sh with
  | .inl (t, n) => .inl (tc t, n, if t = 2 then .inr (.inl g) else .inl f)
  | .inr (ci, ks) => .inr (ci, flds ad f g ks)
def wl (ad : Nat → Nat) (tc : Nat → ClassId) (σ : Sg) : va_W := (List.range 31).map fun p => (ad p, cel ad tc (shp p) (σ.1 p) (σ.2 p))
theorem wl_at {ad : Nat → Nat} {tc : Nat → ClassId} {σ : Sg} {p : Nat} (h : p < 31) : (wl ad tc σ)[p]? = some (ad p, cel ad tc (shp p) (σ.1 p) (σ.2 p)) := by
  simp [wl, h]
theorem wl_set {ad : Nat → Nat} {tc : Nat → ClassId} {σ σ' : Sg} {p : Nat} (hp : p < 31) (h : ∀ q, q ≠ p → σ'.1 q = σ.1 q ∧ σ'.2 q = σ.2 q) {e : va_E} (he : e = cel ad tc (shp p) (σ'.1 p) (σ'.2 p)) :
    (wl ad tc σ).set p (ad p, e) = wl ad tc σ' := by
  apply List.ext_getElem?
  intro i
  by_cases hi : i = p
  · subst hi
    rw [List.getElem?_set_self (by simp [wl, hp]), wl_at hp, he]
  · rw [List.getElem?_set_ne (Ne.symm hi)]
    by_cases h31 : i < 31
    · rw [wl_at h31, wl_at h31, (h i hi).1, (h i hi).2]
    · simp [wl, h31]
theorem flds_at (ad : Nat → Nat) (f : Nat → Int32) (g : Nat → Int64) (ks : List Nat) (k : Nat) : (flds ad f g ks)[k]? = (ks[k]?).map (fv ad f g k) := by
  simp [flds, List.getElem?_mapIdx]
theorem fv_ne {ad : Nat → Nat} {f : Nat → Int32} {g : Nat → Int64} {i k : Nat} (h : i ≠ k) (x : Int32) (y : Int64) (kd : Nat) : fv ad (upd f k x) g i kd = fv ad f g i kd ∧ fv ad f (vp_updL g k y) i kd = fv ad f g i kd := by
  unfold fv
  split <;> simp [upd, vp_updL, h]
theorem flds_setI {ad : Nat → Nat} {f : Nat → Int32} {g : Nat → Int64} {ks : List Nat} {k kd : Nat} (hk : ks[k]? = some kd) (h01 : kd = 0 ∨ kd = 1) (x : Int32) : (flds ad f g ks).set k (.int x) = flds ad (upd f k x) g ks := by
  have hl := (List.getElem?_eq_some_iff.mp hk).1
  apply List.ext_getElem?
  intro i
  by_cases hi : i = k
  · subst hi
    rw [List.getElem?_set_self (by simpa [flds] using hl), flds_at, hk]
    rcases h01 with rfl | rfl <;> simp [fv, upd]
  · rw [List.getElem?_set_ne (Ne.symm hi), flds_at, flds_at]
    cases ks[i]? with
    | none => rfl
    | some z => simp [(fv_ne (ad := ad) (f := f) (g := g) hi x 0 z).1]
theorem flds_setJ {ad : Nat → Nat} {f : Nat → Int32} {g : Nat → Int64} {ks : List Nat} {k : Nat} (hk : ks[k]? = some 2) (x : Int64) : (flds ad f g ks).set k (.long x) = flds ad f (vp_updL g k x) ks := by
  have hl := (List.getElem?_eq_some_iff.mp hk).1
  apply List.ext_getElem?
  intro i
  by_cases hi : i = k
  · subst hi
    rw [List.getElem?_set_self (by simpa [flds] using hl), flds_at, hk]
    simp [fv, vp_updL]
  · rw [List.getElem?_set_ne (Ne.symm hi), flds_at, flds_at]
    cases ks[i]? with
    | none => rfl
    | some z => simp [(fv_ne (ad := ad) (f := f) (g := g) hi 0 x z).2]
/-- the shape keeps to the classes: every place's object has the class's fields, and kinds are the descriptors' -/
def dk (kd : Nat) (d : String) (fin : Bool) : Bool := match kd with
  | 0 => d == "I" && !fin
  | 1 => d == "Z" && !fin
  | 2 => d == "J" && !fin
  | _ + 3 => fin
def shp_good (p : Nat) : Bool := match shp p with
  | .inl (t, n) => decide (t < 3) && decide (n < 100)
  | .inr (ci, ks) => decide (ci < 8) && (match classes[ci]? with
    | none => false
    | some q => decide (ks.length = q.2.2) && (List.range q.2.2).all (fun k => match ks[k]? with
      | none => false
      | some kd => dk kd (TC ci k).2.2.1 (TC ci k).2.2.2))
theorem shp_ok : ∀ p, p < 31 → shp_good p = true := by decide +kernel
theorem shp_lt {p : Nat} (h : ∀ n, shp p ≠ .inl (3, n)) : p < 31 := by
  rcases Nat.lt_or_ge p 31 with h1 | h1
  · exact h1
  · exfalso
    obtain ⟨j, rfl⟩ : ∃ j, p = j + 31 := ⟨p - 31, by omega⟩
    exact h 0 rfl
theorem cls_at {ci : Nat} (h : ci < 8) : ∃ N, classes[ci]? = some (RN ci, TC ci, N) ∧ (∀ w ∈ u_ws (RN ci) (TC ci) N, w ∈ lw_tbl) ∧ (∃ ty : Nat → FieldType, ∀ k, k < N → parseFieldDescriptor (TC ci k).2.2.1 = some (ty k)) ∧ ∀ a, a < N → ∀ b, b < N → a ≠ b → (TC ci a).2.1 ≠ (TC ci b).2.1 := by
  match ci, h with
  | 0, _ => exact ⟨3, rfl, cl_i0, ⟨tyX0, tyX0_ok⟩, nmX0⟩
  | 1, _ => exact ⟨6, rfl, cl_i1, ⟨tyX1, tyX1_ok⟩, nmX1⟩
  | 2, _ => exact ⟨4, rfl, cl_i2, ⟨tyX2, tyX2_ok⟩, nmX2⟩
  | 3, _ => exact ⟨7, rfl, cl_i3, ⟨tyX3, tyX3_ok⟩, nmX3⟩
  | 4, _ => exact ⟨3, rfl, cl_i4, ⟨tyX4, tyX4_ok⟩, nmX4⟩
  | 5, _ => exact ⟨3, rfl, cl_i5, ⟨tyX5, tyX5_ok⟩, nmX5⟩
  | 6, _ => exact ⟨9, rfl, cl_i6, ⟨tyX6, tyX6_ok⟩, nmX6⟩
  | 7, _ => exact ⟨25, rfl, cl_i7, ⟨tyX7, tyX7_ok⟩, nmX7⟩
  | n + 8, h => omega
theorem lays_good {C : String} {T : u_T} {N : Nat} : ∀ w ∈ u_ws C T N, goodWord w = true := by
  intro w hw
  obtain ⟨k, -, rfl⟩ := List.mem_map.mp hw
  unfold u_lay
  split <;> rfl
theorem lays_tw {C : String} {T : u_T} {N : Nat} (h : ∀ w ∈ u_ws C T N, w ∈ lw_tbl) : ∀ w ∈ u_ws C T N, w ∈ tw := fun w hw => List.mem_filter.mpr ⟨h w hw, lays_good w hw⟩
theorem shp_obj {p ci : Nat} {ks : List Nat} (h : shp p = .inr (ci, ks)) : p < 31 ∧ ci < 8 ∧ ∀ N, classes[ci]? = some (RN ci, TC ci, N) → ks.length = N ∧ ∀ k kd, ks[k]? = some kd → dk kd (TC ci k).2.2.1 (TC ci k).2.2.2 = true := by
  have hp : p < 31 := shp_lt (fun n e => by rw [h] at e; cases e)
  have hg := shp_ok p hp
  unfold shp_good at hg
  rw [h] at hg
  simp only [Bool.and_eq_true, decide_eq_true_eq] at hg
  obtain ⟨hc, hg⟩ := hg
  refine ⟨hp, hc, fun N hN => ?_⟩
  rw [hN] at hg
  simp only [Bool.and_eq_true, decide_eq_true_eq, List.all_eq_true, List.mem_range] at hg
  refine ⟨hg.1, fun k kd hk => ?_⟩
  have h2 := hg.2 k (by rw [← hg.1]; exact (List.getElem?_eq_some_iff.mp hk).1)
  rw [hk] at h2
  exact h2
theorem shp_arr {p t n : Nat} (h : shp p = .inl (t, n)) (ht : t ≠ 3) : p < 31 ∧ t < 3 ∧ n < 100 := by
  have hp : p < 31 := shp_lt (fun n e => by rw [h] at e; cases e; exact ht rfl)
  have hg := shp_ok p hp
  unfold shp_good at hg
  rw [h] at hg
  simp only [Bool.and_eq_true, decide_eq_true_eq] at hg
  exact ⟨hp, hg⟩
