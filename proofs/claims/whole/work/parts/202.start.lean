/-! FROM THE LAW'S ENTRY to its loop: the two objects come; the claim is then one of functions -/
/-- the cells of two new objects -/
def sg0 : Sg := (fun p k => if p = 4 then (if k = 6 then 10 else 0) else if p = 20 then (if k = 8 then 10 else 0) else 0, fun _ _ => 0)
def ad0 (q0v : Nat) (u : Nat → Nat) (q8v : Nat) (v : Nat → Nat) (b : Nat) (p : Nat) : Nat := match p with
  | 0 => q0v
  | 1 => (u 0)
  | 2 => (u 1)
  | 3 => (u 2)
  | 4 => (u 3)
  | 5 => (u 4)
  | 6 => (u 5)
  | 7 => (u 6)
  | 8 => (u 7)
  | 9 => (u 8)
  | 10 => (u 9)
  | 11 => (u 10)
  | 12 => (u 11)
  | 13 => (u 12)
  | 14 => (u 13)
  | 15 => (u 14)
  | 16 => (u 15)
  | 17 => (u 16)
  | 18 => (u 17)
  | 19 => (u 18)
  | 20 => q8v
  | 21 => (v 0)
  | 22 => (v 1)
  | 23 => (v 2)
  | 24 => (v 3)
  | 25 => (v 4)
  | 26 => (v 5)
  | 27 => (v 6)
  | 28 => (v 7)
  | 29 => (v 8)
  | 30 => (v 9)
  | _ => b
theorem flds_cons (ad : Nat → Nat) (f : Nat → Int32) (g : Nat → Int64) : ∀ (ks : List Nat) (i : Nat), ks.mapIdx (fun k kd => fv ad f g (i + k) kd) = (match ks with
  | [] => []
  | k :: ks => fv ad f g i k :: ks.mapIdx (fun j kd => fv ad f g (i + 1 + j) kd))
  | [], i => rfl
  | k :: ks, i => by
    rw [List.mapIdx_cons]
    have h : (fun (j : Nat) (kd : Nat) => fv ad f g (i + (j + 1)) kd) = fun j kd => fv ad f g (i + 1 + j) kd := by
      funext j kd
      rw [show i + (j + 1) = i + 1 + j by omega]
    rw [h]
    rfl
def fldr (ad : Nat → Nat) (f : Nat → Int32) (g : Nat → Int64) (i : Nat) (ks : List Nat) : List Value := match ks with
  | [] => []
  | k :: ks => fv ad f g i k :: fldr ad f g (i + 1) ks
theorem flds_r (ad : Nat → Nat) (f : Nat → Int32) (g : Nat → Int64) : ∀ (ks : List Nat) (i : Nat), ks.mapIdx (fun k kd => fv ad f g (i + k) kd) = fldr ad f g i ks
  | [], i => rfl
  | k :: ks, i => by
    rw [flds_cons]
    show _ :: _ = _ :: _
    rw [flds_r]
theorem flds_f (ad : Nat → Nat) (f : Nat → Int32) (g : Nat → Int64) (ks : List Nat) : flds ad f g ks = fldr ad f g 0 ks := by
  have h := flds_r ad f g ks 0
  simp only [Nat.zero_add] at h
  exact h
theorem cel_f (ad : Nat → Nat) (tc : Nat → ClassId) (sh : Shp) (f : Nat → Int32) (g : Nat → Int64) : cel ad tc sh f g = (match sh with
  | .inl (t, n) => .inl (tc t, n, if t = 2 then .inr (.inl g) else .inl f)
  | .inr (ci, ks) => .inr (ci, fldr ad f g 0 ks)) := by
  unfold cel
  split
  · rfl
  · rw [flds_f]
theorem sg0_z {p : Nat} (h4 : p ≠ 4) (h20 : p ≠ 20) : sg0.1 p = fz := by
  funext k
  simp [sg0, fz, h4, h20]
theorem wc_0 (tc : Nat → ClassId) (q0v : Nat) (u : Nat → Nat) (q8v : Nat) (v : Nat → Nat) (b : Nat) : cel (ad0 q0v u q8v v b) tc (shp 0) (sg0.1 0) (sg0.2 0) = .inr (6, [.ref (u 0), .ref (u 1), .ref (u 3), .ref (u 9), .ref (u 11), .ref (u 16), .int 0, .int 0, .int 0]) := by
  rw [cel_f]
  rfl
theorem wc_1 (tc : Nat → ClassId) (q0v : Nat) (u : Nat → Nat) (q8v : Nat) (v : Nat → Nat) (b : Nat) : cel (ad0 q0v u q8v v b) tc (shp 1) (sg0.1 1) (sg0.2 1) = .inl (tc 0, 24, .inl fz) := by
  rw [sg0_z (by decide) (by decide)]
  rfl
theorem wc_2 (tc : Nat → ClassId) (q0v : Nat) (u : Nat → Nat) (q8v : Nat) (v : Nat → Nat) (b : Nat) : cel (ad0 q0v u q8v v b) tc (shp 2) (sg0.1 2) (sg0.2 2) = .inr (2, [.ref (u 2), .int 0, .int 0, .int 0]) := by
  rw [cel_f]
  rfl
theorem wc_3 (tc : Nat → ClassId) (q0v : Nat) (u : Nat → Nat) (q8v : Nat) (v : Nat → Nat) (b : Nat) : cel (ad0 q0v u q8v v b) tc (shp 3) (sg0.1 3) (sg0.2 3) = .inl (tc 0, 4, .inl fz) := by
  rw [sg0_z (by decide) (by decide)]
  rfl
theorem wc_4 (tc : Nat → ClassId) (q0v : Nat) (u : Nat → Nat) (q8v : Nat) (v : Nat → Nat) (b : Nat) : cel (ad0 q0v u q8v v b) tc (shp 4) (sg0.1 4) (sg0.2 4) = .inr (3, [.ref (u 4), .ref (u 5), .ref (u 6), .ref (u 7), .ref (u 8), .int 0, .int 10]) := by
  rw [cel_f]
  rfl
theorem wc_5 (tc : Nat → ClassId) (q0v : Nat) (u : Nat → Nat) (q8v : Nat) (v : Nat → Nat) (b : Nat) : cel (ad0 q0v u q8v v b) tc (shp 5) (sg0.1 5) (sg0.2 5) = .inl (tc 0, 8, .inl fz) := by
  rw [sg0_z (by decide) (by decide)]
  rfl
theorem wc_6 (tc : Nat → ClassId) (q0v : Nat) (u : Nat → Nat) (q8v : Nat) (v : Nat → Nat) (b : Nat) : cel (ad0 q0v u q8v v b) tc (shp 6) (sg0.1 6) (sg0.2 6) = .inl (tc 1, 8, .inl fz) := by
  rw [sg0_z (by decide) (by decide)]
  rfl
theorem wc_7 (tc : Nat → ClassId) (q0v : Nat) (u : Nat → Nat) (q8v : Nat) (v : Nat → Nat) (b : Nat) : cel (ad0 q0v u q8v v b) tc (shp 7) (sg0.1 7) (sg0.2 7) = .inl (tc 0, 8, .inl fz) := by
  rw [sg0_z (by decide) (by decide)]
  rfl
theorem wc_8 (tc : Nat → ClassId) (q0v : Nat) (u : Nat → Nat) (q8v : Nat) (v : Nat → Nat) (b : Nat) : cel (ad0 q0v u q8v v b) tc (shp 8) (sg0.1 8) (sg0.2 8) = .inl (tc 0, 8, .inl fz) := by
  rw [sg0_z (by decide) (by decide)]
  rfl
theorem wc_9 (tc : Nat → ClassId) (q0v : Nat) (u : Nat → Nat) (q8v : Nat) (v : Nat → Nat) (b : Nat) : cel (ad0 q0v u q8v v b) tc (shp 9) (sg0.1 9) (sg0.2 9) = .inl (tc 0, 8, .inl fz) := by
  rw [sg0_z (by decide) (by decide)]
  rfl
theorem wc_10 (tc : Nat → ClassId) (q0v : Nat) (u : Nat → Nat) (q8v : Nat) (v : Nat → Nat) (b : Nat) : cel (ad0 q0v u q8v v b) tc (shp 10) (sg0.1 10) (sg0.2 10) = .inr (5, [.ref (u 10), .int 0, .int 0]) := by
  rw [cel_f]
  rfl
theorem wc_11 (tc : Nat → ClassId) (q0v : Nat) (u : Nat → Nat) (q8v : Nat) (v : Nat → Nat) (b : Nat) : cel (ad0 q0v u q8v v b) tc (shp 11) (sg0.1 11) (sg0.2 11) = .inl (tc 0, 56, .inl fz) := by
  rw [sg0_z (by decide) (by decide)]
  rfl
theorem wc_12 (tc : Nat → ClassId) (q0v : Nat) (u : Nat → Nat) (q8v : Nat) (v : Nat → Nat) (b : Nat) : cel (ad0 q0v u q8v v b) tc (shp 12) (sg0.1 12) (sg0.2 12) = .inr (1, [.ref (u 12), .ref (u 13), .int 0, .ref (u 14), .ref (u 15), .int 0]) := by
  rw [cel_f]
  rfl
theorem wc_13 (tc : Nat → ClassId) (q0v : Nat) (u : Nat → Nat) (q8v : Nat) (v : Nat → Nat) (b : Nat) : cel (ad0 q0v u q8v v b) tc (shp 13) (sg0.1 13) (sg0.2 13) = .inl (tc 0, 16, .inl fz) := by
  rw [sg0_z (by decide) (by decide)]
  rfl
theorem wc_14 (tc : Nat → ClassId) (q0v : Nat) (u : Nat → Nat) (q8v : Nat) (v : Nat → Nat) (b : Nat) : cel (ad0 q0v u q8v v b) tc (shp 14) (sg0.1 14) (sg0.2 14) = .inl (tc 0, 16, .inl fz) := by
  rw [sg0_z (by decide) (by decide)]
  rfl
theorem wc_15 (tc : Nat → ClassId) (q0v : Nat) (u : Nat → Nat) (q8v : Nat) (v : Nat → Nat) (b : Nat) : cel (ad0 q0v u q8v v b) tc (shp 15) (sg0.1 15) (sg0.2 15) = .inl (tc 0, 16, .inl fz) := by
  rw [sg0_z (by decide) (by decide)]
  rfl
theorem wc_16 (tc : Nat → ClassId) (q0v : Nat) (u : Nat → Nat) (q8v : Nat) (v : Nat → Nat) (b : Nat) : cel (ad0 q0v u q8v v b) tc (shp 16) (sg0.1 16) (sg0.2 16) = .inl (tc 0, 16, .inl fz) := by
  rw [sg0_z (by decide) (by decide)]
  rfl
theorem wc_17 (tc : Nat → ClassId) (q0v : Nat) (u : Nat → Nat) (q8v : Nat) (v : Nat → Nat) (b : Nat) : cel (ad0 q0v u q8v v b) tc (shp 17) (sg0.1 17) (sg0.2 17) = .inr (4, [.ref (u 17), .ref (u 18), .int 0]) := by
  rw [cel_f]
  rfl
theorem wc_18 (tc : Nat → ClassId) (q0v : Nat) (u : Nat → Nat) (q8v : Nat) (v : Nat → Nat) (b : Nat) : cel (ad0 q0v u q8v v b) tc (shp 18) (sg0.1 18) (sg0.2 18) = .inr (0, [.int 0, .long 0, .long 0]) := by
  rw [cel_f]
  rfl
theorem wc_19 (tc : Nat → ClassId) (q0v : Nat) (u : Nat → Nat) (q8v : Nat) (v : Nat → Nat) (b : Nat) : cel (ad0 q0v u q8v v b) tc (shp 19) (sg0.1 19) (sg0.2 19) = .inr (0, [.int 0, .long 0, .long 0]) := by
  rw [cel_f]
  rfl
theorem wc_20 (tc : Nat → ClassId) (q0v : Nat) (u : Nat → Nat) (q8v : Nat) (v : Nat → Nat) (b : Nat) : cel (ad0 q0v u q8v v b) tc (shp 20) (sg0.1 20) (sg0.2 20) = .inr (7, [.int 0, .ref (v 0), .int 0, .ref (v 1), .ref (v 2), .ref (v 3), .ref (v 4), .ref (v 5), .int 10, .int 0, .int 0, .int 0, .ref (v 6), .int 0, .int 0, .int 0, .int 0, .ref (v 7), .ref (v 8), .int 0, .ref (v 9), .int 0, .long 0, .long 0, .long 0]) := by
  rw [cel_f]
  rfl
theorem wc_21 (tc : Nat → ClassId) (q0v : Nat) (u : Nat → Nat) (q8v : Nat) (v : Nat → Nat) (b : Nat) : cel (ad0 q0v u q8v v b) tc (shp 21) (sg0.1 21) (sg0.2 21) = .inl (tc 0, 24, .inl fz) := by
  rw [sg0_z (by decide) (by decide)]
  rfl
theorem wc_22 (tc : Nat → ClassId) (q0v : Nat) (u : Nat → Nat) (q8v : Nat) (v : Nat → Nat) (b : Nat) : cel (ad0 q0v u q8v v b) tc (shp 22) (sg0.1 22) (sg0.2 22) = .inl (tc 0, 8, .inl fz) := by
  rw [sg0_z (by decide) (by decide)]
  rfl
theorem wc_23 (tc : Nat → ClassId) (q0v : Nat) (u : Nat → Nat) (q8v : Nat) (v : Nat → Nat) (b : Nat) : cel (ad0 q0v u q8v v b) tc (shp 23) (sg0.1 23) (sg0.2 23) = .inl (tc 1, 8, .inl fz) := by
  rw [sg0_z (by decide) (by decide)]
  rfl
theorem wc_24 (tc : Nat → ClassId) (q0v : Nat) (u : Nat → Nat) (q8v : Nat) (v : Nat → Nat) (b : Nat) : cel (ad0 q0v u q8v v b) tc (shp 24) (sg0.1 24) (sg0.2 24) = .inl (tc 0, 8, .inl fz) := by
  rw [sg0_z (by decide) (by decide)]
  rfl
theorem wc_25 (tc : Nat → ClassId) (q0v : Nat) (u : Nat → Nat) (q8v : Nat) (v : Nat → Nat) (b : Nat) : cel (ad0 q0v u q8v v b) tc (shp 25) (sg0.1 25) (sg0.2 25) = .inl (tc 0, 8, .inl fz) := by
  rw [sg0_z (by decide) (by decide)]
  rfl
theorem wc_26 (tc : Nat → ClassId) (q0v : Nat) (u : Nat → Nat) (q8v : Nat) (v : Nat → Nat) (b : Nat) : cel (ad0 q0v u q8v v b) tc (shp 26) (sg0.1 26) (sg0.2 26) = .inl (tc 0, 8, .inl fz) := by
  rw [sg0_z (by decide) (by decide)]
  rfl
theorem wc_27 (tc : Nat → ClassId) (q0v : Nat) (u : Nat → Nat) (q8v : Nat) (v : Nat → Nat) (b : Nat) : cel (ad0 q0v u q8v v b) tc (shp 27) (sg0.1 27) (sg0.2 27) = .inl (tc 0, 4, .inl fz) := by
  rw [sg0_z (by decide) (by decide)]
  rfl
theorem wc_28 (tc : Nat → ClassId) (q0v : Nat) (u : Nat → Nat) (q8v : Nat) (v : Nat → Nat) (b : Nat) : cel (ad0 q0v u q8v v b) tc (shp 28) (sg0.1 28) (sg0.2 28) = .inl (tc 2, 16, .inr (.inl gz)) := by
  rw [sg0_z (by decide) (by decide)]
  rfl
theorem wc_29 (tc : Nat → ClassId) (q0v : Nat) (u : Nat → Nat) (q8v : Nat) (v : Nat → Nat) (b : Nat) : cel (ad0 q0v u q8v v b) tc (shp 29) (sg0.1 29) (sg0.2 29) = .inl (tc 2, 16, .inr (.inl gz)) := by
  rw [sg0_z (by decide) (by decide)]
  rfl
theorem wc_30 (tc : Nat → ClassId) (q0v : Nat) (u : Nat → Nat) (q8v : Nat) (v : Nat → Nat) (b : Nat) : cel (ad0 q0v u q8v v b) tc (shp 30) (sg0.1 30) (sg0.2 30) = .inl (tc 0, 17, .inl fz) := by
  rw [sg0_z (by decide) (by decide)]
  rfl
theorem wl_list (ad : Nat → Nat) (tc : Nat → ClassId) (σ : Sg) : wl ad tc σ = [(ad 0, cel ad tc (shp 0) (σ.1 0) (σ.2 0)), (ad 1, cel ad tc (shp 1) (σ.1 1) (σ.2 1)), (ad 2, cel ad tc (shp 2) (σ.1 2) (σ.2 2)), (ad 3, cel ad tc (shp 3) (σ.1 3) (σ.2 3)), (ad 4, cel ad tc (shp 4) (σ.1 4) (σ.2 4)), (ad 5, cel ad tc (shp 5) (σ.1 5) (σ.2 5)), (ad 6, cel ad tc (shp 6) (σ.1 6) (σ.2 6)), (ad 7, cel ad tc (shp 7) (σ.1 7) (σ.2 7)), (ad 8, cel ad tc (shp 8) (σ.1 8) (σ.2 8)), (ad 9, cel ad tc (shp 9) (σ.1 9) (σ.2 9)), (ad 10, cel ad tc (shp 10) (σ.1 10) (σ.2 10)), (ad 11, cel ad tc (shp 11) (σ.1 11) (σ.2 11)), (ad 12, cel ad tc (shp 12) (σ.1 12) (σ.2 12)), (ad 13, cel ad tc (shp 13) (σ.1 13) (σ.2 13)), (ad 14, cel ad tc (shp 14) (σ.1 14) (σ.2 14)), (ad 15, cel ad tc (shp 15) (σ.1 15) (σ.2 15)), (ad 16, cel ad tc (shp 16) (σ.1 16) (σ.2 16)), (ad 17, cel ad tc (shp 17) (σ.1 17) (σ.2 17)), (ad 18, cel ad tc (shp 18) (σ.1 18) (σ.2 18)), (ad 19, cel ad tc (shp 19) (σ.1 19) (σ.2 19)), (ad 20, cel ad tc (shp 20) (σ.1 20) (σ.2 20)), (ad 21, cel ad tc (shp 21) (σ.1 21) (σ.2 21)), (ad 22, cel ad tc (shp 22) (σ.1 22) (σ.2 22)), (ad 23, cel ad tc (shp 23) (σ.1 23) (σ.2 23)), (ad 24, cel ad tc (shp 24) (σ.1 24) (σ.2 24)), (ad 25, cel ad tc (shp 25) (σ.1 25) (σ.2 25)), (ad 26, cel ad tc (shp 26) (σ.1 26) (σ.2 26)), (ad 27, cel ad tc (shp 27) (σ.1 27) (σ.2 27)), (ad 28, cel ad tc (shp 28) (σ.1 28) (σ.2 28)), (ad 29, cel ad tc (shp 29) (σ.1 29) (σ.2 29)), (ad 30, cel ad tc (shp 30) (σ.1 30) (σ.2 30))] := rfl
set_option maxRecDepth 100000 in
theorem wl0 (tc : Nat → ClassId) (q0v : Nat) (u : Nat → Nat) (q8v : Nat) (v : Nat → Nat) (b : Nat) : wl (ad0 q0v u q8v v b) tc sg0 = w_ct_ss_init tc q0v u ++ w_ct_mo_init tc q8v v := by
  rw [wl_list, wc_0, wc_1, wc_2, wc_3, wc_4, wc_5, wc_6, wc_7, wc_8, wc_9, wc_10, wc_11, wc_12, wc_13, wc_14, wc_15, wc_16, wc_17, wc_18, wc_19, wc_20, wc_21, wc_22, wc_23, wc_24, wc_25, wc_26, wc_27, wc_28, wc_29, wc_30]
  rfl
theorem nests_in : ∀ w ∈ nests, w ∈ lw_tbl := by decide +kernel
set_option maxHeartbeats 4000000 in
set_option maxRecDepth 100000 in
theorem start_of (hpure : ∀ (L : Nat), L ≤ 2048 → ∀ xs : Nat → Int32, ∃ N n, f_law_c18 N L xs n 0 sg0 = some 1) {p : Program} {e : Env} {s : State} {m : MethodId} {below : List Frame} {meth : Method} {c : Code} (l : Launch) {b L : Nat} {xs : Nat → Int32} (hL : L ≤ 2048) (C0 : lw_At p s m meth c b L xs) : W p l e room_1 s m #[Value.ref b] below meth c s.heap [] 0 0 (lw_Z below #[Value.ref b] s) (entryFrame m ([Value.ref b] : List Value).toArray 4) := by
  obtain ⟨hx, hb, hr, hml, hown, hts0, hX, hbl, hlocks, hgv⟩ := id C0
  have hts : ∀ w ∈ tw, w.before #[Value.ref b] s = true := fun w hw => hts0 w (tw_sub w hw)
  have hA : ∀ q : Nat, s.heap.size ≤ q → (fun q : Nat => s.heap.size ≤ q) q := fun _ h => h
  obtain ⟨c0, iS0, hKn0⟩ := u_known (C := RX0) (T := TX0) (N := 3) (n := 3) hts (lays_tw cl_i0) (hts _ (tw_of 208 (by decide +kernel) rfl))
  obtain ⟨c1, iS1, hKn1⟩ := u_known (C := RX1) (T := TX1) (N := 6) (n := 6) hts (lays_tw cl_i1) (hts _ (tw_of 174 (by decide +kernel) rfl))
  obtain ⟨c2, iS2, hKn2⟩ := u_known (C := RX2) (T := TX2) (N := 4) (n := 4) hts (lays_tw cl_i2) (hts _ (tw_of 92 (by decide +kernel) rfl))
  obtain ⟨c3, iS3, hKn3⟩ := u_known (C := RX3) (T := TX3) (N := 7) (n := 7) hts (lays_tw cl_i3) (hts _ (tw_of 112 (by decide +kernel) rfl))
  obtain ⟨c4, iS4, hKn4⟩ := u_known (C := RX4) (T := TX4) (N := 3) (n := 3) hts (lays_tw cl_i4) (hts _ (tw_of 202 (by decide +kernel) rfl))
  obtain ⟨c5, iS5, hKn5⟩ := u_known (C := RX5) (T := TX5) (N := 3) (n := 3) hts (lays_tw cl_i5) (hts _ (tw_of 157 (by decide +kernel) rfl))
  obtain ⟨c6, iS6, hKn6⟩ := u_known (C := RX6) (T := TX6) (N := 9) (n := 9) hts (lays_tw cl_i6) (hts _ (tw_of 84 (by decide +kernel) rfl))
  obtain ⟨c7, iS7, hKn7⟩ := u_known (C := RX7) (T := TX7) (N := 25) (n := 25) hts (lays_tw cl_i7) (hts _ (tw_of 647 (by decide +kernel) rfl))
  obtain ⟨dC, dI, hKc⟩ : ∃ (dC : Nat → ClassId) (dI : Nat → Nat → Nat), ∀ (k : Nat) (q : vw_C), classes[k]? = some q → u_Kn s q.1 q.2.1 q.2.2 (dC k) (dI k) := by
    refine ⟨fun k => match k with | 0 => c0 | 1 => c1 | 2 => c2 | 3 => c3 | 4 => c4 | 5 => c5 | 6 => c6 | _ => c7, fun k => match k with | 0 => iS0 | 1 => iS1 | 2 => iS2 | 3 => iS3 | 4 => iS4 | 5 => iS5 | 6 => iS6 | _ => iS7, ?_⟩
    intro k q hq
    match k, hq with
    | 0, hq => cases hq; exact hKn0
    | 1, hq => cases hq; exact hKn1
    | 2, hq => cases hq; exact hKn2
    | 3, hq => cases hq; exact hKn3
    | 4, hq => cases hq; exact hKn4
    | 5, hq => cases hq; exact hKn5
    | 6, hq => cases hq; exact hKn6
    | 7, hq => cases hq; exact hKn7
    | k + 8, hq => simp [classes] at hq
  obtain ⟨a0, k0, p0, f0, g0, h0⟩ := Cond.arrayClass_spec (type := .int) (hts _ (tw_of 110 (by decide +kernel) rfl))
  obtain ⟨a1, k1, p1, f1, g1, h1⟩ := Cond.arrayClass_spec (type := .boolean) (hts _ (tw_of 155 (by decide +kernel) rfl))
  obtain ⟨a2, k2, p2, f2, g2, h2⟩ := Cond.arrayClass_spec (type := .long) (hts _ (tw_of 728 (by decide +kernel) rfl))
  obtain ⟨tc, et0, et1, et2⟩ : ∃ tc : Nat → ClassId, tc 0 = a0 ∧ tc 1 = a1 ∧ tc 2 = a2 := ⟨fun k => match k with | 0 => a0 | 1 => a1 | _ => a2, rfl, rfl, rfl⟩
  have hKI : KI (dC, dI) tc s := by
    refine ⟨⟨⟨hKc, fun k q hk => ?_⟩, va_Nw.of rfl (hts0 _ (List.mem_of_getElem? (i := 333) (by decide +kernel)))⟩, fun w hw => ?_⟩
    · match k, hk with
      | 0, hk =>
        cases hk
        rw [et0]
        exact ⟨fun n z => ⟨fun k h => (by cases h), k0, g0, p0, h0⟩, f0⟩
      | 1, hk =>
        cases hk
        rw [et1]
        exact ⟨fun n z => ⟨fun k h => (by cases h), k1, g1, p1, h1⟩, f1⟩
      | 2, hk =>
        cases hk
        rw [et2]
        exact ⟨fun n z => ⟨fun k h => (by cases h), k2, g2, p2, h2⟩, f2⟩
      | k + 3, hk => simp [tys] at hk
    · have hn : w ∈ lw_tbl := nests_in w hw
      obtain ⟨a, i, y, hh, rfl⟩ := nests_link w hw
      exact va_Nw.of rfl (hts0 _ hn)

  have hK := hKI
  generalize hDe : ((dC, dI) : va_G) = D at hK hKI
  have hS : va_S (fun q : Nat => s.heap.size ≤ q) s.heap s.heap [] := va_S.rf
  have hP : va_P D classes [] s.heap := fun k q h => by simp at h
  have hD : va_D (fun q : Nat => s.heap.size ≤ q) [] := ⟨fun i j p q h => by simp at h, fun k q h => by simp at h⟩
  have hl := lv_entry ([.ref b]) (n := 4) (Nat.le_of_ble_eq_true rfl)
  rw [lg_entry_eq]
  generalize (lg_sl ([.ref b]) ++ List.replicate (4 - (lg_sl ([.ref b])).length) Slot.unset).toArray = ls at hl ⊢
  have hl : lv_has ls 4 [(0, .ref b)] := hl
  refine va_new (D := D) (ci := 6) (fs := [.null, .null, .null, .null, .null, .null, .int 0, .int 0, .int 0]) (C := RX6) (T := TX6) (N := 9) hx hb hts (lays_tw cl_i6) tyX6 tyX6_ok hown (hts _ (tw_of 83 (by decide +kernel) rfl)) (hts _ (tw_of 84 (by decide +kernel) rfl)) (hts _ (tw_of 73 (by decide +kernel) rfl)) hK.1.1 hP hD hS hA rfl (by decide) (Nat.le_of_ble_eq_true rfl) (Nat.le_of_ble_eq_true rfl) (by decide +kernel : decode code 0 = .ok (.new 7, 3)) (fun q0v H hP hD hS => ?_)
  have hP : va_P D classes [(q0v, .inr (6, [.null, .null, .null, .null, .null, .null, .int 0, .int 0, .int 0]))] H := hP
  have hD : va_D (fun q : Nat => s.heap.size ≤ q) [(q0v, .inr (6, [.null, .null, .null, .null, .null, .null, .int 0, .int 0, .int 0]))] := hD
  refine W.widen (k := 1) (n := 9) (by omega) (by omega) ?_
  refine lv_dup hx hb (by decide +kernel : decode code 3 = .ok (.dup, 1)) rfl ?_
  have hPc := hP.sub (ws' := [(q0v, .inr (6, [.null, .null, .null, .null, .null, .null, .int 0, .int 0, .int 0]))]) [0] rfl
  have hDc := hD.sub (ws' := [(q0v, .inr (6, [.null, .null, .null, .null, .null, .null, .int 0, .int 0, .int 0]))]) [0] (by decide) rfl
  have hFc := va_free (wc := [(q0v, .inr (6, [.null, .null, .null, .null, .null, .null, .int 0, .int 0, .int 0]))]) hD hS hA [0] rfl
  refine va_callv (va_runI (As := []) (rest := [.ref q0v]) (index := 9) ⟨hx, hb, hml, hown, hts⟩ (ct_ss_init l D tc q0v H.size) (cwI 0 hts (good_c (tw_of 87 (by decide +kernel) rfl)) rfl rfl rfl (hts _ (tw_of 73 (by decide +kernel) rfl)) (hts _ (tw_of 85 (by decide +kernel) rfl)) (hts _ (tw_of 86 (by decide +kernel) rfl)) rfl ⟨by decide, by decide, by decide +kernel⟩ ⟨Nat.le_of_ble_eq_true rfl, Nat.le_of_ble_eq_true rfl⟩) ⟨fun a U g mk q => by obtain ⟨q0, q1, qP, qK, qD⟩ := q; exact ⟨q0, q1, qP, qK.called, qD⟩, fun U hU hW => ⟨rfl, by rw [hU], by rw [hU]; exact hPc, hK.moved hW, hDc.weaken (fun _ _ _ _ => trivial)⟩⟩ rfl rfl hl.1 rfl (lv_room (Nat.le_of_ble_eq_true rfl)) (by decide +kernel : decode code 4 = .ok (.invokespecial 9, 3)) ⟨Nat.le_of_ble_eq_true rfl, Nat.le_of_ble_eq_true rfl⟩) hS (fun q _ h => hFc q h) hFc (fun u0 t H1 locs ht hvm hw hB hz1 hk1 hS => ?_)
  obtain ⟨u, rfl⟩ : ∃ z, z = u0 := ⟨_, rfl⟩
  obtain ⟨hP1, -, hD1⟩ := hB
  rw [ht] at hP1
  obtain ⟨hP, hD⟩ := va_join (wr := []) (w1 := [(q0v, .inr (6, [.ref (u 0), .ref (u 1), .ref (u 3), .ref (u 9), .ref (u 11), .ref (u 16), .int 0, .int 0, .int 0])), ((u 0), .inl (tc 0, 24, .inl fz)), ((u 1), .inr (2, [.ref (u 2), .int 0, .int 0, .int 0])), ((u 2), .inl (tc 0, 4, .inl fz)), ((u 3), .inr (3, [.ref (u 4), .ref (u 5), .ref (u 6), .ref (u 7), .ref (u 8), .int 0, .int 10])), ((u 4), .inl (tc 0, 8, .inl fz)), ((u 5), .inl (tc 1, 8, .inl fz)), ((u 6), .inl (tc 0, 8, .inl fz)), ((u 7), .inl (tc 0, 8, .inl fz)), ((u 8), .inl (tc 0, 8, .inl fz)), ((u 9), .inr (5, [.ref (u 10), .int 0, .int 0])), ((u 10), .inl (tc 0, 56, .inl fz)), ((u 11), .inr (1, [.ref (u 12), .ref (u 13), .int 0, .ref (u 14), .ref (u 15), .int 0])), ((u 12), .inl (tc 0, 16, .inl fz)), ((u 13), .inl (tc 0, 16, .inl fz)), ((u 14), .inl (tc 0, 16, .inl fz)), ((u 15), .inl (tc 0, 16, .inl fz)), ((u 16), .inr (4, [.ref (u 17), .ref (u 18), .int 0])), ((u 17), .inr (0, [.int 0, .long 0, .long 0])), ((u 18), .inr (0, [.int 0, .long 0, .long 0]))]) hP hD [0] [] rfl rfl (by decide) (by decide) hk1 hFc hP1 hD1
  generalize H1 = H at hP hS ⊢
  have hP : va_P D classes [(q0v, .inr (6, [.ref (u 0), .ref (u 1), .ref (u 3), .ref (u 9), .ref (u 11), .ref (u 16), .int 0, .int 0, .int 0])), ((u 0), .inl (tc 0, 24, .inl fz)), ((u 1), .inr (2, [.ref (u 2), .int 0, .int 0, .int 0])), ((u 2), .inl (tc 0, 4, .inl fz)), ((u 3), .inr (3, [.ref (u 4), .ref (u 5), .ref (u 6), .ref (u 7), .ref (u 8), .int 0, .int 10])), ((u 4), .inl (tc 0, 8, .inl fz)), ((u 5), .inl (tc 1, 8, .inl fz)), ((u 6), .inl (tc 0, 8, .inl fz)), ((u 7), .inl (tc 0, 8, .inl fz)), ((u 8), .inl (tc 0, 8, .inl fz)), ((u 9), .inr (5, [.ref (u 10), .int 0, .int 0])), ((u 10), .inl (tc 0, 56, .inl fz)), ((u 11), .inr (1, [.ref (u 12), .ref (u 13), .int 0, .ref (u 14), .ref (u 15), .int 0])), ((u 12), .inl (tc 0, 16, .inl fz)), ((u 13), .inl (tc 0, 16, .inl fz)), ((u 14), .inl (tc 0, 16, .inl fz)), ((u 15), .inl (tc 0, 16, .inl fz)), ((u 16), .inr (4, [.ref (u 17), .ref (u 18), .int 0])), ((u 17), .inr (0, [.int 0, .long 0, .long 0])), ((u 18), .inr (0, [.int 0, .long 0, .long 0]))] H := hP
  have hD : va_D (fun q : Nat => s.heap.size ≤ q) [(q0v, .inr (6, [.ref (u 0), .ref (u 1), .ref (u 3), .ref (u 9), .ref (u 11), .ref (u 16), .int 0, .int 0, .int 0])), ((u 0), .inl (tc 0, 24, .inl fz)), ((u 1), .inr (2, [.ref (u 2), .int 0, .int 0, .int 0])), ((u 2), .inl (tc 0, 4, .inl fz)), ((u 3), .inr (3, [.ref (u 4), .ref (u 5), .ref (u 6), .ref (u 7), .ref (u 8), .int 0, .int 10])), ((u 4), .inl (tc 0, 8, .inl fz)), ((u 5), .inl (tc 1, 8, .inl fz)), ((u 6), .inl (tc 0, 8, .inl fz)), ((u 7), .inl (tc 0, 8, .inl fz)), ((u 8), .inl (tc 0, 8, .inl fz)), ((u 9), .inr (5, [.ref (u 10), .int 0, .int 0])), ((u 10), .inl (tc 0, 56, .inl fz)), ((u 11), .inr (1, [.ref (u 12), .ref (u 13), .int 0, .ref (u 14), .ref (u 15), .int 0])), ((u 12), .inl (tc 0, 16, .inl fz)), ((u 13), .inl (tc 0, 16, .inl fz)), ((u 14), .inl (tc 0, 16, .inl fz)), ((u 15), .inl (tc 0, 16, .inl fz)), ((u 16), .inr (4, [.ref (u 17), .ref (u 18), .int 0])), ((u 17), .inr (0, [.int 0, .long 0, .long 0])), ((u 18), .inr (0, [.int 0, .long 0, .long 0]))] := hD
  refine W.widen (k := 20) (n := 226) (by omega) (by omega) ?_
  refine lv_astore_n (lv' := [(1, .ref q0v), (0, .ref b)]) hx hb (by decide +kernel : decode code 7 = .ok (.astore_n 1, 1)) rfl hl (by decide) rfl (fun ls hl => ?_)
  refine va_new (D := D) (ci := 7) (fs := [.int 0, .null, .int 0, .null, .null, .null, .null, .null, .int 0, .int 0, .int 0, .int 0, .null, .int 0, .int 0, .int 0, .int 0, .null, .null, .int 0, .null, .int 0, .long 0, .long 0, .long 0]) (C := RX7) (T := TX7) (N := 25) hx hb hts (lays_tw cl_i7) tyX7 tyX7_ok hown (hts _ (tw_of 646 (by decide +kernel) rfl)) (hts _ (tw_of 647 (by decide +kernel) rfl)) (hts _ (tw_of 80 (by decide +kernel) rfl)) hK.1.1 hP hD hS hA rfl (by decide) (Nat.le_of_ble_eq_true rfl) (Nat.le_of_ble_eq_true rfl) (by decide +kernel : decode code 8 = .ok (.new 10, 3)) (fun q8v H hP hD hS => ?_)
  have hP : va_P D classes [(q0v, .inr (6, [.ref (u 0), .ref (u 1), .ref (u 3), .ref (u 9), .ref (u 11), .ref (u 16), .int 0, .int 0, .int 0])), ((u 0), .inl (tc 0, 24, .inl fz)), ((u 1), .inr (2, [.ref (u 2), .int 0, .int 0, .int 0])), ((u 2), .inl (tc 0, 4, .inl fz)), ((u 3), .inr (3, [.ref (u 4), .ref (u 5), .ref (u 6), .ref (u 7), .ref (u 8), .int 0, .int 10])), ((u 4), .inl (tc 0, 8, .inl fz)), ((u 5), .inl (tc 1, 8, .inl fz)), ((u 6), .inl (tc 0, 8, .inl fz)), ((u 7), .inl (tc 0, 8, .inl fz)), ((u 8), .inl (tc 0, 8, .inl fz)), ((u 9), .inr (5, [.ref (u 10), .int 0, .int 0])), ((u 10), .inl (tc 0, 56, .inl fz)), ((u 11), .inr (1, [.ref (u 12), .ref (u 13), .int 0, .ref (u 14), .ref (u 15), .int 0])), ((u 12), .inl (tc 0, 16, .inl fz)), ((u 13), .inl (tc 0, 16, .inl fz)), ((u 14), .inl (tc 0, 16, .inl fz)), ((u 15), .inl (tc 0, 16, .inl fz)), ((u 16), .inr (4, [.ref (u 17), .ref (u 18), .int 0])), ((u 17), .inr (0, [.int 0, .long 0, .long 0])), ((u 18), .inr (0, [.int 0, .long 0, .long 0])), (q8v, .inr (7, [.int 0, .null, .int 0, .null, .null, .null, .null, .null, .int 0, .int 0, .int 0, .int 0, .null, .int 0, .int 0, .int 0, .int 0, .null, .null, .int 0, .null, .int 0, .long 0, .long 0, .long 0]))] H := hP
  have hD : va_D (fun q : Nat => s.heap.size ≤ q) [(q0v, .inr (6, [.ref (u 0), .ref (u 1), .ref (u 3), .ref (u 9), .ref (u 11), .ref (u 16), .int 0, .int 0, .int 0])), ((u 0), .inl (tc 0, 24, .inl fz)), ((u 1), .inr (2, [.ref (u 2), .int 0, .int 0, .int 0])), ((u 2), .inl (tc 0, 4, .inl fz)), ((u 3), .inr (3, [.ref (u 4), .ref (u 5), .ref (u 6), .ref (u 7), .ref (u 8), .int 0, .int 10])), ((u 4), .inl (tc 0, 8, .inl fz)), ((u 5), .inl (tc 1, 8, .inl fz)), ((u 6), .inl (tc 0, 8, .inl fz)), ((u 7), .inl (tc 0, 8, .inl fz)), ((u 8), .inl (tc 0, 8, .inl fz)), ((u 9), .inr (5, [.ref (u 10), .int 0, .int 0])), ((u 10), .inl (tc 0, 56, .inl fz)), ((u 11), .inr (1, [.ref (u 12), .ref (u 13), .int 0, .ref (u 14), .ref (u 15), .int 0])), ((u 12), .inl (tc 0, 16, .inl fz)), ((u 13), .inl (tc 0, 16, .inl fz)), ((u 14), .inl (tc 0, 16, .inl fz)), ((u 15), .inl (tc 0, 16, .inl fz)), ((u 16), .inr (4, [.ref (u 17), .ref (u 18), .int 0])), ((u 17), .inr (0, [.int 0, .long 0, .long 0])), ((u 18), .inr (0, [.int 0, .long 0, .long 0])), (q8v, .inr (7, [.int 0, .null, .int 0, .null, .null, .null, .null, .null, .int 0, .int 0, .int 0, .int 0, .null, .int 0, .int 0, .int 0, .int 0, .null, .null, .int 0, .null, .int 0, .long 0, .long 0, .long 0]))] := hD
  refine W.widen (k := 21) (n := 251) (by omega) (by omega) ?_
  refine lv_dup hx hb (by decide +kernel : decode code 11 = .ok (.dup, 1)) rfl ?_
  have hPc := hP.sub (ws' := [(q8v, .inr (7, [.int 0, .null, .int 0, .null, .null, .null, .null, .null, .int 0, .int 0, .int 0, .int 0, .null, .int 0, .int 0, .int 0, .int 0, .null, .null, .int 0, .null, .int 0, .long 0, .long 0, .long 0]))]) [20] rfl
  have hDc := hD.sub (ws' := [(q8v, .inr (7, [.int 0, .null, .int 0, .null, .null, .null, .null, .null, .int 0, .int 0, .int 0, .int 0, .null, .int 0, .int 0, .int 0, .int 0, .null, .null, .int 0, .null, .int 0, .long 0, .long 0, .long 0]))]) [20] (by decide) rfl
  have hFc := va_free (wc := [(q8v, .inr (7, [.int 0, .null, .int 0, .null, .null, .null, .null, .null, .int 0, .int 0, .int 0, .int 0, .null, .int 0, .int 0, .int 0, .int 0, .null, .null, .int 0, .null, .int 0, .long 0, .long 0, .long 0]))]) hD hS hA [20] rfl
  refine va_callv (va_runI (As := []) (rest := [.ref q8v]) (index := 12) ⟨hx, hb, hml, hown, hts⟩ (ct_mo_init l D tc q8v H.size) (cwI 0 hts (good_c (tw_of 650 (by decide +kernel) rfl)) rfl rfl rfl (hts _ (tw_of 80 (by decide +kernel) rfl)) (hts _ (tw_of 648 (by decide +kernel) rfl)) (hts _ (tw_of 649 (by decide +kernel) rfl)) rfl ⟨by decide, by decide, by decide +kernel⟩ ⟨Nat.le_of_ble_eq_true rfl, Nat.le_of_ble_eq_true rfl⟩) ⟨fun a U g mk q => by obtain ⟨q0, q1, qP, qK, qD⟩ := q; exact ⟨q0, q1, qP, qK.called, qD⟩, fun U hU hW => ⟨rfl, by rw [hU], by rw [hU]; exact hPc, hK.moved hW, hDc.weaken (fun _ _ _ _ => trivial)⟩⟩ rfl rfl hl.1 rfl (lv_room (Nat.le_of_ble_eq_true rfl)) (by decide +kernel : decode code 12 = .ok (.invokespecial 12, 3)) ⟨Nat.le_of_ble_eq_true rfl, Nat.le_of_ble_eq_true rfl⟩) hS (fun q _ h => hFc q h) hFc (fun u0 t H1 locs ht hvm hw hB hz1 hk1 hS => ?_)
  obtain ⟨v, rfl⟩ : ∃ z, z = u0 := ⟨_, rfl⟩
  obtain ⟨hP1, -, hD1⟩ := hB
  rw [ht] at hP1
  obtain ⟨hP, hD⟩ := va_join (wr := [(q0v, .inr (6, [.ref (u 0), .ref (u 1), .ref (u 3), .ref (u 9), .ref (u 11), .ref (u 16), .int 0, .int 0, .int 0])), ((u 0), .inl (tc 0, 24, .inl fz)), ((u 1), .inr (2, [.ref (u 2), .int 0, .int 0, .int 0])), ((u 2), .inl (tc 0, 4, .inl fz)), ((u 3), .inr (3, [.ref (u 4), .ref (u 5), .ref (u 6), .ref (u 7), .ref (u 8), .int 0, .int 10])), ((u 4), .inl (tc 0, 8, .inl fz)), ((u 5), .inl (tc 1, 8, .inl fz)), ((u 6), .inl (tc 0, 8, .inl fz)), ((u 7), .inl (tc 0, 8, .inl fz)), ((u 8), .inl (tc 0, 8, .inl fz)), ((u 9), .inr (5, [.ref (u 10), .int 0, .int 0])), ((u 10), .inl (tc 0, 56, .inl fz)), ((u 11), .inr (1, [.ref (u 12), .ref (u 13), .int 0, .ref (u 14), .ref (u 15), .int 0])), ((u 12), .inl (tc 0, 16, .inl fz)), ((u 13), .inl (tc 0, 16, .inl fz)), ((u 14), .inl (tc 0, 16, .inl fz)), ((u 15), .inl (tc 0, 16, .inl fz)), ((u 16), .inr (4, [.ref (u 17), .ref (u 18), .int 0])), ((u 17), .inr (0, [.int 0, .long 0, .long 0])), ((u 18), .inr (0, [.int 0, .long 0, .long 0]))]) (w1 := [(q8v, .inr (7, [.int 0, .ref (v 0), .int 0, .ref (v 1), .ref (v 2), .ref (v 3), .ref (v 4), .ref (v 5), .int 10, .int 0, .int 0, .int 0, .ref (v 6), .int 0, .int 0, .int 0, .int 0, .ref (v 7), .ref (v 8), .int 0, .ref (v 9), .int 0, .long 0, .long 0, .long 0])), ((v 0), .inl (tc 0, 24, .inl fz)), ((v 1), .inl (tc 0, 8, .inl fz)), ((v 2), .inl (tc 1, 8, .inl fz)), ((v 3), .inl (tc 0, 8, .inl fz)), ((v 4), .inl (tc 0, 8, .inl fz)), ((v 5), .inl (tc 0, 8, .inl fz)), ((v 6), .inl (tc 0, 4, .inl fz)), ((v 7), .inl (tc 2, 16, .inr (.inl gz))), ((v 8), .inl (tc 2, 16, .inr (.inl gz))), ((v 9), .inl (tc 0, 17, .inl fz))]) hP hD [20] [0, 1, 2, 3, 4, 5, 6, 7, 8, 9, 10, 11, 12, 13, 14, 15, 16, 17, 18, 19] rfl rfl (by decide) (by decide) hk1 hFc hP1 hD1
  generalize H1 = H at hP hS ⊢
  have hP : va_P D classes [(q0v, .inr (6, [.ref (u 0), .ref (u 1), .ref (u 3), .ref (u 9), .ref (u 11), .ref (u 16), .int 0, .int 0, .int 0])), ((u 0), .inl (tc 0, 24, .inl fz)), ((u 1), .inr (2, [.ref (u 2), .int 0, .int 0, .int 0])), ((u 2), .inl (tc 0, 4, .inl fz)), ((u 3), .inr (3, [.ref (u 4), .ref (u 5), .ref (u 6), .ref (u 7), .ref (u 8), .int 0, .int 10])), ((u 4), .inl (tc 0, 8, .inl fz)), ((u 5), .inl (tc 1, 8, .inl fz)), ((u 6), .inl (tc 0, 8, .inl fz)), ((u 7), .inl (tc 0, 8, .inl fz)), ((u 8), .inl (tc 0, 8, .inl fz)), ((u 9), .inr (5, [.ref (u 10), .int 0, .int 0])), ((u 10), .inl (tc 0, 56, .inl fz)), ((u 11), .inr (1, [.ref (u 12), .ref (u 13), .int 0, .ref (u 14), .ref (u 15), .int 0])), ((u 12), .inl (tc 0, 16, .inl fz)), ((u 13), .inl (tc 0, 16, .inl fz)), ((u 14), .inl (tc 0, 16, .inl fz)), ((u 15), .inl (tc 0, 16, .inl fz)), ((u 16), .inr (4, [.ref (u 17), .ref (u 18), .int 0])), ((u 17), .inr (0, [.int 0, .long 0, .long 0])), ((u 18), .inr (0, [.int 0, .long 0, .long 0])), (q8v, .inr (7, [.int 0, .ref (v 0), .int 0, .ref (v 1), .ref (v 2), .ref (v 3), .ref (v 4), .ref (v 5), .int 10, .int 0, .int 0, .int 0, .ref (v 6), .int 0, .int 0, .int 0, .int 0, .ref (v 7), .ref (v 8), .int 0, .ref (v 9), .int 0, .long 0, .long 0, .long 0])), ((v 0), .inl (tc 0, 24, .inl fz)), ((v 1), .inl (tc 0, 8, .inl fz)), ((v 2), .inl (tc 1, 8, .inl fz)), ((v 3), .inl (tc 0, 8, .inl fz)), ((v 4), .inl (tc 0, 8, .inl fz)), ((v 5), .inl (tc 0, 8, .inl fz)), ((v 6), .inl (tc 0, 4, .inl fz)), ((v 7), .inl (tc 2, 16, .inr (.inl gz))), ((v 8), .inl (tc 2, 16, .inr (.inl gz))), ((v 9), .inl (tc 0, 17, .inl fz))] H := hP
  have hD : va_D (fun q : Nat => s.heap.size ≤ q) [(q0v, .inr (6, [.ref (u 0), .ref (u 1), .ref (u 3), .ref (u 9), .ref (u 11), .ref (u 16), .int 0, .int 0, .int 0])), ((u 0), .inl (tc 0, 24, .inl fz)), ((u 1), .inr (2, [.ref (u 2), .int 0, .int 0, .int 0])), ((u 2), .inl (tc 0, 4, .inl fz)), ((u 3), .inr (3, [.ref (u 4), .ref (u 5), .ref (u 6), .ref (u 7), .ref (u 8), .int 0, .int 10])), ((u 4), .inl (tc 0, 8, .inl fz)), ((u 5), .inl (tc 1, 8, .inl fz)), ((u 6), .inl (tc 0, 8, .inl fz)), ((u 7), .inl (tc 0, 8, .inl fz)), ((u 8), .inl (tc 0, 8, .inl fz)), ((u 9), .inr (5, [.ref (u 10), .int 0, .int 0])), ((u 10), .inl (tc 0, 56, .inl fz)), ((u 11), .inr (1, [.ref (u 12), .ref (u 13), .int 0, .ref (u 14), .ref (u 15), .int 0])), ((u 12), .inl (tc 0, 16, .inl fz)), ((u 13), .inl (tc 0, 16, .inl fz)), ((u 14), .inl (tc 0, 16, .inl fz)), ((u 15), .inl (tc 0, 16, .inl fz)), ((u 16), .inr (4, [.ref (u 17), .ref (u 18), .int 0])), ((u 17), .inr (0, [.int 0, .long 0, .long 0])), ((u 18), .inr (0, [.int 0, .long 0, .long 0])), (q8v, .inr (7, [.int 0, .ref (v 0), .int 0, .ref (v 1), .ref (v 2), .ref (v 3), .ref (v 4), .ref (v 5), .int 10, .int 0, .int 0, .int 0, .ref (v 6), .int 0, .int 0, .int 0, .int 0, .ref (v 7), .ref (v 8), .int 0, .ref (v 9), .int 0, .long 0, .long 0, .long 0])), ((v 0), .inl (tc 0, 24, .inl fz)), ((v 1), .inl (tc 0, 8, .inl fz)), ((v 2), .inl (tc 1, 8, .inl fz)), ((v 3), .inl (tc 0, 8, .inl fz)), ((v 4), .inl (tc 0, 8, .inl fz)), ((v 5), .inl (tc 0, 8, .inl fz)), ((v 6), .inl (tc 0, 4, .inl fz)), ((v 7), .inl (tc 2, 16, .inr (.inl gz))), ((v 8), .inl (tc 2, 16, .inr (.inl gz))), ((v 9), .inl (tc 0, 17, .inl fz))] := hD
  refine W.widen (k := 31) (n := 368) (by omega) (by omega) ?_
  refine lv_astore_n (lv' := [(2, .ref q8v), (1, .ref q0v), (0, .ref b)]) hx hb (by decide +kernel : decode code 15 = .ok (.astore_n 2, 1)) rfl hl (by decide) rfl (fun ls hl => ?_)
  refine lv_iconst (v := 0) hx hb (by decide +kernel : decode code 16 = .ok (.iconst 0, 1)) rfl ?_
  refine lv_istore_n (lv' := [(3, .int 0), (2, .ref q8v), (1, .ref q0v), (0, .ref b)]) hx hb (by decide +kernel : decode code 17 = .ok (.istore_n 3, 1)) rfl hl (by decide) rfl (fun ls hl => ?_)
  obtain ⟨N, n, hF⟩ := hpure L hL xs
  have hw := wl0 tc q0v u q8v v b
  have hP : va_P D classes (wl (ad0 q0v u q8v v b) tc sg0) H := by rw [hw]; exact hP
  have hD : va_D (fun q : Nat => s.heap.size ≤ q) (wl (ad0 q0v u q8v v b) tc sg0) := by rw [hw]; exact hD
  exact law_loop (ad := ad0 q0v u q8v v b) (D := D) (tc := tc) N ⟨hx, hb, hml, hown, hts, hKI.1, hlocks⟩ hr hX hbl rfl n 0 sg0 hF H _ ls hP hD hS (lv_sub hl [3, 2, 1, 0] rfl)
