/-! FRACTIONS: the greatest, the least of those that are looked at -/
abbrev FR : Type := Option (Int × Int)
def upG (o : FR) (t b : Int) : FR := match o with
  | none => some (t, b)
  | some q => if q.1 * b < t * q.2 then some (t, b) else some q
def upL (o : FR) (t b : Int) : FR := match o with
  | none => some (t, b)
  | some q => if t * q.2 < q.1 * b then some (t, b) else some q
def FRk (o : FR) : Prop := ∀ q, o = some q → (-8320000 ≤ q.1 ∧ q.1 ≤ 8320000) ∧ (1 ≤ q.2 ∧ q.2 ≤ 400)
theorem frk_0 : FRk none := fun q h => by cases h
theorem frk_upG {o : FR} (h : FRk o) {t b : Int} (t1 : -8320000 ≤ t) (t2 : t ≤ 8320000) (b1 : 1 ≤ b) (b2 : b ≤ 400) : FRk (upG o t b) := by
  intro q hq
  unfold upG at hq
  split at hq
  · cases hq; exact ⟨⟨t1, t2⟩, b1, b2⟩
  · split at hq
    · cases hq; exact ⟨⟨t1, t2⟩, b1, b2⟩
    · cases hq; exact h _ rfl
theorem frk_upL {o : FR} (h : FRk o) {t b : Int} (t1 : -8320000 ≤ t) (t2 : t ≤ 8320000) (b1 : 1 ≤ b) (b2 : b ≤ 400) : FRk (upL o t b) := by
  intro q hq
  unfold upL at hq
  split at hq
  · cases hq; exact ⟨⟨t1, t2⟩, b1, b2⟩
  · split at hq
    · cases hq; exact ⟨⟨t1, t2⟩, b1, b2⟩
    · cases hq; exact h _ rfl
def FP (p : Nat) (a b : Sg) : Prop := ∀ q, q ≠ p → b.1 q = a.1 q ∧ b.2 q = a.2 q
theorem FP.rf (p : Nat) (a : Sg) : FP p a a := fun _ _ => ⟨rfl, rfl⟩
theorem FP.tr {p : Nat} {a b c : Sg} (h1 : FP p a b) (h2 : FP p b c) : FP p a c := fun q hq => ⟨(h2 q hq).1.trans (h1 q hq).1, (h2 q hq).2.trans (h1 q hq).2⟩
theorem FP.upI (σ : Sg) (p k : Nat) (x : Int32) : FP p σ (uI σ p k x) := fun q hq => ⟨by funext j; rw [uI_1, if_neg (fun z => hq z.1)], rfl⟩
theorem FP.upJ (σ : Sg) (p k : Nat) (x : Int64) : FP p σ (uJ σ p k x) := fun q hq => ⟨rfl, by funext j; rw [uJ_2, if_neg (fun z => hq z.1)]⟩
theorem FP.rx {T : TS} {p : Nat} {a b : Sg} (h : FP p a b) (hp : 9 < p) (hr : RX T a) : RX T b := by
  unfold RX
  rw [(h 4 (by omega)).1, (h 5 (by omega)).1, (h 6 (by omega)).1, (h 7 (by omega)).1, (h 8 (by omega)).1, (h 9 (by omega)).1]
  exact hr
/-- a bound of the class, the right one in the mirror -/
def BX (p : Nat) (s : Int) (o : FR) (σ : Sg) : Prop := match o with
  | none => σ.1 p 0 = 1 ∧ σ.2 p 1 = iL 0 ∧ σ.2 p 2 = iL 1
  | some q => σ.1 p 0 = 0 ∧ σ.2 p 1 = iL (s * q.1) ∧ σ.2 p 2 = iL q.2
def BM (o : FR) (σ : Sg) : Prop := match o with
  | none => σ.1 20 21 = 0 ∧ σ.2 20 22 = iL 0 ∧ σ.2 20 23 = iL 1
  | some q => σ.1 20 21 = 1 ∧ σ.2 20 22 = iL q.1 ∧ σ.2 20 23 = iL q.2
theorem pb {t b : Int} (t1 : -8320000 ≤ t) (t2 : t ≤ 8320000) (b1 : 1 ≤ b) (b2 : b ≤ 400) : -3328000000 ≤ t * b ∧ t * b ≤ 3328000000 := mb (A := 8320000) (B := 400) t1 t2 (by omega) b2
theorem put_18 (σ : Sg) (t b : Int) : BX 18 (1) (some (t, b)) (f_bo_put_18 σ (iL (1 * t)) (iL b)) ∧ FP 18 σ (f_bo_put_18 σ (iL (1 * t)) (iL b)) := by
  unfold f_bo_put_18
  rw [nm_eq, nm_eq, nm_eq]
  refine ⟨⟨?_, ?_, ?_⟩, ((FP.upI σ 18 0 0).tr (FP.upJ _ 18 1 _)).tr (FP.upJ _ 18 2 _)⟩
  · rw [uJ_1, uJ_1, uI_1, if_pos ⟨rfl, rfl⟩]
  · rw [uJ_2, if_neg (by omega), uJ_2, if_pos ⟨rfl, rfl⟩]
  · rw [uJ_2, if_pos ⟨rfl, rfl⟩]
theorem rel_18 (σ : Sg) : BX 18 (1) none (f_bo_release_18 σ) ∧ FP 18 σ (f_bo_release_18 σ) := by
  unfold f_bo_release_18
  rw [nm_eq, nm_eq, nm_eq]
  refine ⟨⟨?_, ?_, ?_⟩, ((FP.upI σ 18 0 1).tr (FP.upJ _ 18 1 _)).tr (FP.upJ _ 18 2 _)⟩
  · rw [uJ_1, uJ_1, uI_1, if_pos ⟨rfl, rfl⟩]
  · rw [uJ_2, if_neg (by omega), uJ_2, if_pos ⟨rfl, rfl⟩]; rfl
  · rw [uJ_2, if_pos ⟨rfl, rfl⟩]; rfl
theorem raise_18 {σ : Sg} {o : FR} (h : BX 18 (1) o σ) (hk : FRk o) {t b : Int} (t1 : -8320000 ≤ t) (t2 : t ≤ 8320000) (b1 : 1 ≤ b) (b2 : b ≤ 400) : BX 18 (1) (upG o t b) (f_bo_raise_18 σ (iL (1 * t)) (iL b)) ∧ FP 18 σ (f_bo_raise_18 σ (iL (1 * t)) (iL b)) := by
  have q0 : ¬ (iL b ≤ 0) := by rw [show (0 : Int64) = iL 0 from rfl, iL_le (by omega) (by omega) (by omega) (by omega)]; omega
  unfold f_bo_raise_18
  rw [if_neg q0]
  cases o with
  | none =>
    rw [h.1, if_neg (by decide), nm_eq]
    exact put_18 σ t b
  | some q =>
    obtain ⟨⟨q1, q2⟩, q3, q4⟩ := hk q rfl
    have p1 := pb t1 t2 q3 q4
    have p2 := pb q1 q2 b1 b2
    rw [h.1, h.2.1, h.2.2, if_pos rfl, nm_eq, iL_mul, iL_mul]
    have e1 : 1 * t * q.2 = 1 * (t * q.2) := by rw [Int.mul_assoc]
    have e2 : 1 * q.1 * b = 1 * (q.1 * b) := by rw [Int.mul_assoc]
    have qc : iL (1 * t * q.2) ≤ iL (1 * q.1 * b) ↔ ¬ (q.1 * b < t * q.2) := by
      rw [e1, e2, iL_le (by omega) (by omega) (by omega) (by omega)]; omega
    show BX 18 (1) (if q.1 * b < t * q.2 then some (t, b) else some q) _ ∧ _
    by_cases c : q.1 * b < t * q.2
    · rw [if_neg (fun z => qc.mp z c), if_pos c]
      exact put_18 σ t b
    · rw [if_pos (qc.mpr c), if_neg c]
      exact ⟨h, FP.rf 18 σ⟩
theorem lower_18 {σ : Sg} {o : FR} (h : BX 18 (1) o σ) (hk : FRk o) {t b : Int} (t1 : -8320000 ≤ t) (t2 : t ≤ 8320000) (b1 : 1 ≤ b) (b2 : b ≤ 400) : BX 18 (1) (upL o t b) (f_bo_lower_18 σ (iL (1 * t)) (iL b)) ∧ FP 18 σ (f_bo_lower_18 σ (iL (1 * t)) (iL b)) := by
  have q0 : ¬ (iL b ≤ 0) := by rw [show (0 : Int64) = iL 0 from rfl, iL_le (by omega) (by omega) (by omega) (by omega)]; omega
  unfold f_bo_lower_18
  rw [if_neg q0]
  cases o with
  | none =>
    rw [h.1, if_neg (by decide), nm_eq]
    exact put_18 σ t b
  | some q =>
    obtain ⟨⟨q1, q2⟩, q3, q4⟩ := hk q rfl
    have p1 := pb t1 t2 q3 q4
    have p2 := pb q1 q2 b1 b2
    rw [h.1, h.2.1, h.2.2, if_pos rfl, nm_eq, iL_mul, iL_mul]
    have e1 : 1 * t * q.2 = 1 * (t * q.2) := by rw [Int.mul_assoc]
    have e2 : 1 * q.1 * b = 1 * (q.1 * b) := by rw [Int.mul_assoc]
    have qc : iL (1 * q.1 * b) ≤ iL (1 * t * q.2) ↔ ¬ (t * q.2 < q.1 * b) := by
      rw [e1, e2, iL_le (by omega) (by omega) (by omega) (by omega)]; omega
    show BX 18 (1) (if t * q.2 < q.1 * b then some (t, b) else some q) _ ∧ _
    by_cases c : t * q.2 < q.1 * b
    · rw [if_neg (fun z => qc.mp z c), if_pos c]
      exact put_18 σ t b
    · rw [if_pos (qc.mpr c), if_neg c]
      exact ⟨h, FP.rf 18 σ⟩
theorem put_19 (σ : Sg) (t b : Int) : BX 19 (-1) (some (t, b)) (f_bo_put_19 σ (iL (-1 * t)) (iL b)) ∧ FP 19 σ (f_bo_put_19 σ (iL (-1 * t)) (iL b)) := by
  unfold f_bo_put_19
  rw [nm_eq, nm_eq, nm_eq]
  refine ⟨⟨?_, ?_, ?_⟩, ((FP.upI σ 19 0 0).tr (FP.upJ _ 19 1 _)).tr (FP.upJ _ 19 2 _)⟩
  · rw [uJ_1, uJ_1, uI_1, if_pos ⟨rfl, rfl⟩]
  · rw [uJ_2, if_neg (by omega), uJ_2, if_pos ⟨rfl, rfl⟩]
  · rw [uJ_2, if_pos ⟨rfl, rfl⟩]
theorem rel_19 (σ : Sg) : BX 19 (-1) none (f_bo_release_19 σ) ∧ FP 19 σ (f_bo_release_19 σ) := by
  unfold f_bo_release_19
  rw [nm_eq, nm_eq, nm_eq]
  refine ⟨⟨?_, ?_, ?_⟩, ((FP.upI σ 19 0 1).tr (FP.upJ _ 19 1 _)).tr (FP.upJ _ 19 2 _)⟩
  · rw [uJ_1, uJ_1, uI_1, if_pos ⟨rfl, rfl⟩]
  · rw [uJ_2, if_neg (by omega), uJ_2, if_pos ⟨rfl, rfl⟩]; rfl
  · rw [uJ_2, if_pos ⟨rfl, rfl⟩]; rfl
theorem raise_19 {σ : Sg} {o : FR} (h : BX 19 (-1) o σ) (hk : FRk o) {t b : Int} (t1 : -8320000 ≤ t) (t2 : t ≤ 8320000) (b1 : 1 ≤ b) (b2 : b ≤ 400) : BX 19 (-1) (upL o t b) (f_bo_raise_19 σ (iL (-1 * t)) (iL b)) ∧ FP 19 σ (f_bo_raise_19 σ (iL (-1 * t)) (iL b)) := by
  have q0 : ¬ (iL b ≤ 0) := by rw [show (0 : Int64) = iL 0 from rfl, iL_le (by omega) (by omega) (by omega) (by omega)]; omega
  unfold f_bo_raise_19
  rw [if_neg q0]
  cases o with
  | none =>
    rw [h.1, if_neg (by decide), nm_eq]
    exact put_19 σ t b
  | some q =>
    obtain ⟨⟨q1, q2⟩, q3, q4⟩ := hk q rfl
    have p1 := pb t1 t2 q3 q4
    have p2 := pb q1 q2 b1 b2
    rw [h.1, h.2.1, h.2.2, if_pos rfl, nm_eq, iL_mul, iL_mul]
    have e1 : -1 * t * q.2 = -1 * (t * q.2) := by rw [Int.mul_assoc]
    have e2 : -1 * q.1 * b = -1 * (q.1 * b) := by rw [Int.mul_assoc]
    have qc : iL (-1 * t * q.2) ≤ iL (-1 * q.1 * b) ↔ ¬ (t * q.2 < q.1 * b) := by
      rw [e1, e2, iL_le (by omega) (by omega) (by omega) (by omega)]; omega
    show BX 19 (-1) (if t * q.2 < q.1 * b then some (t, b) else some q) _ ∧ _
    by_cases c : t * q.2 < q.1 * b
    · rw [if_neg (fun z => qc.mp z c), if_pos c]
      exact put_19 σ t b
    · rw [if_pos (qc.mpr c), if_neg c]
      exact ⟨h, FP.rf 19 σ⟩
theorem lower_19 {σ : Sg} {o : FR} (h : BX 19 (-1) o σ) (hk : FRk o) {t b : Int} (t1 : -8320000 ≤ t) (t2 : t ≤ 8320000) (b1 : 1 ≤ b) (b2 : b ≤ 400) : BX 19 (-1) (upG o t b) (f_bo_lower_19 σ (iL (-1 * t)) (iL b)) ∧ FP 19 σ (f_bo_lower_19 σ (iL (-1 * t)) (iL b)) := by
  have q0 : ¬ (iL b ≤ 0) := by rw [show (0 : Int64) = iL 0 from rfl, iL_le (by omega) (by omega) (by omega) (by omega)]; omega
  unfold f_bo_lower_19
  rw [if_neg q0]
  cases o with
  | none =>
    rw [h.1, if_neg (by decide), nm_eq]
    exact put_19 σ t b
  | some q =>
    obtain ⟨⟨q1, q2⟩, q3, q4⟩ := hk q rfl
    have p1 := pb t1 t2 q3 q4
    have p2 := pb q1 q2 b1 b2
    rw [h.1, h.2.1, h.2.2, if_pos rfl, nm_eq, iL_mul, iL_mul]
    have e1 : -1 * t * q.2 = -1 * (t * q.2) := by rw [Int.mul_assoc]
    have e2 : -1 * q.1 * b = -1 * (q.1 * b) := by rw [Int.mul_assoc]
    have qc : iL (-1 * q.1 * b) ≤ iL (-1 * t * q.2) ↔ ¬ (q.1 * b < t * q.2) := by
      rw [e1, e2, iL_le (by omega) (by omega) (by omega) (by omega)]; omega
    show BX 19 (-1) (if q.1 * b < t * q.2 then some (t, b) else some q) _ ∧ _
    by_cases c : q.1 * b < t * q.2
    · rw [if_neg (fun z => qc.mp z c), if_pos c]
      exact put_19 σ t b
    · rw [if_pos (qc.mpr c), if_neg c]
      exact ⟨h, FP.rf 19 σ⟩
theorem look_upG {σ : Sg} {o : FR} (h : BM o σ) (hk : FRk o) {t b : Int} (t1 : -8320000 ≤ t) (t2 : t ≤ 8320000) (b1 : 1 ≤ b) (b2 : b ≤ 400) : (BM (upG o t b) (f_mo_look σ (iL t) (iL b) 1) ∧ FMb σ (f_mo_look σ (iL t) (iL b) 1)) ∧ f_mo_look σ (iL (-t)) (iL (-b)) 1 = f_mo_look σ (iL t) (iL b) 1 := by
  have q0 : (0 : Int64) ≤ iL b := by rw [show (0 : Int64) = iL 0 from rfl, iL_le (by omega) (by omega) (by omega) (by omega)]; omega
  have q0' : ¬ ((0 : Int64) ≤ iL (-b)) := by rw [show (0 : Int64) = iL 0 from rfl, iL_le (by omega) (by omega) (by omega) (by omega)]; omega
  have base : ∀ x y : Int, BM (some (x, y)) (f_mo_look_c74 (iL x) (iL y) σ) ∧ FMb σ (f_mo_look_c74 (iL x) (iL y) σ) := fun x y => by
    unfold f_mo_look_c74
    rw [nm_eq, nm_eq, nm_eq]
    refine ⟨⟨?_, ?_, ?_⟩, ((FMb.upJ σ _ (by decide) (Or.inr (by decide))).tr (FMb.upJ _ _ (by decide) (Or.inr (by decide)))).tr (FMb.upI _ _ (Or.inl (by decide)))⟩
    · rw [uI_1, if_pos ⟨rfl, rfl⟩]
    · rw [uI_2, uJ_2, if_neg (by omega), uJ_2, if_pos ⟨rfl, rfl⟩]
    · rw [uI_2, uJ_2, if_pos ⟨rfl, rfl⟩]
  constructor
  · unfold f_mo_look f_mo_look_c12 f_mo_look_c26
    rw [if_pos q0, if_pos q0]
    cases o with
    | none =>
      rw [h.1, if_pos rfl]
      exact base t b
    | some q =>
      obtain ⟨⟨q1, q2⟩, q3, q4⟩ := hk q rfl
      have p1 := pb t1 t2 q3 q4
      have p2 := pb q1 q2 b1 b2
      have keep : BM (some q) (uI σ 20 21 1) ∧ FMb σ (uI σ 20 21 1) := by
        refine ⟨⟨by rw [uI_1, if_pos ⟨rfl, rfl⟩], ?_, ?_⟩, FMb.upI σ _ (Or.inl (by decide))⟩
        · rw [uI_2]; exact h.2.1
        · rw [uI_2]; exact h.2.2
      have e10 : ¬ ((1 : Int32) = 0) := by decide
      have qc : (iL (t * q.2 - q.1 * b) ≤ 0) ↔ ¬ (q.1 * b < t * q.2) := by
        rw [show (0 : Int64) = iL 0 from rfl, iL_le (by omega) (by omega) (by omega) (by omega)]; omega
      have qd : ((0 : Int64) ≤ iL (t * q.2 - q.1 * b)) ↔ ¬ (t * q.2 < q.1 * b) := by
        rw [show (0 : Int64) = iL 0 from rfl, iL_le (by omega) (by omega) (by omega) (by omega)]; omega
      rw [h.1, h.2.1, h.2.2, if_neg e10, iL_mul, iL_mul, iL_sub, nm_eq]
      show BM (if q.1 * b < t * q.2 then some (t, b) else some q) _ ∧ _
      by_cases c : q.1 * b < t * q.2
      · rw [if_pos c, if_neg e10, if_neg (fun z => qc.mp z c)]
        exact base t b
      · rw [if_neg c, if_neg e10, if_pos (qc.mpr c)]
        exact keep
  · unfold f_mo_look f_mo_look_c12
    rw [if_neg q0', if_neg q0', if_pos q0, if_pos q0, iL_neg, iL_neg, Int.neg_neg, Int.neg_neg]
theorem look_upL {σ : Sg} {o : FR} (h : BM o σ) (hk : FRk o) {t b : Int} (t1 : -8320000 ≤ t) (t2 : t ≤ 8320000) (b1 : 1 ≤ b) (b2 : b ≤ 400) : (BM (upL o t b) (f_mo_look σ (iL t) (iL b) 0) ∧ FMb σ (f_mo_look σ (iL t) (iL b) 0)) ∧ f_mo_look σ (iL (-t)) (iL (-b)) 0 = f_mo_look σ (iL t) (iL b) 0 := by
  have q0 : (0 : Int64) ≤ iL b := by rw [show (0 : Int64) = iL 0 from rfl, iL_le (by omega) (by omega) (by omega) (by omega)]; omega
  have q0' : ¬ ((0 : Int64) ≤ iL (-b)) := by rw [show (0 : Int64) = iL 0 from rfl, iL_le (by omega) (by omega) (by omega) (by omega)]; omega
  have base : ∀ x y : Int, BM (some (x, y)) (f_mo_look_c74 (iL x) (iL y) σ) ∧ FMb σ (f_mo_look_c74 (iL x) (iL y) σ) := fun x y => by
    unfold f_mo_look_c74
    rw [nm_eq, nm_eq, nm_eq]
    refine ⟨⟨?_, ?_, ?_⟩, ((FMb.upJ σ _ (by decide) (Or.inr (by decide))).tr (FMb.upJ _ _ (by decide) (Or.inr (by decide)))).tr (FMb.upI _ _ (Or.inl (by decide)))⟩
    · rw [uI_1, if_pos ⟨rfl, rfl⟩]
    · rw [uI_2, uJ_2, if_neg (by omega), uJ_2, if_pos ⟨rfl, rfl⟩]
    · rw [uI_2, uJ_2, if_pos ⟨rfl, rfl⟩]
  constructor
  · unfold f_mo_look f_mo_look_c12 f_mo_look_c26
    rw [if_pos q0, if_pos q0]
    cases o with
    | none =>
      rw [h.1, if_pos rfl]
      exact base t b
    | some q =>
      obtain ⟨⟨q1, q2⟩, q3, q4⟩ := hk q rfl
      have p1 := pb t1 t2 q3 q4
      have p2 := pb q1 q2 b1 b2
      have keep : BM (some q) (uI σ 20 21 1) ∧ FMb σ (uI σ 20 21 1) := by
        refine ⟨⟨by rw [uI_1, if_pos ⟨rfl, rfl⟩], ?_, ?_⟩, FMb.upI σ _ (Or.inl (by decide))⟩
        · rw [uI_2]; exact h.2.1
        · rw [uI_2]; exact h.2.2
      have e10 : ¬ ((1 : Int32) = 0) := by decide
      have qc : (iL (t * q.2 - q.1 * b) ≤ 0) ↔ ¬ (q.1 * b < t * q.2) := by
        rw [show (0 : Int64) = iL 0 from rfl, iL_le (by omega) (by omega) (by omega) (by omega)]; omega
      have qd : ((0 : Int64) ≤ iL (t * q.2 - q.1 * b)) ↔ ¬ (t * q.2 < q.1 * b) := by
        rw [show (0 : Int64) = iL 0 from rfl, iL_le (by omega) (by omega) (by omega) (by omega)]; omega
      rw [h.1, h.2.1, h.2.2, if_neg e10, iL_mul, iL_mul, iL_sub, nm_eq]
      show BM (if t * q.2 < q.1 * b then some (t, b) else some q) _ ∧ _
      by_cases c : t * q.2 < q.1 * b
      · rw [if_pos c, if_pos rfl, if_neg (fun z => qd.mp z c)]
        exact base t b
      · rw [if_neg c, if_pos rfl, if_pos (qd.mpr c)]
        exact keep
  · unfold f_mo_look f_mo_look_c12
    rw [if_neg q0', if_neg q0', if_pos q0, if_pos q0, iL_neg, iL_neg, Int.neg_neg, Int.neg_neg]
theorem begins_eq (σ : Sg) : BM none (f_mo_begins σ) ∧ FMb σ (f_mo_begins σ) := by
  unfold f_mo_begins
  rw [nm_eq, nm_eq, nm_eq]
  refine ⟨⟨?_, ?_, ?_⟩, ((FMb.upI σ _ (Or.inl (by decide))).tr (FMb.upJ _ _ (by decide) (Or.inr (by decide)))).tr (FMb.upJ _ _ (by decide) (Or.inr (by decide)))⟩
  · rw [uJ_1, uJ_1, uI_1, if_pos ⟨rfl, rfl⟩]
  · rw [uJ_2, if_neg (by omega), uJ_2, if_pos ⟨rfl, rfl⟩]; rfl
  · rw [uJ_2, if_pos ⟨rfl, rfl⟩]; rfl
