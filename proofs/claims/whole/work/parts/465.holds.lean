/-! HOLDS and LASTS -/
def hdL (T : TS) (h : Int) : FR := hx upL T li h
def hdR (T : TS) (h : Int) : FR := hx upG T ri h
def hmL (T : TS) (h : Int) : FR := hm upL T li h
def hmR (T : TS) (h : Int) : FR := hm upG T ri h
def outH (T : TS) (h : Int) : Prop := hdL T h = none ∨ hdR T h = none
theorem hdL_k {T : TS} (hO : Ok T) (h : Int) : FRk (hdL T h) := hx_k upk_L hO (bds_li hO) h
theorem hdR_k {T : TS} (hO : Ok T) (h : Int) : FRk (hdR T h) := hx_k upk_G hO (bds_ri hO) h
theorem hmL_k {T : TS} (hO : Ok T) (h : Int) : FRk (hmL T h) := hm_k upk_L hO (bds_li hO) h
theorem hmR_k {T : TS} (hO : Ok T) (h : Int) : FRk (hmR T h) := hm_k upk_G hO (bds_ri hO) h
theorem svL {T : TS} (hO : Ok T) (h : Int) : SV (hdL T h) (hmL T h) := h_sv (Or.inl rfl) upb_L hO (bds_li hO) h
theorem svR {T : TS} (hO : Ok T) (h : Int) : SV (hdR T h) (hmR T h) := h_sv (Or.inr rfl) upb_G hO (bds_ri hO) h
theorem lr_none {T : TS} (hO : Ok T) (h : Int) : hmL T h = none ↔ hmR T h = none := ⟨hm_none upb_L upb_G hO (bds_li hO) (bds_ri hO) h, hm_none upb_G upb_L hO (bds_ri hO) (bds_li hO) h⟩
theorem x_held {T : TS} {σ : Sg} (hO : Ok T) (hR : RX T σ) {N : Nat} (hN : 600 ≤ N) {h : Int} (h1 : -200 ≤ h) (h2 : h ≤ 200) : ∃ σ', f_sp_measureHeld N σ (iI h) = some σ' ∧ FSp σ σ' ∧ SX (hdL T h) (hdR T h) (outH T h) σ' := by
  obtain ⟨σ1, e1, F1, B1⟩ := x_hold_18 hO hR hN h1 h2
  obtain ⟨σ2, e2, F2, B2⟩ := x_hold_19 hO (F1.rx (by decide) hR) hN h1 h2
  have B1' : BX 18 1 (hdL T h) σ2 := BX.fp B1 F2 (by decide)
  have B2' : BX 19 (-1) (hdR T h) σ2 := B2
  have F : FSp σ σ2 := fun p p1 p2 p3 => ⟨(F2 p p3).1.trans (F1 p p2).1, (F2 p p3).2.trans (F1 p p2).2⟩
  have e10 : ¬ ((1 : Int32) = 0) := by decide
  unfold f_sp_measureHeld
  rw [e1, bind_some, e2, bind_some]
  have key : ∀ x : Int32, x = fl (outH T h) → ∃ σ', some (uI σ2 17 2 x) = some σ' ∧ FSp σ σ' ∧ SX (hdL T h) (hdR T h) (outH T h) σ' := fun x hx => ⟨_, rfl, fsp_out F x, sx_out B1' B2' hx⟩
  rcases hl : hdL T h with _ | p
  · have b := B1'
    rw [hl] at b
    rw [b.1, if_neg e10, ← hl]
    exact key 1 (fl_t (Or.inl hl)).symm
  · have b := B1'
    rw [hl] at b
    rw [b.1, if_pos rfl, ← hl]
    rcases hr : hdR T h with _ | q
    · have b := B2'
      rw [hr] at b
      rw [b.1, if_neg e10, ← hr]
      exact key 1 (fl_t (Or.inr hr)).symm
    · have b := B2'
      rw [hr] at b
      rw [b.1, if_pos rfl, ← hr]
      exact key 0 (fl_f (fun z => z.elim (fun y => by rw [hl] at y; cases y) (fun y => by rw [hr] at y; cases y))).symm
noncomputable def holR (T : TS) (a b c : Int32) : Int32 := if a < -200 ∨ 200 < a then -100000003 else if b = 0 ∨ b = 1 then (if c = 0 ∨ c = 1 then (if fl (wr T = 0) = 0 then -100000004 else telF (hdL T a.toInt) (hdR T a.toInt) (outH T a.toInt) b c) else -100000003) else -100000003
theorem x_holds {T : TS} {σ : Sg} (h : XQ T σ) {N : Nat} (hN : 600 ≤ N) (a b c : Int32) : ∃ σ', f_ss_holds N σ a b c = some (holR T a b c, σ') ∧ FSp σ σ' := by
  have ha := x_allFit h
  obtain ⟨hO, hR, hw, hK⟩ := h
  unfold f_ss_holds holR
  by_cases c1 : a < -200 ∨ 200 < a
  · rw [if_pos ((isH_eq a).mpr c1), if_pos c1]; exact ⟨σ, rfl, FSp.rf σ⟩
  · rw [if_neg (fun z => c1 ((isH_eq a).mp z)), if_neg c1]
    by_cases c2 : b = 0 ∨ b = 1
    · rw [if_neg (fun z => (isBit_eq b).mp z c2), if_pos c2]
      by_cases c3 : c = 0 ∨ c = 1
      · rw [if_neg (fun z => (isBit_eq c).mp z c3), if_pos c3, ha]
        by_cases c4 : fl (wr T = 0) = 0
        · rw [if_pos c4, if_pos c4]; exact ⟨σ, rfl, FSp.rf σ⟩
        · rw [if_neg c4, if_neg c4]
          obtain ⟨e, h1, h2⟩ := h_in c1
          obtain ⟨σ1, e1, F1, S1⟩ := x_held hO hR hN h1 h2
          rw [← e] at e1
          rw [e1, bind_some, x_tell S1 (hdL_k hO _) (hdR_k hO _) hN, bind_some]
          exact ⟨σ1, rfl, F1⟩
      · rw [if_pos ((isBit_eq c).mpr c3), if_neg c3]; exact ⟨σ, rfl, FSp.rf σ⟩
    · rw [if_pos ((isBit_eq b).mpr c2), if_neg c2]; exact ⟨σ, rfl, FSp.rf σ⟩
theorem SV.none_iff {o o' : FR} (h : SV o o') : o = none ↔ o' = none := by
  rcases h with ⟨a, b⟩ | ⟨q, q', a, b, -⟩
  · exact ⟨fun _ => b, fun _ => a⟩
  · rw [a, b]; exact ⟨fun z => (nomatch z), fun z => (nomatch z)⟩
theorem SV.told {o o' : FR} {q' : Int × Int} (h : SV o o') (k1 : FRk o) (k2 : FRk o') (e : o' = some q') : ∃ q, o = some q ∧ rt q'.1 q'.2 = rt q.1 q.2 ∧ rb q'.1 q'.2 = rb q.1 q.2 := by
  rcases h with ⟨a, b⟩ | ⟨q, q2, a, b, c⟩
  · rw [b] at e; cases e
  · rw [b] at e
    cases e
    have := r_same (k2 q' b).2.1 (k1 q a).2.1 (show q'.1 * q.2 = q.1 * q'.2 from c.symm)
    exact ⟨q, a, this.1, this.2⟩
theorem m_heldNow {T : TS} {σ : Sg} (hO : Ok T) (hR : RM T σ) {N : Nat} (hN : 600 ≤ N) {h : Int} (h1 : -200 ≤ h) (h2 : h ≤ 200) {a b : Int32} (ha : a = 0 ∨ a = 1) (hb : b = 0 ∨ b = 1) : ∃ σ', f_mo_heldNow N σ (iI h) a b = some (telF (hdL T h) (hdR T h) (outH T h) a b, σ') ∧ FMb σ σ' := by
  have e10 : ¬ ((1 : Int32) = 0) := by decide
  have fin : ∀ (o o' : FR) (σ2 : Sg), (if a = 0 then hdL T h else hdR T h) = o → SV o o' → FRk o → FRk o' → (o' = none ↔ outH T h) → FMb σ σ2 → BM o' σ2 → ∃ σ', (if σ2.1 20 21 = 0 then some (-100000006, σ2) else (f_mo_told N σ2 b).bind fun q3 => some (q3, σ2)) = some (telF (hdL T h) (hdR T h) (outH T h) a b, σ') ∧ FMb σ σ' := fun o o' σ2 eo sv k1 k2 no F2 B2 => by
    cases o' with
    | none =>
      refine ⟨σ2, ?_, F2⟩
      unfold telF
      rw [B2.1, if_pos rfl, fl_t (no.mp rfl), if_neg e10]
    | some q' =>
      refine ⟨σ2, ?_, F2⟩
      obtain ⟨q, eq, t1, t2⟩ := sv.told k1 k2 rfl
      unfold telF
      rw [B2.1, if_neg e10, m_told hN B2 k2 b, bind_some, fl_f (p := outH T h) (fun z => nomatch (no.mpr z)), if_pos rfl, eo, eq, t1, t2]
      rcases hb with rfl | rfl <;> rfl
  have nl : hmL T h = none ↔ outH T h := by
    unfold outH
    rw [(svL hO h).none_iff, (svR hO h).none_iff, ← lr_none hO h]
    exact (or_self_iff).symm
  unfold f_mo_heldNow
  rcases ha with rfl | rfl
  · obtain ⟨σ2, e2, F2, B2⟩ := m_hold_0 hO hR hN h1 h2
    rw [e2, bind_some]
    exact fin (hdL T h) (hmL T h) σ2 (if_pos rfl) (svL hO h) (hdL_k hO h) (hmL_k hO h) nl F2 B2
  · obtain ⟨σ2, e2, F2, B2⟩ := m_hold_1 hO hR hN h1 h2
    rw [e2, bind_some]
    exact fin (hdR T h) (hmR T h) σ2 (if_neg e10) (svR hO h) (hdR_k hO h) (hmR_k hO h) ((lr_none hO h).symm.trans nl) F2 B2
theorem m_holds {T : TS} {σ : Sg} (hO : Ok T) (hR : RM T σ) {N : Nat} (hN : 600 ≤ N) (a b c : Int32) : ∃ σ', f_mo_holds N σ a b c = some (holR T a b c, σ') ∧ FMb σ σ' := by
  unfold f_mo_holds holR
  have qa := ask_eq a b c
  by_cases c1 : a < -200 ∨ 200 < a
  · rw [if_pos (qa.mpr (fun z => z.1 c1)), if_pos c1]; exact ⟨σ, rfl, FMb.rf σ⟩
  · rw [if_neg c1]
    by_cases c2 : b = 0 ∨ b = 1
    · rw [if_pos c2]
      by_cases c3 : c = 0 ∨ c = 1
      · rw [if_pos c3, if_neg (fun z => qa.mp z ⟨c1, c2, c3⟩), mfit_eq hO hR hN, bind_some]
        by_cases c4 : fl (wr T = 0) = 0
        · rw [if_pos c4, if_pos c4]; exact ⟨σ, rfl, FMb.rf σ⟩
        · rw [if_neg c4, if_neg c4]
          obtain ⟨e, h1, h2⟩ := h_in c1
          obtain ⟨σ1, e1, F1⟩ := m_heldNow hO hR hN h1 h2 c2 c3
          rw [← e] at e1
          rw [e1, bind_some]
          exact ⟨σ1, rfl, F1⟩
      · rw [if_neg c3, if_pos (qa.mpr (fun z => c3 z.2.2))]; exact ⟨σ, rfl, FMb.rf σ⟩
    · rw [if_neg c2, if_pos (qa.mpr (fun z => c2 z.2.1))]; exact ⟨σ, rfl, FMb.rf σ⟩
/-! the time that is sure -/
theorem div_same {a d a' d' : Int} (hd : 1 ≤ d) (hd' : 1 ≤ d') (h : a * d' = a' * d) : a / d = a' / d' := by
  have e1 := Int.mul_ediv_add_emod a' d'
  have r1 := Int.emod_nonneg a' (show d' ≠ 0 by omega)
  have r2 := Int.emod_lt_of_pos a' (show 0 < d' by omega)
  have g1 : 0 ≤ a - d * (a' / d') := by
    refine nn_of hd' ?_
    have : d' * (a - d * (a' / d')) = d * (a' - d' * (a' / d')) := by
      have : d' * (a - d * (a' / d')) = a * d' - d * d' * (a' / d') := by grind
      rw [this, h]; grind
    rw [this]
    exact Int.mul_nonneg (by omega) (by omega)
  have g2 : 0 < d * (a' / d') + d - a := by
    rcases Int.lt_or_le 0 (d * (a' / d') + d - a) with c | c
    · exact c
    · exfalso
      have p1 : 0 ≤ d' * (a - d * (a' / d') - d) := Int.mul_nonneg (by omega) (by omega)
      have p2 : d' * (a - d * (a' / d') - d) = d * (a' - d' * (a' / d') - d') := by
        have : d' * (a - d * (a' / d') - d) = a * d' - d * d' * (a' / d') - d * d' := by grind
        rw [this, h]; grind
      have p3 : d * (a' - d' * (a' / d') - d') < 0 := Int.mul_neg_of_pos_of_neg (by omega) (by omega)
      omega
  exact div_uq (by omega) (by omega) (by omega)
noncomputable def surR (T : TS) (h : Int) : Int32 := match hdL T h with | none => 0 | some p => (match hdR T h with | none => 0 | some q => iI ((q.1 * p.2 - p.1 * q.2) / (p.2 * q.2 * tS T)))
theorem x_sure {T : TS} {σ : Sg} (hO : Ok T) {h : Int} (hS : SX (hdL T h) (hdR T h) (outH T h) σ) : f_sp_ticksDown σ (iI (tS T)) = some (surR T h) := by
  obtain ⟨B1, B2, ho⟩ := hS
  have kl := hdL_k hO h
  have kr := hdR_k hO h
  have e10 : ¬ ((1 : Int32) = 0) := by decide
  unfold f_sp_ticksDown surR
  rw [ho]
  unfold f_sp_lengthTop f_sp_lengthBottom
  cases hl : hdL T h with
  | none => rw [fl_t (p := outH T h) (Or.inl hl), if_neg e10]
  | some p =>
    cases hr : hdR T h with
    | none => rw [fl_t (p := outH T h) (Or.inr hr), if_neg e10]
    | some q =>
      rw [hr] at B2 kr
      rw [hl] at B1 kl
      obtain ⟨⟨p1, p2⟩, p3, p4⟩ := kl p rfl
      obtain ⟨⟨q1, q2⟩, q3, q4⟩ := kr q rfl
      have m1 := pb p1 p2 q3 q4
      have m2 := pb q1 q2 p3 p4
      have db := den_b p3 p4 q3 q4 hO.2.1.1 hO.2.1.2
      have hs := hO.2.1
      rw [fl_f (p := outH T h) (fun z => z.elim (fun y => by rw [hl] at y; cases y) (fun y => by rw [hr] at y; cases y)), if_pos rfl, B1.2.1, B1.2.2, B2.2.1, B2.2.2, iI_L (by omega) (by omega), iL_mul, iL_mul, iL_mul, iL_mul, iL_add, iL_neg]
      have q0 : (0 : Int64) < iL (p.2 * q.2 * tS T) ↔ 0 < p.2 * q.2 * tS T := iL_lt (a := 0) (by omega) (by omega) (by omega) (by omega)
      have ee : -(1 * p.1 * q.2 + -1 * q.1 * p.2) = q.1 * p.2 - p.1 * q.2 := by grind
      rw [if_pos (q0.mpr (by omega)), ee, fdiv_eq (by omega) (by omega) (by omega) (by omega), bind_some, iL_I]
theorem l_le_r {T : TS} (hO : Ok T) {h : Int} {p q : Int × Int} (hl : hmL T h = some p) (hr : hmR T h = some q) : 0 ≤ q.1 * p.2 - p.1 * q.2 := by
  have bl := hm_best upb_L hO (bds_li hO) h
  have br := hm_best upb_G hO (bds_ri hO) h
  rw [show hm upL T li h = some p from hl] at bl
  rw [show hm upG T ri h = some q from hr] at br
  have kq := (hmR_k hO h q hr).2.1
  obtain ⟨⟨i, k, hi, hk, e⟩, -⟩ := bl
  have : ∃ r, mK T ri h i k = some r ∧ r.2 = p.2 ∧ p.1 ≤ r.1 := by
    unfold mK at e ⊢
    split at e
    · rename_i c
      rw [if_pos c]
      have w1 := li_ri hO hi c.1.1
      have w2 := li_ri hO hk c.1.2
      split at e
      · rename_i c2
        rw [if_pos c2]
        cases e
        exact ⟨_, rfl, rfl, by show li T i ≤ ri T i; omega⟩
      · rename_i c2
        rw [if_neg c2]
        cases e
        refine ⟨_, rfl, rfl, ?_⟩
        show li T i * (tH T k - h) + li T k * (h - tH T i) ≤ ri T i * (tH T k - h) + ri T k * (h - tH T i)
        have g1 : li T i * (tH T k - h) ≤ ri T i * (tH T k - h) := Int.mul_le_mul_of_nonneg_right (by omega) (by omega)
        have g2 : li T k * (h - tH T i) ≤ ri T k * (h - tH T i) := Int.mul_le_mul_of_nonneg_right (by omega) (by omega)
        omega
    · cases e
  obtain ⟨r, er, e2, le⟩ := this
  have g := br.2 r ⟨i, k, hi, hk, er⟩
  rw [e2] at g
  have g2 : p.1 * q.2 ≤ r.1 * q.2 := Int.mul_le_mul_of_nonneg_right le (by omega)
  omega
theorem m_sure {T : TS} {σ : Sg} (hO : Ok T) (hR : RM T σ) {N : Nat} (hN : 600 ≤ N) {h : Int} (h1 : -200 ≤ h) (h2 : h ≤ 200) : ∃ σ', f_mo_sureNow N σ (iI h) = some (surR T h, σ') ∧ FMb σ σ' := by
  have e10 : ¬ ((1 : Int32) = 0) := by decide
  unfold f_mo_sureNow surR
  obtain ⟨σ2, e2, F2, B2⟩ := m_hold_0 hO hR hN h1 h2
  rw [e2, bind_some]
  have B2' : BM (hmL T h) σ2 := B2
  cases hl : hmL T h with
  | none =>
    rw [hl] at B2'
    rw [B2'.1, if_pos rfl, (svL hO h).none_iff.mpr hl]
    exact ⟨σ2, rfl, F2⟩
  | some p' =>
    rw [hl] at B2'
    rw [B2'.1, if_neg e10]
    obtain ⟨σ3, e3, F3, B3⟩ := m_hold_1 hO (F2.1.rm hR) hN h1 h2
    rw [e3, bind_some]
    have R3 := F3.1.rm (F2.1.rm hR)
    have B3' : BM (hmR T h) σ3 := B3
    cases hr : hmR T h with
    | none =>
      have := (lr_none hO h).mpr hr
      rw [hl] at this; cases this
    | some q' =>
      rw [hr] at B3'
      refine ⟨σ3, ?_, F2.tr F3⟩
      have nn := l_le_r hO hl hr
      obtain ⟨⟨p1, p2⟩, p3, p4⟩ := hmL_k hO h p' hl
      obtain ⟨⟨q1, q2⟩, q3, q4⟩ := hmR_k hO h q' hr
      have m1 := pb p1 p2 q3 q4
      have m2 := pb q1 q2 p3 p4
      have db := den_b q3 q4 p3 p4 hO.2.1.1 hO.2.1.2
      have hs := hO.2.1
      rcases svL hO h with ⟨_, z⟩ | ⟨p, pz, ep, epz, sp⟩
      · rw [hl] at z; cases z
      · rcases svR hO h with ⟨_, z⟩ | ⟨q, qz, eq, eqz, sq⟩
        · rw [hr] at z; cases z
        · rw [hl] at epz
          rw [hr] at eqz
          cases epz
          cases eqz
          have kp := (hdL_k hO h p ep).2
          have kq := (hdR_k hO h q eq).2
          have db2 := den_b kp.1 kp.2 kq.1 kq.2 hO.2.1.1 hO.2.1.2
          rw [ep, eq, B2'.2.1, B2'.2.2, B3'.2.1, B3'.2.2, R3.2.1, iI_L (by omega) (by omega), iL_mul, iL_mul, iL_mul, iL_mul, iL_sub]
          have n0 : ¬ iL (q'.2 * p'.2 * tS T) = 0 := fun z => by
            have := (iL_eq (b := 0) (by omega) (by omega) (by omega) (by omega)).mp z
            omega
          rw [if_pos n0, div_nn (by omega) (by omega) (by omega) (by omega), iL_I]
          have : (q'.1 * p'.2 - p'.1 * q'.2) / (q'.2 * p'.2 * tS T) = (q.1 * p.2 - p.1 * q.2) / (p.2 * q.2 * tS T) := by
            refine div_same (by omega) (by omega) ?_
            have a1 : (q'.1 * p'.2 - p'.1 * q'.2) * (p.2 * q.2 * tS T) = ((q'.1 * q.2) * p'.2 * p.2 - (p'.1 * p.2) * q'.2 * q.2) * tS T := by grind
            have a2 : (q.1 * p.2 - p.1 * q.2) * (q'.2 * p'.2 * tS T) = ((q.1 * q'.2) * p'.2 * p.2 - (p.1 * p'.2) * q'.2 * q.2) * tS T := by grind
            rw [a1, a2, sp, sq]
          rw [this]
noncomputable def lasR (T : TS) (a b : Int32) : Int32 := if a < -200 ∨ 200 < a then -100000003 else if b = 0 ∨ b = 1 then (if fl (wr T = 0) = 0 then -100000004 else if fl (chd T) = 0 then -100000004 else if b = 0 then surR T a.toInt else mstR T a.toInt) else -100000003
theorem x_lasts {T : TS} {σ : Sg} (h : XQ T σ) {N : Nat} (hN : 600 ≤ N) (a b : Int32) : ∃ σ', f_ss_lasts N σ a b = some (lasR T a b, σ') ∧ FSp σ σ' := by
  have ha := x_allFit h
  obtain ⟨hO, hR, hw, hK⟩ := h
  unfold f_ss_lasts lasR
  by_cases c1 : a < -200 ∨ 200 < a
  · rw [if_pos ((isH_eq a).mpr c1), if_pos c1]; exact ⟨σ, rfl, FSp.rf σ⟩
  · rw [if_neg (fun z => c1 ((isH_eq a).mp z)), if_neg c1]
    by_cases c2 : b = 0 ∨ b = 1
    · rw [if_neg (fun z => (isBit_eq b).mp z c2), if_pos c2, ha]
      by_cases c4 : fl (wr T = 0) = 0
      · rw [if_pos c4, if_pos c4]; exact ⟨σ, rfl, FSp.rf σ⟩
      · rw [if_neg c4, if_neg c4, x_chd hO hR hN, bind_some]
        by_cases c5 : fl (chd T) = 0
        · rw [if_pos c5, if_pos c5]; exact ⟨σ, rfl, FSp.rf σ⟩
        · rw [if_neg c5, if_neg c5]
          obtain ⟨e, h1, h2⟩ := h_in c1
          by_cases c6 : b = 0
          · rw [if_pos c6, if_pos c6]
            obtain ⟨σ1, e1, F1, S1⟩ := x_held hO hR hN h1 h2
            rw [← e] at e1
            rw [e1, bind_some, (F1 4 (by decide) (by decide) (by decide)).1, hR.2.1, x_sure hO S1, bind_some]
            exact ⟨σ1, rfl, F1⟩
          · rw [if_neg c6, if_neg c6]
            obtain ⟨σ1, e1, F1, S1⟩ := x_reached hO hR hN h1 h2
            rw [← e] at e1
            rw [e1, bind_some, (F1 4 (by decide) (by decide) (by decide)).1, hR.2.1, x_most hO h1 h2 S1, bind_some]
            exact ⟨σ1, rfl, F1⟩
    · rw [if_pos ((isBit_eq b).mpr c2), if_neg c2]; exact ⟨σ, rfl, FSp.rf σ⟩
theorem m_lasts {T : TS} {σ : Sg} (hO : Ok T) (hR : RM T σ) {N : Nat} (hN : 600 ≤ N) (a b : Int32) : ∃ σ', f_mo_lasts N σ a b = some (lasR T a b, σ') ∧ FMb σ σ' := by
  unfold f_mo_lasts lasR
  by_cases c1 : a < -200 ∨ 200 < a
  · rw [if_pos ((wH_eq a).mpr c1), if_pos c1]; exact ⟨σ, rfl, FMb.rf σ⟩
  · rw [if_neg (fun z => c1 ((wH_eq a).mp z)), if_neg c1]
    by_cases c2 : b = 0 ∨ b = 1
    · rw [if_neg (fun z => (wb_eq b).mp z c2), if_pos c2, m_can hO hR hN, bind_some]
      by_cases c4 : fl (wr T = 0) = 0
      · rw [if_pos ((can_0 T).mpr (Or.inl c4)), if_pos c4]; exact ⟨σ, rfl, FMb.rf σ⟩
      · rw [if_neg c4]
        by_cases c5 : fl (chd T) = 0
        · rw [if_pos ((can_0 T).mpr (Or.inr c5)), if_pos c5]; exact ⟨σ, rfl, FMb.rf σ⟩
        · rw [if_neg (fun z => ((can_0 T).mp z).elim c4 c5), if_neg c5]
          obtain ⟨e, h1, h2⟩ := h_in c1
          by_cases c6 : b = 0
          · rw [if_pos c6, if_pos c6]
            obtain ⟨σ1, e1, F1⟩ := m_sure hO hR hN h1 h2
            rw [← e] at e1
            rw [e1, bind_some]
            exact ⟨σ1, rfl, F1⟩
          · rw [if_neg c6, if_neg c6]
            obtain ⟨σ1, e1, F1⟩ := m_most hO hR hN h1 h2
            rw [← e] at e1
            rw [e1, bind_some]
            exact ⟨σ1, rfl, F1⟩
    · rw [if_pos ((wb_eq b).mpr c2), if_neg c2]; exact ⟨σ, rfl, FMb.rf σ⟩
