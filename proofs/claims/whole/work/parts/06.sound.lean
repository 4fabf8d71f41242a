/-! THE WALK IS SOUND: an instruction, a straight run -/
section SND
variable {p : Program} {l : Launch} {e : Env} {R : Room} {s : State} {m : MethodId} {args : Array Value} {below : List Frame} {meth : Method} {c : Code} {D : va_G} {ad : Nat → Nat} {tc : Nat → ClassId} {nL : Nat} {A : Nat → Prop} {H0 : Heap} {cells slots : Nat} {Q : State → Prop}
variable {o pc : Nat} {cc : ByteArray} {L L' : List (Nat × Value)} {st st' : List Value} {σ σ' : Sg} {O : Prop}
abbrev AWn (p : Program) (l : Launch) (e : Env) (R : Room) (s : State) (m : MethodId) (args : Array Value) (below : List Frame) (meth : Method) (c : Code) (D : va_G) (ad : Nat → Nat) (tc : Nat → ClassId) (nL : Nat) (A : Nat → Prop) (H0 : Heap) (cells slots : Nat) (Q : State → Prop) := AW p l e R s m args below meth c D ad tc nL A H0 cells slots Q
theorem s_push (hC : Cx p s m args meth c o cc nL D tc) {v : Value} {n : Nat} (hv : cv ad v = v)
    (row : ∀ (H : Heap) (locs : List Loc) (ls : Array Slot), W p l e R s m args below meth c H locs cells slots Q (F0 m (pc + n) ls (v :: st.map (cv ad))) → W p l e R s m args below meth c H locs cells slots Q (F0 m pc ls (st.map (cv ad))))
    (kk : AW p l e R s m args below meth c D ad tc nL A H0 cells slots Q (pc + n) L (v :: st) σ) : AW p l e R s m args below meth c D ad tc nL A H0 cells slots Q pc L st σ := by
  intro H locs ls hP hD hS hl
  have k1 := kk H locs ls hP hD hS hl
  rw [List.map_cons, hv] at k1
  exact row H locs ls k1
theorem s_getF (hC : Cx p s m args meth c o cc nL D tc) {x ci k : Nat} (hd : decode cc pc = .ok (.getfield x, 3)) (hk : fl_has o x ci k = true) (he : getF ci k L st σ = some (L', st', σ', O))
    (kk : AW p l e R s m args below meth c D ad tc nL A H0 cells slots Q (pc + 3) L' st' σ') : AW p l e R s m args below meth c D ad tc nL A H0 cells slots Q pc L st σ := by
  obtain ⟨hx, hb, hml, hown, hts, ⟨hK, -⟩, -⟩ := hC
  unfold getF at he
  split at he
  · rename_i q st0
    split at he
    · rename_i c0 ks hsh
      split at he
      · rename_i hci
        have hci := Nat.eq_of_beq_eq_true hci
        subst hci
        split at he
        · rename_i kd hkd
          cases he
          obtain ⟨hp, hc8, hks⟩ := shp_obj hsh
          obtain ⟨N, hcl, hin, -, -⟩ := cls_at hc8
          obtain ⟨hlen, -⟩ := hks N hcl
          intro H locs ls hP hD hS hl
          have hw := wl_at (ad := ad) (tc := tc) (σ := σ) hp
          have hcel : cel ad tc (shp q) (σ.1 q) (σ.2 q) = .inr (c0, flds ad (σ.1 q) (σ.2 q) ks) := by rw [hsh]; rfl
          rw [hcel] at hw
          have hkl : k < N := by rw [← hlen]; exact (List.getElem?_eq_some_iff.mp hkd).1
          have hv : (flds ad (σ.1 q) (σ.2 q) ks)[k]? = some (cv ad (fv (fun q => q) (σ.1 q) (σ.2 q) k kd)) := by
            rw [flds_at, hkd]
            show some _ = some _
            congr 1
            unfold fv
            split <;> rfl
          exact va_get (D := D) hx hb hts (lays_tw hin) hown hK hP q hw hcl k hkl (hts _ (fl_tw hk)) (fun _ h => h) hv hd (kk H locs ls hP hD hS hl)
        · cases he
      · cases he
    · cases he
  · cases he
theorem nar_b {x : Int32} (h : x = 0 ∨ x = 1) : narrow .boolean (.int x) = .int x ∧ fits .boolean (.int x) = true := by
  rcases h with rfl | rfl <;> exact ⟨rfl, rfl⟩
theorem uI_at {σ : Sg} {q k : Nat} {x : Int32} : (uI σ q k x).1 q = upd (σ.1 q) k x ∧ (uI σ q k x).2 q = σ.2 q ∧ ∀ r, r ≠ q → (uI σ q k x).1 r = σ.1 r ∧ (uI σ q k x).2 r = σ.2 r := by
  refine ⟨by simp [uI], rfl, fun r hr => ⟨by simp [uI, hr], rfl⟩⟩
theorem uJ_at {σ : Sg} {q k : Nat} {x : Int64} : (uJ σ q k x).2 q = vp_updL (σ.2 q) k x ∧ (uJ σ q k x).1 q = σ.1 q ∧ ∀ r, r ≠ q → (uJ σ q k x).1 r = σ.1 r ∧ (uJ σ q k x).2 r = σ.2 r := by
  refine ⟨by simp [uJ], rfl, fun r hr => ⟨rfl, by simp [uJ, hr]⟩⟩
theorem s_putF (hC : Cx p s m args meth c o cc nL D tc) {x ci k : Nat} (hd : decode cc pc = .ok (.putfield x, 3)) (hk : fl_has o x ci k = true) (he : putF ci k L st σ = some (L', st', σ', O)) (hO : O)
    (kk : AW p l e R s m args below meth c D ad tc nL A H0 cells slots Q (pc + 3) L' st' σ') : AW p l e R s m args below meth c D ad tc nL A H0 cells slots Q pc L st σ := by
  obtain ⟨hx, hb, hml, hown, hts, ⟨hK, -⟩, -⟩ := hC
  unfold putF at he
  split at he
  · rename_i v q st0
    split at he
    · rename_i c0 ks hsh
      split at he
      · rename_i hci
        have hci := Nat.eq_of_beq_eq_true hci
        subst hci
        obtain ⟨hp, hc8, hks⟩ := shp_obj hsh
        obtain ⟨N, hcl, hin, ⟨ty, hty⟩, hnm⟩ := cls_at hc8
        obtain ⟨hlen, hkind⟩ := hks N hcl
        have hcel : ∀ (f : Nat → Int32) (g : Nat → Int64), cel ad tc (shp q) f g = .inr (c0, flds ad f g ks) := fun f g => by rw [hsh]; rfl
        have hw := wl_at (ad := ad) (tc := tc) (σ := σ) hp
        rw [hcel] at hw
        split at he
        · rename_i y hkd
          cases he
          have hdk := hkind k 0 hkd
          simp only [dk, Bool.and_eq_true, beq_iff_eq, Bool.not_eq_true'] at hdk
          have hkl : k < N := by rw [← hlen]; exact (List.getElem?_eq_some_iff.mp hkd).1
          intro H locs ls hP hD hS hl
          refine va_put (D := D) (v := .int y) (ty := .int) hx hb hts (lays_tw hin) ty hty hnm hown hK hP hD hS q hw hcl k hkl (hts _ (fl_tw hk)) (fun _ h => h) hdk.2 (by rw [hdk.1]; decide +kernel) rfl rfl (by simp [flds, hlen, hkl]) hd (fun H1 locs1 hP1 hD1 hS1 => ?_)
          have hs := wl_set (ad := ad) (tc := tc) (σ := σ) (σ' := uI σ q k y) hp (uI_at.2.2) (e := .inr (c0, (flds ad (σ.1 q) (σ.2 q) ks).set k (.int y))) (by rw [hcel, uI_at.1, uI_at.2.1, flds_setI hkd (Or.inl rfl)])
          rw [hs] at hP1 hD1
          exact kk H1 locs1 ls hP1 hD1 hS1 hl
        · rename_i y hkd
          cases he
          have hdk := hkind k 1 hkd
          simp only [dk, Bool.and_eq_true, beq_iff_eq, Bool.not_eq_true'] at hdk
          have hkl : k < N := by rw [← hlen]; exact (List.getElem?_eq_some_iff.mp hkd).1
          intro H locs ls hP hD hS hl
          refine va_put (D := D) (v := .int y) (ty := .boolean) hx hb hts (lays_tw hin) ty hty hnm hown hK hP hD hS q hw hcl k hkl (hts _ (fl_tw hk)) (fun _ h => h) hdk.2 (by rw [hdk.1]; decide +kernel) (nar_b hO).1 (nar_b hO).2 (by simp [flds, hlen, hkl]) hd (fun H1 locs1 hP1 hD1 hS1 => ?_)
          have hs := wl_set (ad := ad) (tc := tc) (σ := σ) (σ' := uI σ q k y) hp (uI_at.2.2) (e := .inr (c0, (flds ad (σ.1 q) (σ.2 q) ks).set k (.int y))) (by rw [hcel, uI_at.1, uI_at.2.1, flds_setI hkd (Or.inr rfl)])
          rw [hs] at hP1 hD1
          exact kk H1 locs1 ls hP1 hD1 hS1 hl
        · rename_i y hkd
          cases he
          have hdk := hkind k 2 hkd
          simp only [dk, Bool.and_eq_true, beq_iff_eq, Bool.not_eq_true'] at hdk
          have hkl : k < N := by rw [← hlen]; exact (List.getElem?_eq_some_iff.mp hkd).1
          intro H locs ls hP hD hS hl
          refine va_put (D := D) (v := .long y) (ty := .long) hx hb hts (lays_tw hin) ty hty hnm hown hK hP hD hS q hw hcl k hkl (hts _ (fl_tw hk)) (fun _ h => h) hdk.2 (by rw [hdk.1]; decide +kernel) rfl rfl (by simp [flds, hlen, hkl]) hd (fun H1 locs1 hP1 hD1 hS1 => ?_)
          have hs := wl_set (ad := ad) (tc := tc) (σ := σ) (σ' := uJ σ q k y) hp (uJ_at.2.2) (e := .inr (c0, (flds ad (σ.1 q) (σ.2 q) ks).set k (.long y))) (by rw [hcel, uJ_at.1, uJ_at.2.1, flds_setJ hkd])
          rw [hs] at hP1 hD1
          exact kk H1 locs1 ls hP1 hD1 hS1 hl
        · cases he
      · cases he
    · cases he
  · cases he
theorem s_aldI (hC : Cx p s m args meth c o cc nL D tc) {t : Nat} {i : Instr} (ht : (t = 0 ∧ i = .iaload) ∨ (t = 1 ∧ i = .baload)) (hd : decode cc pc = .ok (i, 1)) (he : aldI t L st σ = some (L', st', σ', O)) (hO : O)
    (kk : AW p l e R s m args below meth c D ad tc nL A H0 cells slots Q (pc + 1) L' st' σ') : AW p l e R s m args below meth c D ad tc nL A H0 cells slots Q pc L st σ := by
  obtain ⟨hx, hb, hml, hown, hts, ⟨hK, -⟩, -⟩ := hC
  unfold aldI at he
  split at he
  · rename_i j q st0
    split at he
    · rename_i u n hsh
      split at he
      · rename_i hu
        have hu := Nat.eq_of_beq_eq_true hu
        subst hu
        cases he
        obtain ⟨hp, h3, hn⟩ := shp_arr hsh (by rcases ht with ⟨rfl, -⟩ | ⟨rfl, -⟩ <;> decide)
        intro H locs ls hP hD hS hl
        have hw := wl_at (ad := ad) (tc := tc) (σ := σ) hp
        rw [hsh] at hw
        rcases ht with ⟨rfl, rfl⟩ | ⟨rfl, rfl⟩
        · exact va_iald hx hb hK hP q 0 hw rfl hO hd (kk H locs ls hP hD hS hl)
        · exact va_zald hx hb hK hP q 1 hw rfl hO hd (kk H locs ls hP hD hS hl)
      · cases he
    · cases he
  · cases he
theorem s_aldJ (hC : Cx p s m args meth c o cc nL D tc) (hd : decode cc pc = .ok (.laload, 1)) (he : aldJ L st σ = some (L', st', σ', O)) (hO : O)
    (kk : AW p l e R s m args below meth c D ad tc nL A H0 cells slots Q (pc + 1) L' st' σ') : AW p l e R s m args below meth c D ad tc nL A H0 cells slots Q pc L st σ := by
  obtain ⟨hx, hb, hml, hown, hts, ⟨hK, -⟩, -⟩ := hC
  unfold aldJ at he
  split at he
  · rename_i j q st0
    split at he
    · rename_i u n hsh
      split at he
      · rename_i hu
        have hu := Nat.eq_of_beq_eq_true hu
        subst hu
        cases he
        obtain ⟨hp, h3, hn⟩ := shp_arr hsh (by decide)
        intro H locs ls hP hD hS hl
        have hw := wl_at (ad := ad) (tc := tc) (σ := σ) hp
        rw [hsh] at hw
        exact va_lald hx hb hK hP q 2 hw rfl hO hd (kk H locs ls hP hD hS hl)
      · cases he
    · cases he
  · cases he
theorem s_astI (hC : Cx p s m args meth c o cc nL D tc) (hd : decode cc pc = .ok (.iastore, 1)) (he : astI L st σ = some (L', st', σ', O)) (hO : O)
    (kk : AW p l e R s m args below meth c D ad tc nL A H0 cells slots Q (pc + 1) L' st' σ') : AW p l e R s m args below meth c D ad tc nL A H0 cells slots Q pc L st σ := by
  obtain ⟨hx, hb, hml, hown, hts, ⟨hK, -⟩, -⟩ := hC
  unfold astI at he
  split at he
  · rename_i x j q st0
    split at he
    · rename_i u n hsh
      split at he
      · rename_i hu
        have hu := Nat.eq_of_beq_eq_true hu
        subst hu
        cases he
        obtain ⟨hp, h3, hn⟩ := shp_arr hsh (by decide)
        intro H locs ls hP hD hS hl
        have hw := wl_at (ad := ad) (tc := tc) (σ := σ) hp
        rw [hsh] at hw
        refine va_iast hx hb hK hP hD hS q 0 hw rfl hO hd (fun H1 locs1 hP1 hD1 hS1 => ?_)
        have hs := wl_set (ad := ad) (tc := tc) (σ := σ) (σ' := uI σ q j.toNatClampNeg x) hp (uI_at.2.2) (e := .inl (tc 0, n, .inl (upd (σ.1 q) j.toNatClampNeg x))) (by rw [hsh, uI_at.1]; rfl)
        rw [hs] at hP1 hD1
        exact kk H1 locs1 ls hP1 hD1 hS1 hl
      · cases he
    · cases he
  · cases he
theorem s_astZ (hC : Cx p s m args meth c o cc nL D tc) (hd : decode cc pc = .ok (.bastore, 1)) (he : astZ L st σ = some (L', st', σ', O)) (hO : O)
    (kk : AW p l e R s m args below meth c D ad tc nL A H0 cells slots Q (pc + 1) L' st' σ') : AW p l e R s m args below meth c D ad tc nL A H0 cells slots Q pc L st σ := by
  obtain ⟨hx, hb, hml, hown, hts, ⟨hK, -⟩, -⟩ := hC
  unfold astZ at he
  split at he
  · rename_i x j q st0
    split at he
    · rename_i u n hsh
      split at he
      · rename_i hu
        have hu := Nat.eq_of_beq_eq_true hu
        subst hu
        cases he
        obtain ⟨hp, h3, hn⟩ := shp_arr hsh (by decide)
        intro H locs ls hP hD hS hl
        have hw := wl_at (ad := ad) (tc := tc) (σ := σ) hp
        rw [hsh] at hw
        refine va_zast hx hb hK hP hD hS q 1 hw rfl hO hd (fun H1 locs1 hP1 hD1 hS1 => ?_)
        have hs := wl_set (ad := ad) (tc := tc) (σ := σ) (σ' := uI σ q j.toNatClampNeg (x &&& 1)) hp (uI_at.2.2) (e := .inl (tc 1, n, .inl (upd (σ.1 q) j.toNatClampNeg (vp_nar .boolean x)))) (by rw [hsh, uI_at.1]; rfl)
        rw [hs] at hP1 hD1
        exact kk H1 locs1 ls hP1 hD1 hS1 hl
      · cases he
    · cases he
  · cases he
theorem s_astJ (hC : Cx p s m args meth c o cc nL D tc) (hd : decode cc pc = .ok (.lastore, 1)) (he : astJ L st σ = some (L', st', σ', O)) (hO : O)
    (kk : AW p l e R s m args below meth c D ad tc nL A H0 cells slots Q (pc + 1) L' st' σ') : AW p l e R s m args below meth c D ad tc nL A H0 cells slots Q pc L st σ := by
  obtain ⟨hx, hb, hml, hown, hts, ⟨hK, -⟩, -⟩ := hC
  unfold astJ at he
  split at he
  · rename_i x j q st0
    split at he
    · rename_i u n hsh
      split at he
      · rename_i hu
        have hu := Nat.eq_of_beq_eq_true hu
        subst hu
        cases he
        obtain ⟨hp, h3, hn⟩ := shp_arr hsh (by decide)
        intro H locs ls hP hD hS hl
        have hw := wl_at (ad := ad) (tc := tc) (σ := σ) hp
        rw [hsh] at hw
        refine va_last hx hb hK hP hD hS q 2 hw rfl hO hd (fun H1 locs1 hP1 hD1 hS1 => ?_)
        have hs := wl_set (ad := ad) (tc := tc) (σ := σ) (σ' := uJ σ q j.toNatClampNeg x) hp (uJ_at.2.2) (e := .inl (tc 2, n, .inr (.inl (vp_updL (σ.2 q) j.toNatClampNeg x)))) (by rw [hsh, uJ_at.1]; rfl)
        rw [hs] at hP1 hD1
        exact kk H1 locs1 ls hP1 hD1 hS1 hl
      · cases he
    · cases he
  · cases he
theorem s_alen (hC : Cx p s m args meth c o cc nL D tc) {v : Value} (hd : decode cc pc = .ok (.arraylength, 1)) (he : alenF L st σ v = some (L', st', σ', O)) (hO : O)
    (kk : AW p l e R s m args below meth c D ad tc nL A H0 cells slots Q (pc + 1) L' st' σ') : AW p l e R s m args below meth c D ad tc nL A H0 cells slots Q pc L st σ := by
  obtain ⟨hx, hb, hml, hown, hts, ⟨hK, -⟩, -⟩ := hC
  unfold alenF at he
  split at he
  · rename_i q st0
    split at he
    · rename_i u n x hsh
      split at he
      · cases he
      · rename_i h3
        cases he
        have h3 : u ≠ 3 := fun e => by rw [e] at h3; cases h3
        obtain ⟨hp, h3, hn⟩ := shp_arr hsh h3
        intro H locs ls hP hD hS hl
        have hw := wl_at (ad := ad) (tc := tc) (σ := σ) hp
        rw [hsh] at hw
        have hk1 := kk H locs ls hP hD hS hl
        match u, h3, hw with
        | 0, _, hw => exact va_alen hx hb hK hP q 0 hw (ty := .int) rfl hO.symm hd hk1
        | 1, _, hw => exact va_alen hx hb hK hP q 1 hw (ty := .boolean) rfl hO.symm hd hk1
        | 2, _, hw => exact va_alen hx hb hK hP q 2 hw (ty := .long) rfl hO.symm hd hk1
    · cases he
  · cases he
theorem s_st1 (hC : Cx p s m args meth c o cc nL D tc) {i : Instr} {n ci k : Nat} {v : Value} (hd : decode cc pc = .ok (i, n)) (hn : n = ilen i) (hlk : lnk o i ci k v = true)
    (hbd : lbd nL i = true) (he : st1 i ci k v L st σ = some (L', st', σ', O)) (hO : O)
    (kk : AW p l e R s m args below meth c D ad tc nL A H0 cells slots Q (pc + n) L' st' σ') : AW p l e R s m args below meth c D ad tc nL A H0 cells slots Q pc L st σ := by
  subst hn
  have hC0 := hC
  obtain ⟨hx, hb, hml, hown, hts, ⟨hK, -⟩, -⟩ := hC
  cases i <;> first
    | (exfalso; cases he; done)
    | skip
  case iconst n => 
    cases he
    have hv : v = .int (Int32.ofInt n) := by simpa [lnk] using hlk
    subst hv
    exact s_push hC0 rfl (fun H locs ls k => lv_iconst hx hb hd rfl k) kk
  case bipush n => 
    cases he
    have hv : v = .int (Int8.ofInt n).toInt32 := by simpa [lnk] using hlk
    subst hv
    exact s_push hC0 rfl (fun H locs ls k => lv_bipush hx hb hd rfl k) kk
  case sipush n => 
    cases he
    have hv : v = .int (Int16.ofInt n).toInt32 := by simpa [lnk] using hlk
    subst hv
    exact s_push hC0 rfl (fun H locs ls k => lv_sipush hx hb hd rfl k) kk
  case lconst n => 
    cases he
    have hv : v = .long (Int64.ofNat (n : Nat)) := by simpa [lnk] using hlk
    subst hv
    exact s_push hC0 rfl (fun H locs ls k => lv_lconst hx hb hd rfl k) kk
  case ldc x => 
    cases he
    cases v with
    | int y => exact s_push hC0 rfl (fun H locs ls k => lv_ldc hx hb hown (hts _ (cl_tw hlk)) hd k) kk
    | _ => cases hlk
  case ldc_w x => 
    cases he
    cases v with
    | int y => exact s_push hC0 rfl (fun H locs ls k => lv_ldcw hx hb hown (hts _ (cl_tw hlk)) hd k) kk
    | _ => cases hlk
  case ldc2_w x => 
    cases he
    cases v with
    | long y => exact s_push hC0 rfl (fun H locs ls k => lv_ldc2 hx hb hown (hts _ (cj_tw hlk)) hd k) kk
    | _ => cases hlk
  case iload_n a =>
    simp only [st1, ldI] at he
    split at he
    · rename_i x hg
      cases he
      intro H locs ls hP hD hS hl
      exact lv_iload_n hx hb hd rfl (lv_get hl hg) (kk H locs ls hP hD hS hl)
    · cases he
  case iload a =>
    simp only [st1, ldI] at he
    split at he
    · rename_i x hg
      cases he
      intro H locs ls hP hD hS hl
      exact lv_iload hx hb hd (lv_get hl hg) (kk H locs ls hP hD hS hl)
    · cases he
  case lload_n a =>
    simp only [st1, ldJ] at he
    split at he
    · rename_i x hg
      cases he
      intro H locs ls hP hD hS hl
      exact lv_lload_n hx hb hd rfl (lv_get hl hg) (kk H locs ls hP hD hS hl)
    · cases he
  case lload a =>
    simp only [st1, ldJ] at he
    split at he
    · rename_i x hg
      cases he
      intro H locs ls hP hD hS hl
      exact lv_lload hx hb hd (lv_get hl hg) (kk H locs ls hP hD hS hl)
    · cases he
  case aload_n a =>
    simp only [st1, ldA] at he
    split at he
    · rename_i x hg
      cases he
      intro H locs ls hP hD hS hl
      exact lv_aload_n hx hb hd rfl (lv_get hl hg) (kk H locs ls hP hD hS hl)
    · cases he
  case aload a =>
    simp only [st1, ldA] at he
    split at he
    · rename_i x hg
      cases he
      intro H locs ls hP hD hS hl
      exact lv_aload hx hb hd (lv_get hl hg) (kk H locs ls hP hD hS hl)
    · cases he
  case istore_n a =>
    simp only [st1, sdI] at he
    split at he
    · rename_i x st0
      cases he
      intro H locs ls hP hD hS hl
      refine lv_istore_n hx hb hd rfl hl (of_decide_eq_true hbd) rfl (fun ls' hl' => ?_)
      rw [clo_kp1] at hl'
      exact kk H locs ls' hP hD hS (clo_ins hl')
    · cases he
  case istore a =>
    simp only [st1, sdI] at he
    split at he
    · rename_i x st0
      cases he
      intro H locs ls hP hD hS hl
      refine lv_istore hx hb hd hl (of_decide_eq_true hbd) rfl (fun ls' hl' => ?_)
      rw [clo_kp1] at hl'
      exact kk H locs ls' hP hD hS (clo_ins hl')
    · cases he
  case astore_n a =>
    simp only [st1, sdA] at he
    split at he
    · rename_i x st0
      cases he
      intro H locs ls hP hD hS hl
      refine lv_astore_n hx hb hd rfl hl (of_decide_eq_true hbd) rfl (fun ls' hl' => ?_)
      rw [clo_kp1] at hl'
      exact kk H locs ls' hP hD hS (clo_ins hl')
    · cases he
  case astore a =>
    simp only [st1, sdA] at he
    split at he
    · rename_i x st0
      cases he
      intro H locs ls hP hD hS hl
      refine lv_astore hx hb hd hl (of_decide_eq_true hbd) rfl (fun ls' hl' => ?_)
      rw [clo_kp1] at hl'
      exact kk H locs ls' hP hD hS (clo_ins hl')
    · cases he
  case lstore_n a =>
    simp only [st1, sdJ] at he
    split at he
    · rename_i x st0
      cases he
      intro H locs ls hP hD hS hl
      refine lv_lstore_n hx hb hd rfl hl (of_decide_eq_true hbd) rfl (fun ls' hl' => ?_)
      rw [clo_kp2] at hl'
      exact kk H locs ls' hP hD hS (clo_ins hl')
    · cases he
  case lstore a =>
    simp only [st1, sdJ] at he
    split at he
    · rename_i x st0
      cases he
      intro H locs ls hP hD hS hl
      refine lv_lstore hx hb hd hl (of_decide_eq_true hbd) rfl (fun ls' hl' => ?_)
      rw [clo_kp2] at hl'
      exact kk H locs ls' hP hD hS (clo_ins hl')
    · cases he
  case iinc a z =>
    simp only [st1, iincF] at he
    have hv : v = .int (Int32.ofInt z) := by simpa [lnk] using hlk
    subst hv
    split at he
    · rename_i x y hg hy
      cases he
      cases hy
      intro H locs ls hP hD hS hl
      obtain ⟨kx, hkx⟩ := List.getElem?_of_mem (List.mem_map.mpr ⟨_, lget_mem hg, rfl⟩ : (a, cv ad (.int x)) ∈ clo ad L)
      refine lv_iinc (k := kx) hx hb hd hl hkx rfl (of_decide_eq_true hbd) rfl (fun ls' hl' => ?_)
      rw [clo_kp1] at hl'
      exact kk H locs ls' hP hD hS (clo_ins hl')
    · cases he
  all_goals (try (simp only [st1, o2I] at he; (split at he <;> first | (exfalso; cases he; done) | skip); cases he; intro H locs ls hP hD hS hl; have k1 := kk H locs ls hP hD hS hl; first | exact lv_iadd hx hb hd k1 | exact lv_isub hx hb hd k1 | exact lv_imul hx hb hd k1 | exact lv_iand hx hb hd k1 | exact lv_ior hx hb hd k1 | exact lv_ixor hx hb hd k1 | exact lv_ishl hx hb hd k1 | exact lv_ishr hx hb hd k1 | exact lv_iushr hx hb hd rfl k1))
  all_goals (try (simp only [st1, o2J] at he; (split at he <;> first | (exfalso; cases he; done) | skip); cases he; intro H locs ls hP hD hS hl; have k1 := kk H locs ls hP hD hS hl; first | exact lv_ladd hx hb hd k1 | exact lv_lsub hx hb hd k1 | exact lv_lmul hx hb hd k1 | exact lv_lxor hx hb hd k1))
  case idiv =>
    simp only [st1, divI] at he
    split at he
    · cases he; intro H locs ls hP hD hS hl; exact lv_idiv hx hb hd hO (kk H locs ls hP hD hS hl)
    · cases he
  case irem =>
    simp only [st1, divI] at he
    split at he
    · cases he; intro H locs ls hP hD hS hl; exact lv_irem hx hb hd hO (kk H locs ls hP hD hS hl)
    · cases he
  case ldiv =>
    simp only [st1, divJ] at he
    split at he
    · cases he; intro H locs ls hP hD hS hl; exact lv_ldiv hx hb hd hO (kk H locs ls hP hD hS hl)
    · cases he
  case lrem =>
    simp only [st1, divJ] at he
    split at he
    · cases he; intro H locs ls hP hD hS hl; exact lv_lrem hx hb hd hO (kk H locs ls hP hD hS hl)
    · cases he
  case ineg =>
    simp only [st1, negI] at he
    (split at he <;> first | (exfalso; cases he; done) | skip)
    cases he
    intro H locs ls hP hD hS hl; exact lv_ineg hx hb hd (kk H locs ls hP hD hS hl)
  case lneg =>
    simp only [st1, negJ] at he
    (split at he <;> first | (exfalso; cases he; done) | skip)
    cases he
    intro H locs ls hP hD hS hl; exact lv_lneg hx hb hd (kk H locs ls hP hD hS hl)
  case i2l =>
    simp only [st1, i2lF] at he
    (split at he <;> first | (exfalso; cases he; done) | skip)
    cases he
    intro H locs ls hP hD hS hl; exact lv_i2l hx hb hd rfl (kk H locs ls hP hD hS hl)
  case l2i =>
    simp only [st1, l2iF] at he
    (split at he <;> first | (exfalso; cases he; done) | skip)
    cases he
    intro H locs ls hP hD hS hl; exact lv_l2i hx hb hd rfl (kk H locs ls hP hD hS hl)
  case lcmp =>
    simp only [st1, lcmpF] at he
    (split at he <;> first | (exfalso; cases he; done) | skip)
    cases he
    intro H locs ls hP hD hS hl; exact W.lcmp hx hb hd (kk H locs ls hP hD hS hl)
  case dup =>
    simp only [st1, dupF] at he
    split at he
    · cases he; intro H locs ls hP hD hS hl; exact lv_dup hx hb hd rfl (kk H locs ls hP hD hS hl)
    · cases he; intro H locs ls hP hD hS hl; exact lv_dup hx hb hd rfl (kk H locs ls hP hD hS hl)
    · cases he
  case getfield x => exact s_getF hC0 hd hlk he kk
  case putfield x => exact s_putF hC0 hd hlk he hO kk
  case iaload => exact s_aldI hC0 (Or.inl ⟨rfl, rfl⟩) hd he hO kk
  case baload => exact s_aldI hC0 (Or.inr ⟨rfl, rfl⟩) hd he hO kk
  case laload => exact s_aldJ hC0 hd he hO kk
  case iastore => exact s_astI hC0 hd he hO kk
  case bastore => exact s_astZ hC0 hd he hO kk
  case lastore => exact s_astJ hC0 hd he hO kk
  case arraylength => exact s_alen hC0 hd he hO kk
/-- A STRAIGHT RUN -/
theorem aw_blk (hC : Cx p s m args meth c o cc nL D tc) : ∀ (is : List AI) {pc : Nat} {L : List (Nat × Value)} {st : List Value} {σ : Sg} {O : Prop}, chk o nL cc pc is = true → ∀ {pc' : Nat} (L' : List (Nat × Value)) (st' : List Value) (σ' : Sg), blk is L st σ = some (L', st', σ', O) → pcs pc is = pc' → O → AW p l e R s m args below meth c D ad tc nL A H0 cells slots Q pc' L' st' σ' → AW p l e R s m args below meth c D ad tc nL A H0 cells slots Q pc L st σ
  | [], pc, L, st, σ, O, hk, pc', L', st', σ', he, hpc, hO, kk => by
    cases he
    subst hpc
    exact kk
  | (i, n, ci, k, v) :: is, pc, L, st, σ, O, hk, pc', L', st', σ', he, hpc, hO, kk => by
    unfold blk at he
    split at he
    · cases he
    · rename_i L1 s1 σ1 O1 hq
      split at he
      · cases he
      · rename_i L2 s2 σ2 O2 hr
        cases he
        unfold chk at hk
        simp only [Bool.and_eq_true, decide_eq_true_eq] at hk
        obtain ⟨h1, h2, h3, h4, h5⟩ := hk
        exact s_st1 hC h1 (Nat.eq_of_beq_eq_true h2) h3 h4 hq hO.1 (aw_blk hC is h5 _ _ _ hr hpc hO.2 kk)
end SND
