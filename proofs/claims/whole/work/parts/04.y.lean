/-! part 04: the reference's own methods against the pictures -/
section
variable {n : Nat} {fr tq sl fa pr : Nat → Int32} {F T S A P : Nat → Nat}
theorem cy_38 {post : Int32 → SY → Prop} {J : Int32 → (Nat → Int32) → (Nat → Int32) → (Nat → Int32) → (Nat → Int32) → (Nat → Int32) → (Nat → Int32) → (Nat → Int32) → (Nat → Int32) → Prop} {e : Nat} {tms chp : Nat → Int32} {tm L : Nat → Int}
    (hn : n ≤ 7) (E : cp_E n fr tq sl fa pr F T S A P) (H : cp_H n F T S A P) (ht : ∀ j, j < n → tms j = cq_I (tm j)) (hb : ∀ j, j < n → F j < T j ∧ 0 ≤ tm j ∧ tm j ≤ 9) (he : e < 5) (hK : cp_K L)
    (hJ : ∀ lt', cp_A 6 lt' (cp_in F T tm e n L) → J (nI (e + 1)) fr tq sl fa pr tms lt' chp) :
    ∀ d i lt, i + d = n → cp_A 6 lt (cp_in F T tm e i L) → wY_length_38 post J (nI e) (nI n) (d + 1) (nI i) fr tq sl fa pr tms lt chp := by
  intro d
  induction d with
  | zero =>
    intro i lt hi hA
    have hi' : i = n := by omega
    rw [hi'] at hA
    exact br_t (nI_le (by omega) (by omega)) (nm_r (nI_1 e) (hJ lt hA))
  | succ d ih =>
    intro i lt hi hA
    have hi1 : i < n := by omega
    have ci : (nI i).toNatClampNeg = i := nI_clamp (by omega)
    have ce : (nI e).toNatClampNeg = e := nI_clamp (by omega)
    obtain ⟨e1, e2, e3, e4, e5⟩ := E i hi1
    obtain ⟨h1, h2, h3, h4, h5, h6, h7⟩ := H i hi1
    have ct : (nI (T i)).toNatClampNeg = T i := nI_clamp (by omega)
    have tb := hb i hi1
    have K := cp_K_in (e := e) i L (fun j hj => hb j (by omega)) hK
    have Ke := K e
    have Kt := K (T i)
    have st : ∀ lt', cp_A 6 lt' (cp_st F T tm e i (cp_in F T tm e i L)) → ∀ x, x = nI i + 1 → wY_length_38 post J (nI e) (nI n) (d + 1) x fr tq sl fa pr tms lt' chp :=
      fun lt' h => nm_r (nI_1 i) (ih (i + 1) lt' (by omega) h)
    have ar : lt e + tms i = cq_I (cp_in F T tm e i L e + tm i) := by
      rw [hA e (by omega), ht i hi1, cq_add]
    have vi : vp_in (nI i) 7 := vp_in_nI (by omega) (by decide)
    have ve : vp_in (nI e) 6 := vp_in_nI (by omega) (by decide)
    have vt : vp_in (nI (T i)) 6 := vp_in_nI (by omega) (by decide)
    refine br_f (nI_ge (by omega) (by omega)) ⟨vi, ?_⟩
    rw [ci, ce, e1, e2, ct]
    by_cases c : F i = e
    · refine br_t (by rw [c]) ⟨ve, ?_⟩
      exact cq_bLT (cp_in F T tm e i L e) 0 (hA e (by omega)) cq_0 (by omega) (by omega) (by omega) (by omega)
        (fun k => st lt (cp_A_st_n hA (by omega)))
        (fun k => ⟨ve, vi, vi, vt, cq_bLE (cp_in F T tm e i L e + tm i) (cp_in F T tm e i L (T i)) ar (hA (T i) (by omega)) (by omega) (by omega) (by omega) (by omega)
          (fun k2 => st lt (cp_A_st_n hA (by omega)))
          (fun k2 => ⟨vi, ve, vi, vt, nm_r (congrArg (upd lt (T i)) ar) (st _ (cp_A_st_y hA c k k2))⟩)⟩)
    · exact br_f (fun z => c ((nI_eq (by omega) (by omega)).mp z)) (st lt (cp_A_st_n hA (fun z => c z.1)))
theorem cy_31 {post : Int32 → SY → Prop} {tms chp : Nat → Int32} {tm : Nat → Int}
    (hn : n ≤ 7) (E : cp_E n fr tq sl fa pr F T S A P) (H : cp_H n F T S A P) (ht : ∀ j, j < n → tms j = cq_I (tm j)) (hb : ∀ j, j < n → F j < T j ∧ 0 ≤ tm j ∧ tm j ≤ 9)
    (hpost : ∀ lt', post (nI (cp_out F T tm n 5 5).toNat) (nI n, fr, tq, sl, fa, pr, tms, lt', chp)) :
    ∀ d e lt, e + d = 5 → cp_A 6 lt (cp_out F T tm n e) → wY_length_31 post (nI n) (d + 1) (nI e) fr tq sl fa pr tms lt chp := by
  intro d
  induction d with
  | zero =>
    intro e lt he hA
    obtain rfl : e = 5 := by omega
    have K := cp_K_out hb 5 5
    have h := hpost lt
    refine br_t (nI_le (a := 5) (by omega) (by omega)) ?_
    refine cq_bLE 0 (cp_out F T tm n 5 5) cq_0 (hA 5 (by omega)) (by omega) (by omega) (by omega) (by omega) (fun k => ?_) (fun k => ?_)
    · have z : lt 5 = nI (cp_out F T tm n 5 5).toNat := by
        rw [hA 5 (by omega), cq_n]
        congr 1
        omega
      rw [z]
      exact h
    · have z : (cp_out F T tm n 5 5).toNat = 0 := by omega
      rw [z] at h
      exact h
  | succ d ih =>
    intro e lt he hA
    exact br_f (nI_ge (b := 5) (by omega) (by omega)) ⟨n + 1, cy_38 (J := wY_length_31 post (nI n) (d + 1)) hn E H ht hb (by omega) (cp_K_out hb e) (fun lt' h => ih (e + 1) lt' (by omega) h) n 0 lt (by omega) hA⟩
theorem cy_2 {post : Int32 → SY → Prop} {tms chp : Nat → Int32} {tm : Nat → Int}
    (hn : n ≤ 7) (E : cp_E n fr tq sl fa pr F T S A P) (H : cp_H n F T S A P) (ht : ∀ j, j < n → tms j = cq_I (tm j)) (hb : ∀ j, j < n → F j < T j ∧ 0 ≤ tm j ∧ tm j ≤ 9)
    (hpost : ∀ lt', post (nI (cp_out F T tm n 5 5).toNat) (nI n, fr, tq, sl, fa, pr, tms, lt', chp)) :
    ∀ d e lt, e + d = 6 → (∀ x, x < e → lt x = cq_I (if x = 0 then 0 else -1)) → wY_length_2 post (nI n) (d + 1) (nI e) fr tq sl fa pr tms lt chp := by
  intro d
  induction d with
  | zero =>
    intro e lt he hA
    obtain rfl : e = 6 := by omega
    exact br_t (nI_le (a := 6) (by omega) (by omega)) ⟨6, cy_31 hn E H ht hb hpost 5 0 lt rfl hA⟩
  | succ d ih =>
    intro e lt he hA
    have ce : (nI e).toNatClampNeg = e := nI_clamp (by omega)
    have ve : vp_in (nI e) 6 := vp_in_nI (by omega) (by decide)
    refine br_f (nI_ge (b := 6) (by omega) (by omega)) ?_
    rw [ce]
    by_cases c : e = 0
    · subst c
      refine br_t rfl ⟨ve, nm_e (nm_r (nI_1 0) (ih 1 _ (by omega) (fun x hx => ?_)))⟩
      obtain rfl : x = 0 := by omega
      rw [pk_us, if_pos rfl]
      exact cq_0
    · refine br_f (nI_ne0 (by omega) (by omega)) ⟨ve, nm_e (nm_r (nI_1 e) (ih (e + 1) _ (by omega) (fun x hx => ?_)))⟩
      by_cases z : x = e
      · subst z
        rw [pk_us, if_neg c]
        exact cq_m1
      · rw [pk_un z]
        exact hA x (by omega)
theorem cy_length {post : Int32 → SY → Prop} {tms lt chp : Nat → Int32} (tm : Nat → Int)
    (hn : n ≤ 7) (E : cp_E n fr tq sl fa pr F T S A P) (H : cp_H n F T S A P) (ht : ∀ j, j < n → tms j = cq_I (tm j)) (hb : ∀ j, j < n → F j < T j ∧ 0 ≤ tm j ∧ tm j ≤ 9)
    (hpost : ∀ lt', post (nI (cp_out F T tm n 5 5).toNat) (nI n, fr, tq, sl, fa, pr, tms, lt', chp)) : wpY_length post (nI n, fr, tq, sl, fa, pr, tms, lt, chp) := by
  show ∃ n2 : Nat, wY_length_2 post (nI n) n2 0 fr tq sl fa pr tms lt chp
  exact ⟨7, cy_2 hn E H ht hb hpost 6 0 lt rfl (fun x hx => absurd hx (Nat.not_lt_zero x))⟩
theorem cy_slowest {post : Int32 → SY → Prop} {tms lt chp : Nat → Int32}
    (hn : n ≤ 7) (E : cp_E n fr tq sl fa pr F T S A P) (H : cp_H n F T S A P)
    (hpost : ∀ tms' lt', post (nI (cp_ln F T S n 0)) (nI n, fr, tq, sl, fa, pr, tms', lt', chp)) : wpY_slowest post (nI n, fr, tq, sl, fa, pr, tms, lt, chp) := by
  have lp : ∀ d j tms, j + d = n → (∀ i, i < j → tms i = cq_I (cp_tm S 0 i)) → wY_slowest_2 post (nI n) (d + 1) (nI j) fr tq sl fa pr tms lt chp := by
    intro d
    induction d with
    | zero =>
      intro j tms hj hA
      exact br_t (nI_le (by omega) (by omega)) (cy_length (cp_tm S 0) hn E H (fun i hi => hA i (by omega)) (cp_tmb H (cp_ok0 H)) (fun lt' => hpost tms lt'))
    | succ d ih =>
      intro j tms hj hA
      have cj : (nI j).toNatClampNeg = j := nI_clamp (by omega)
      have vj : vp_in (nI j) 7 := vp_in_nI (by omega) (by decide)
      have e3 := (E j (by omega)).2.2.1
      refine br_f (nI_ge (by omega) (by omega)) ⟨vj, vj, ?_⟩
      rw [cj]
      refine nm_e (nm_r (nI_1 j) (ih (j + 1) _ (by omega) (fun i hi => ?_)))
      by_cases z : i = j
      · subst z
        rw [pk_us, e3, cq_n]
        congr 1
        unfold cp_tm
        rw [cp_sv0]
        omega
      · rw [pk_un z]
        exact hA i (by omega)
  show ∃ n2 : Nat, wY_slowest_2 post (nI n) n2 0 fr tq sl fa pr tms lt chp
  exact ⟨n + 1, lp n 0 tms (by omega) (fun i hi => absurd hi (Nat.not_lt_zero i))⟩
theorem cy_fastest {post : Int32 → SY → Prop} {tms lt chp : Nat → Int32}
    (hn : n ≤ 7) (E : cp_E n fr tq sl fa pr F T S A P) (H : cp_H n F T S A P)
    (hpost : ∀ tms' lt', post (nI (cp_lf F T A n)) (nI n, fr, tq, sl, fa, pr, tms', lt', chp)) : wpY_fastest post (nI n, fr, tq, sl, fa, pr, tms, lt, chp) := by
  have lp : ∀ d j tms, j + d = n → (∀ i, i < j → tms i = cq_I (A i : Int)) → wY_fastest_2 post (nI n) (d + 1) (nI j) fr tq sl fa pr tms lt chp := by
    intro d
    induction d with
    | zero =>
      intro j tms hj hA
      exact br_t (nI_le (by omega) (by omega)) (cy_length (fun i => (A i : Int)) hn E H (fun i hi => hA i (by omega)) (fun i hi => by
        have h := H i hi
        show F i < T i ∧ 0 ≤ (A i : Int) ∧ (A i : Int) ≤ 9
        omega) (fun lt' => hpost tms lt'))
    | succ d ih =>
      intro j tms hj hA
      have cj : (nI j).toNatClampNeg = j := nI_clamp (by omega)
      have vj : vp_in (nI j) 7 := vp_in_nI (by omega) (by decide)
      have e4 := (E j (by omega)).2.2.2.1
      refine br_f (nI_ge (by omega) (by omega)) ⟨vj, vj, ?_⟩
      rw [cj]
      refine nm_e (nm_r (nI_1 j) (ih (j + 1) _ (by omega) (fun i hi => ?_)))
      by_cases z : i = j
      · subst z
        rw [pk_us, e4, cq_n]
      · rw [pk_un z]
        exact hA i (by omega)
  show ∃ n2 : Nat, wY_fastest_2 post (nI n) n2 0 fr tq sl fa pr tms lt chp
  exact ⟨n + 1, lp n 0 tms (by omega) (fun i hi => absurd hi (Nat.not_lt_zero i))⟩
theorem cy_plan {post : Int32 → SY → Prop} {p : Nat} {tms lt chp : Nat → Int32}
    (hn : n ≤ 7) (E : cp_E n fr tq sl fa pr F T S A P) (H : cp_H n F T S A P) (hp : p < 16384)
    (hy : cp_ok S A n p = true → ∀ tms', (∀ i, i < n → tms' i = cq_I (cp_tm S p i)) → post (nI (cp_cs P p n)) (nI n, fr, tq, sl, fa, pr, tms', lt, chp))
    (hN : ¬ cp_ok S A n p = true → ∀ tms', post (-1) (nI n, fr, tq, sl, fa, pr, tms', lt, chp)) : wpY_plan post (nI n, fr, tq, sl, fa, pr, tms, lt, chp) (nI p) := by
  have lp : ∀ d j tms, j + d = n → (∀ i, i < j → cp_sv p i + A i ≤ S i) → (∀ i, i < j → tms i = cq_I (cp_tm S p i)) → wY_plan_4 post (nI p) (nI n) (d + 1) (nI (cp_cs P p j)) (nI j) fr tq sl fa pr tms lt chp := by
    intro d
    induction d with
    | zero =>
      intro j tms hj hI hA
      have hj' : j = n := by omega
      exact br_t (nI_le (by omega) (by omega)) (by
        rw [hj']
        exact hy (cp_okI.mpr (fun i hi => hI i (by omega))) tms (fun i hi => hA i (by omega)))
    | succ d ih =>
      intro j tms hj hI hA
      have cj : (nI j).toNatClampNeg = j := nI_clamp (by omega)
      have vj : vp_in (nI j) 7 := vp_in_nI (by omega) (by decide)
      obtain ⟨e1, e2, e3, e4, e5⟩ := E j (by omega)
      obtain ⟨h1, h2, h3, h4, h5, h6, h7⟩ := H j (by omega)
      have s3 := cp_sv3 p j
      have td : cp_tm S p j = (S j : Int) - (cp_sv p j : Int) := rfl
      refine br_f (nI_ge (by omega) (by omega)) (nm_r (cq_sv (by omega) (by omega)) ?_)
      rw [cj, e3, e4, e5]
      refine ⟨vj, vj, nm_r (e' := upd tms j (cq_I (cp_tm S p j))) (by rw [cq_n, cq_n, cq_sub]; rfl) ⟨vj, vj, ?_⟩⟩
      rw [pk_us]
      refine cq_bLE (A j : Int) (cp_tm S p j) (cq_n _) rfl (by omega) (by omega) (by omega) (by omega) (fun k => ?_) (fun k => ?_)
      · refine ⟨vj, nm_r (e' := nI (cp_cs P p (j + 1))) (by rw [pk_mul]; exact nI_add _ _) (nm_r (nI_1 j) (ih (j + 1) _ (by omega) (fun i hi => ?_) (fun i hi => ?_)))⟩
        · by_cases z : i = j
          · subst z
            omega
          · exact hI i (by omega)
        · by_cases z : i = j
          · subst z
            exact pk_us
          · rw [pk_un z]
            exact hA i (by omega)
      · refine hN (fun z => ?_) _
        have k2 := cp_okI.mp z j (by omega)
        omega
  show ∃ n4 : Nat, wY_plan_4 post (nI p) (nI n) n4 0 0 fr tq sl fa pr tms lt chp
  exact ⟨n + 1, lp n 0 tms (by omega) (fun i hi => absurd hi (Nat.not_lt_zero i)) (fun i hi => absurd hi (Nat.not_lt_zero i))⟩
theorem cy_55 {post : SY → Prop} {J : Int32 → Int32 → (Nat → Int32) → (Nat → Int32) → (Nat → Int32) → (Nat → Int32) → (Nat → Int32) → (Nat → Int32) → (Nat → Int32) → (Nat → Int32) → Prop} {x1 x2 hd : Int32} {tms lt chp : Nat → Int32} {G : Nat → Int} {t c : Nat}
    (ht : t < 64) (hA : cp_A 64 chp G) (hG : -1 ≤ G t ∧ G t ≤ 420) (hc : c ≤ 420)
    (h : ∀ chp', cp_A 64 chp' (cp_lw G t (c : Int)) → ∀ x, x = x2 + 1 → J x hd fr tq sl fa pr tms lt chp') : wY_curve_55 post J x1 x2 (nI c) (nI t) hd fr tq sl fa pr tms lt chp := by
  have ct : (nI t).toNatClampNeg = t := nI_clamp (by omega)
  have vt : vp_in (nI t) 64 := vp_in_nI ht (by decide)
  unfold wY_curve_55
  rw [ct]
  refine br_f (nI_pos (by omega)) ⟨vt, ?_⟩
  exact cq_bLT (G t) 0 (hA t ht) cq_0 (by omega) (by omega) (by omega) (by omega)
    (fun k => ⟨vt, nm_r (congrArg (upd chp t) (cq_n c)) (h _ (cp_A_lw_y hA (Or.inl k)))⟩)
    (fun k => ⟨vt, cq_bLE (G t) (c : Int) (hA t ht) (cq_n c) (by omega) (by omega) (by omega) (by omega)
      (fun k2 => h _ (cp_A_lw_n hA (by omega)))
      (fun k2 => ⟨vt, nm_r (congrArg (upd chp t) (cq_n c)) (h _ (cp_A_lw_y hA (Or.inr k2)))⟩)⟩)
theorem cy_32 {post : SY → Prop} (hn : n ≤ 7) (E : cp_E n fr tq sl fa pr F T S A P) (H : cp_H n F T S A P)
    (hpost : ∀ tms' lt' chp', cp_A 64 chp' (cp_GG F T S A P n) → post (nI n, fr, tq, sl, fa, pr, tms', lt', chp')) :
    ∀ d p tms lt chp, p + d = 2 ^ (2 * n) → cp_A 64 chp (cp_G (cp_ok S A n) (cp_ln F T S n) (fun p => cp_cs P p n) p) → wY_curve_32 post (nI (2 ^ (2 * n))) (d + 1) (nI p) (nI n) fr tq sl fa pr tms lt chp := by
  have hN := cp_N n (by omega)
  intro d
  induction d with
  | zero =>
    intro p tms lt chp hp hA
    have hp' : p = 2 ^ (2 * n) := by omega
    rw [hp'] at hA
    exact br_t (nI_le (by omega) (by omega)) (hpost tms lt chp hA)
  | succ d ih =>
    intro p tms lt chp hp hA
    have hG := cp_Gr hn H p
    have c4 := cp_cs420 hn H p
    refine br_f (nI_ge (by omega) (by omega)) (cy_plan hn E H (by omega) (fun k tms' ht => ?_) (fun k tms' => ?_))
    · have l := cp_ln45 H k
      refine br_t (nI_pos' (by omega)) (cy_length (cp_tm S p) hn E H ht (cp_tmb H k) (fun lt' => ?_))
      exact cy_55 (t := cp_ln F T S n p) (by omega) hA (hG _) c4 (fun chp' h => nm_r (nI_1 p) (ih (p + 1) tms' lt' chp' (by omega) (by rw [cp_G_t k]; exact h)))
    · exact br_f (by decide) (br_t (by decide) (nm_r (nI_1 p) (ih (p + 1) tms' lt chp (by omega) (by rw [cp_G_f k]; exact hA))))
theorem cy_curve {post : SY → Prop} {tms lt chp : Nat → Int32} (hn : n ≤ 7) (E : cp_E n fr tq sl fa pr F T S A P) (H : cp_H n F T S A P)
    (hpost : ∀ tms' lt' chp', cp_A 64 chp' (cp_GG F T S A P n) → post (nI n, fr, tq, sl, fa, pr, tms', lt', chp')) : wpY_curve post (nI n, fr, tq, sl, fa, pr, tms, lt, chp) := by
  have lp : ∀ d t chp, t + d = 64 → (∀ x, x < t → chp x = -1) → wY_curve_2 post (nI n) (d + 1) (nI t) fr tq sl fa pr tms lt chp := by
    intro d
    induction d with
    | zero =>
      intro t chp ht hA
      obtain rfl : t = 64 := by omega
      refine br_t (nI_le (a := 64) (by omega) (by omega)) (nm_r (cq_shl n (by omega)) ⟨2 ^ (2 * n) + 1, cy_32 hn E H hpost (2 ^ (2 * n)) 0 tms lt chp (by omega) (fun x hx => ?_)⟩)
      rw [hA x hx]
      exact cq_m1
    | succ d ih =>
      intro t chp ht hA
      have ct : (nI t).toNatClampNeg = t := nI_clamp (by omega)
      refine br_f (nI_ge (b := 64) (by omega) (by omega)) ⟨vp_in_nI (by omega) (by decide), ?_⟩
      rw [ct]
      refine nm_e (nm_r (nI_1 t) (ih (t + 1) _ (by omega) (fun x hx => ?_)))
      by_cases c : x = t
      · subst c
        exact pk_us
      · rw [pk_un c]
        exact hA x (by omega)
  show ∃ n2 : Nat, wY_curve_2 post (nI n) n2 0 fr tq sl fa pr tms lt chp
  exact ⟨65, lp 64 0 chp rfl (fun x hx => absurd hx (Nat.not_lt_zero x))⟩
/-- costAt at a deadline below 0 -/
theorem cy_costN {post : Int32 → Prop} {hd x : Int32} {tms lt chp : Nat → Int32} (hx : x < 0) (h : post (-1)) : wpY_costAt post (hd, fr, tq, sl, fa, pr, tms, lt, chp) x := by
  show ∃ n4 : Nat, wY_costAt_4 post x hd fr tq sl fa pr tms lt chp n4 (-1) 0
  exact ⟨1, br_f (by decide) (br_t hx h)⟩
theorem cy_costAt {post : Int32 → Prop} {hd : Int32} {tms lt chp : Nat → Int32} {dl : Nat} (hn : n ≤ 7) (H : cp_H n F T S A P) (hdl : dl < 2147483648) (hA : cp_A 64 chp (cp_GG F T S A P n))
    (h : post (cq_I (cp_CV F T S A P n dl))) : wpY_costAt post (hd, fr, tq, sl, fa, pr, tms, lt, chp) (nI dl) := by
  have hG := cp_GGr hn H
  have lp : ∀ d t, t + d = 64 → t ≤ dl + 1 → wY_costAt_4 post (nI dl) hd fr tq sl fa pr tms lt chp (d + 1) (cq_I (cp_B (cp_GG F T S A P n) t)) (nI t) := by
    intro d
    induction d with
    | zero =>
      intro t ht hl
      obtain rfl : t = 64 := by omega
      refine br_t (nI_le (a := 64) (by omega) (by omega)) ?_
      have e1 : cp_B (cp_GG F T S A P n) 64 = 0 := cp_CV45 H (t := 63) (by omega)
      have e2 := cp_CV45 H (t := dl) (by omega)
      rw [e1, ← e2]
      exact h
    | succ d ih =>
      intro t ht hl
      have ct : (nI t).toNatClampNeg = t := nI_clamp (by omega)
      have vt : vp_in (nI t) 64 := vp_in_nI (by omega) (by decide)
      have B := cp_B_r hG t
      have g := hG t
      have nx : ∀ b, cp_mn (cp_B (cp_GG F T S A P n) t) (cp_GG F T S A P n t) = b → t ≤ dl → ∀ x, x = nI t + 1 → wY_costAt_4 post (nI dl) hd fr tq sl fa pr tms lt chp (d + 1) (cq_I b) x := fun b hb hl2 => nm_r (nI_1 t) (by
        have z := ih (t + 1) (by omega) (by omega)
        have z2 : cp_B (cp_GG F T S A P n) (t + 1) = b := hb
        rw [z2] at z
        exact z)
      refine br_f (nI_ge (b := 64) (by omega) (by omega)) ?_
      by_cases c : dl < t
      · refine br_t (nI_lt c (by omega)) ?_
        have e : t = dl + 1 := by omega
        rw [e]
        exact h
      · refine br_f (nI_nlt (by omega) (by omega)) ⟨vt, ?_⟩
        rw [ct]
        refine cq_bLT (cp_GG F T S A P n t) 0 (hA t (by omega)) cq_0 (by omega) (by omega) (by omega) (by omega) (fun k => nx _ (cp_mn_n (by omega)) (by omega)) (fun k => ?_)
        refine cq_bLT (cp_B (cp_GG F T S A P n) t) 0 rfl cq_0 (by omega) (by omega) (by omega) (by omega) (fun k2 => ⟨vt, nm_r (hA t (by omega)) (nx _ (cp_mn_y (by omega)) (by omega))⟩) (fun k2 => ⟨vt, ?_⟩)
        exact cq_bLE (cp_B (cp_GG F T S A P n) t) (cp_GG F T S A P n t) rfl (hA t (by omega)) (by omega) (by omega) (by omega) (by omega) (fun k3 => nx _ (cp_mn_n (by omega)) (by omega)) (fun k3 => ⟨vt, nm_r (hA t (by omega)) (nx _ (cp_mn_y (by omega)) (by omega))⟩)
  show ∃ n4 : Nat, wY_costAt_4 post (nI dl) hd fr tq sl fa pr tms lt chp n4 (-1) 0
  have z := lp 64 0 rfl (by omega)
  have z2 : cp_B (cp_GG F T S A P n) 0 = -1 := rfl
  rw [z2, ← cq_m1] at z
  exact ⟨65, z⟩
end
