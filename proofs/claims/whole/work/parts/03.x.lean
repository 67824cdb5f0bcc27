/-! part 03: the component's own methods against the pictures -/
section
variable {n : Nat} {fr tq sl fa pr : Nat → Int32} {F T S A P : Nat → Nat}
theorem cx_sv {post : Int32 → Prop} {p j : Nat} (hp : p < 2147483648) (hj : j < 8) (h : post (nI (cp_sv p j))) : wpX_savedBy post (nI p) (nI j) := by
  unfold wpX_savedBy
  rw [cq_sv (by omega) hj]
  exact h
theorem cx_fj {post : SX → Prop} {p e : Nat} {cs : Int32} {cur : Nat → Int32} {L : Nat → Int} (hn : n ≤ 7) (E : cp_E n fr tq sl fa pr F T S A P) (H : cp_H n F T S A P) (hp : p < 16384) (ok : cp_ok S A n p = true) (he : e < 5) (h0 : 0 ≤ L e) (hK : cp_K L)
    (hpost : ∀ rch', cp_A 6 rch' (cp_in F T (cp_tm S p) e n L) → post (nI n, cs, fr, tq, sl, fa, pr, rch', cur)) :
    ∀ d j rch, j + d = n → cp_A 6 rch (cp_in F T (cp_tm S p) e j L) → wX_followJobs_2 post (nI p) (nI e) (nI n) cs (d + 1) (nI j) fr tq sl fa pr rch cur := by
  intro d
  induction d with
  | zero =>
    intro j rch hj hA
    have hj' : j = n := by omega
    rw [hj'] at hA
    exact br_t (nI_le (by omega) (by omega)) (hpost rch hA)
  | succ d ih =>
    intro j rch hj hA
    have hj1 : j < n := by omega
    have cj : (nI j).toNatClampNeg = j := nI_clamp (by omega)
    have ce : (nI e).toNatClampNeg = e := nI_clamp (by omega)
    obtain ⟨e1, e2, e3, e4, e5⟩ := E j hj1
    obtain ⟨h1, h2, h3, h4, h5, h6, h7⟩ := H j hj1
    have ct : (nI (T j)).toNatClampNeg = T j := nI_clamp (by omega)
    have tb := cp_tmb H ok j hj1
    have K := cp_K_in (e := e) j L (fun i hi => cp_tmb H ok i (by omega)) hK
    have p0 := cp_in_pos (F := F) (T := T) (tm := cp_tm S p) h0 j
    have Ke := K e
    have Kt := K (T j)
    have st : ∀ rch', cp_A 6 rch' (cp_st F T (cp_tm S p) e j (cp_in F T (cp_tm S p) e j L)) → ∀ x, x = nI j + 1 → wX_followJobs_2 post (nI p) (nI e) (nI n) cs (d + 1) x fr tq sl fa pr rch' cur :=
      fun rch' h => nm_r (nI_1 j) (ih (j + 1) rch' (by omega) h)
    have ar : rch e + nI (S j) - nI (cp_sv p j) = cq_I (cp_in F T (cp_tm S p) e j L e + cp_tm S p j) := by
      rw [hA e (by omega), cq_n (S j), cq_n (cp_sv p j), cq_add, cq_sub]
      congr 1
      unfold cp_tm
      omega
    refine br_f (nI_ge (by omega) (by omega)) ⟨vp_in_nI (by omega) (by decide), ?_⟩
    rw [cj, ce, e1, e2, e3, ct]
    by_cases c : F j = e
    · refine br_t (by rw [c]) ⟨vp_in_nI (by omega) (by decide), vp_in_nI (by omega) (by decide), cx_sv (by omega) (by omega) ?_⟩
      refine nm_r ar ⟨vp_in_nI (by omega) (by decide), vp_in_nI (by omega) (by decide), ?_⟩
      exact cq_bLE (cp_in F T (cp_tm S p) e j L e + cp_tm S p j) (cp_in F T (cp_tm S p) e j L (T j)) rfl (hA (T j) (by omega)) (by omega) (by omega) (by omega) (by omega)
        (fun k => st rch (cp_A_st_n hA (by omega)))
        (fun k => ⟨vp_in_nI (by omega) (by decide), vp_in_nI (by omega) (by decide), nm_e (st _ (cp_A_st_y hA c p0 k))⟩)
    · exact br_f (fun z => c ((nI_eq (by omega) (by omega)).mp z)) (st rch (cp_A_st_n hA (fun z => c z.1)))
theorem cx_followJobs {post : SX → Prop} {p e : Nat} {cs : Int32} {rch cur : Nat → Int32} {L : Nat → Int} (hn : n ≤ 7) (E : cp_E n fr tq sl fa pr F T S A P) (H : cp_H n F T S A P) (hp : p < 16384) (ok : cp_ok S A n p = true) (he : e < 5) (h0 : 0 ≤ L e) (hK : cp_K L) (hA : cp_A 6 rch L)
    (hpost : ∀ rch', cp_A 6 rch' (cp_in F T (cp_tm S p) e n L) → post (nI n, cs, fr, tq, sl, fa, pr, rch', cur)) : wpX_followJobs post (nI n, cs, fr, tq, sl, fa, pr, rch, cur) (nI p) (nI e) := by
  show ∃ n2 : Nat, wX_followJobs_2 post (nI p) (nI e) (nI n) cs n2 0 fr tq sl fa pr rch cur
  exact ⟨n + 1, cx_fj hn E H hp ok he h0 hK hpost n 0 rch (by omega) hA⟩
theorem cx_pl30 {post : Int32 → SX → Prop} {p : Nat} {cs : Int32} {cur : Nat → Int32} (hn : n ≤ 7) (E : cp_E n fr tq sl fa pr F T S A P) (H : cp_H n F T S A P) (hp : p < 16384) (ok : cp_ok S A n p = true)
    (hpost : ∀ rch', post (nI (cp_ln F T S n p)) (nI n, cs, fr, tq, sl, fa, pr, rch', cur)) :
    ∀ d e rch, e + d = 5 → cp_A 6 rch (cp_out F T (cp_tm S p) n e) → wX_planLength_30 post (nI p) (d + 1) (nI e) (nI n) cs fr tq sl fa pr rch cur := by
  intro d
  induction d with
  | zero =>
    intro e rch he hA
    obtain rfl : e = 5 := by omega
    have K := cp_K_out (cp_tmb H ok) 5 5
    have h := hpost rch
    refine br_t (nI_le (a := 5) (by omega) (by omega)) ?_
    refine cq_bEQ (cp_out F T (cp_tm S p) n 5 5) (-1) (hA 5 (by omega)) cq_m1 (by omega) (by omega) (by omega) (by omega) (fun k => ?_) (fun k => ?_)
    · have z : cp_ln F T S n p = 0 := by
        unfold cp_ln
        omega
      rw [z] at h
      exact h
    · have z : rch 5 = nI (cp_ln F T S n p) := by
        rw [hA 5 (by omega), cq_n]
        congr 1
        unfold cp_ln
        omega
      rw [z]
      exact h
  | succ d ih =>
    intro e rch he hA
    have ce : (nI e).toNatClampNeg = e := nI_clamp (by omega)
    have K := cp_K_out (cp_tmb H ok) e
    have Ke := K e
    refine br_f (nI_ge (b := 5) (by omega) (by omega)) ⟨vp_in_nI (by omega) (by decide), ?_⟩
    rw [ce]
    refine cq_bEQ (cp_out F T (cp_tm S p) n e e) (-1) (hA e (by omega)) cq_m1 (by omega) (by omega) (by omega) (by omega) (fun k => ?_) (fun k => ?_)
    · have z : cp_out F T (cp_tm S p) n (e + 1) = cp_out F T (cp_tm S p) n e := cp_in_skip (by omega) n
      exact nm_r (nI_1 e) (ih (e + 1) rch (by omega) (by rw [z]; exact hA))
    · exact cx_followJobs hn E H hp ok (by omega) (by omega) K hA (fun rch' h => nm_r (nI_1 e) (ih (e + 1) rch' (by omega) h))
theorem cx_pl2 {post : Int32 → SX → Prop} {p : Nat} {cs : Int32} {cur : Nat → Int32} (hn : n ≤ 7) (E : cp_E n fr tq sl fa pr F T S A P) (H : cp_H n F T S A P) (hp : p < 16384) (ok : cp_ok S A n p = true)
    (hpost : ∀ rch', post (nI (cp_ln F T S n p)) (nI n, cs, fr, tq, sl, fa, pr, rch', cur)) :
    ∀ d e rch, e + d = 6 → (∀ x, x < e → rch x = -1) → wX_planLength_2 post (nI p) (nI n) cs (d + 1) (nI e) fr tq sl fa pr rch cur := by
  intro d
  induction d with
  | zero =>
    intro e rch he hA
    obtain rfl : e = 6 := by omega
    exact br_t (nI_le (a := 6) (by omega) (by omega)) (nm_e ⟨6, cx_pl30 hn E H hp ok hpost 5 0 (upd rch 0 0) rfl (cp_A_0 hA)⟩)
  | succ d ih =>
    intro e rch he hA
    have ce : (nI e).toNatClampNeg = e := nI_clamp (by omega)
    refine br_f (nI_ge (b := 6) (by omega) (by omega)) ⟨vp_in_nI (by omega) (by decide), ?_⟩
    rw [ce]
    refine nm_e (nm_r (nI_1 e) (ih (e + 1) _ (by omega) (fun x hx => ?_)))
    by_cases c : x = e
    · subst c
      exact pk_us
    · rw [pk_un c]
      exact hA x (by omega)
theorem cx_planLength {post : Int32 → SX → Prop} {p : Nat} {cs : Int32} {rch cur : Nat → Int32} (hn : n ≤ 7) (E : cp_E n fr tq sl fa pr F T S A P) (H : cp_H n F T S A P) (hp : p < 16384) (ok : cp_ok S A n p = true)
    (hpost : ∀ rch', post (nI (cp_ln F T S n p)) (nI n, cs, fr, tq, sl, fa, pr, rch', cur)) : wpX_planLength post (nI n, cs, fr, tq, sl, fa, pr, rch, cur) (nI p) := by
  show ∃ n2 : Nat, wX_planLength_2 post (nI p) (nI n) cs n2 0 fr tq sl fa pr rch cur
  exact ⟨7, cx_pl2 hn E H hp ok hpost 6 0 rch rfl (fun x hx => absurd hx (Nat.not_lt_zero x))⟩
theorem cx_isPlan {post : Int32 → Prop} {p : Nat} {cs : Int32} {rch cur : Nat → Int32} (hn : n ≤ 7) (E : cp_E n fr tq sl fa pr F T S A P) (H : cp_H n F T S A P) (hp : p < 16384)
    (hy : cp_ok S A n p = true → post 1) (hN : ¬ cp_ok S A n p = true → post 0) : wpX_isPlan post (nI n, cs, fr, tq, sl, fa, pr, rch, cur) (nI p) := by
  have lp : ∀ d j, j + d = n → (∀ i, i < j → cp_sv p i + A i ≤ S i) → wX_isPlan_2 post (nI p) (nI n) cs fr tq sl fa pr rch cur (d + 1) (nI j) := by
    intro d
    induction d with
    | zero =>
      intro j hj hI
      exact br_t (nI_le (by omega) (by omega)) (hy (cp_okI.mpr (fun i hi => hI i (by omega))))
    | succ d ih =>
      intro j hj hI
      have cj : (nI j).toNatClampNeg = j := nI_clamp (by omega)
      obtain ⟨e1, e2, e3, e4, e5⟩ := E j (by omega)
      obtain ⟨h1, h2, h3, h4, h5, h6, h7⟩ := H j (by omega)
      have s3 := cp_sv3 p j
      refine br_f (nI_ge (by omega) (by omega)) (cx_sv (by omega) (by omega) ⟨vp_in_nI (by omega) (by decide), vp_in_nI (by omega) (by decide), ?_⟩)
      rw [cj, e3, e4, pk_sub h3]
      by_cases c : cp_sv p j ≤ S j - A j
      · refine br_t (nI_le c (by omega)) (nm_r (nI_1 j) (ih (j + 1) (by omega) (fun i hi => ?_)))
        by_cases z : i = j
        · subst z
          omega
        · exact hI i (by omega)
      · refine br_f (nI_ge (by omega) (by omega)) (hN (fun z => ?_))
        have k := cp_okI.mp z j (by omega)
        omega
  show ∃ n2 : Nat, wX_isPlan_2 post (nI p) (nI n) cs fr tq sl fa pr rch cur n2 0
  exact ⟨n + 1, lp n 0 (by omega) (fun i hi => absurd hi (Nat.not_lt_zero i))⟩
theorem cx_planCost {post : Int32 → Prop} {p : Nat} {cs : Int32} {rch cur : Nat → Int32} (hn : n ≤ 7) (E : cp_E n fr tq sl fa pr F T S A P) (hp : p < 16384)
    (h : post (nI (cp_cs P p n))) : wpX_planCost post (nI n, cs, fr, tq, sl, fa, pr, rch, cur) (nI p) := by
  have lp : ∀ d j, j + d = n → wX_planCost_4 post (nI p) (nI n) cs fr tq sl fa pr rch cur (d + 1) (nI (cp_cs P p j)) (nI j) := by
    intro d
    induction d with
    | zero =>
      intro j hj
      have hj' : j = n := by omega
      exact br_t (nI_le (by omega) (by omega)) (by rw [hj']; exact h)
    | succ d ih =>
      intro j hj
      have cj : (nI j).toNatClampNeg = j := nI_clamp (by omega)
      obtain ⟨e1, e2, e3, e4, e5⟩ := E j (by omega)
      refine br_f (nI_ge (by omega) (by omega)) ⟨vp_in_nI (by omega) (by decide), cx_sv (by omega) (by omega) ?_⟩
      exact nm_r (e' := nI (cp_cs P p (j + 1))) (by rw [cj, e5, pk_mul]; exact nI_add _ _) (nm_r (nI_1 j) (ih (j + 1) (by omega)))
  show ∃ n4 : Nat, wX_planCost_4 post (nI p) (nI n) cs fr tq sl fa pr rch cur n4 0 0
  exact ⟨n + 1, lp n 0 (by omega)⟩
end
theorem cx_lower {post : SX → Prop} {jb cs y : Int32} {fr tq sl fa pr rch cur : Nat → Int32} {G : Nat → Int} {t : Nat} {c : Int} (ht : t < 46) (hA : cp_A 46 cur G) (hG : -1 ≤ G t ∧ G t ≤ 420) (hc : 0 ≤ c ∧ c ≤ 420) (hy : y = cq_I c)
    (h : ∀ cur', cp_A 46 cur' (cp_lw G t c) → post (jb, cs, fr, tq, sl, fa, pr, rch, cur')) : wpX_lowerCurve post (jb, cs, fr, tq, sl, fa, pr, rch, cur) (nI t) y := by
  subst hy
  have ct : (nI t).toNatClampNeg = t := nI_clamp (by omega)
  have vi : vp_in (nI t) 46 := vp_in_nI ht (by decide)
  unfold wpX_lowerCurve
  dsimp only
  rw [ct]
  exact ⟨vi, cq_bEQ (G t) (-1) (hA t ht) cq_m1 (by omega) (by omega) (by omega) (by omega)
    (fun k => ⟨vi, nm_e (h _ (cp_A_lw_y hA (Or.inl (by omega))))⟩)
    (fun k => ⟨vi, cq_bLE (G t) c (hA t ht) rfl (by omega) (by omega) (by omega) (by omega)
      (fun k2 => h _ (cp_A_lw_n hA (by omega)))
      (fun k2 => ⟨vi, nm_e (h _ (cp_A_lw_y hA (Or.inr k2)))⟩)⟩)⟩
theorem cx_spread {post : SX → Prop} {jb cs : Int32} {fr tq sl fa pr rch cur : Nat → Int32} {G : Nat → Int} (hG : ∀ t, -1 ≤ G t ∧ G t ≤ 420) (hA : cp_A 46 cur G)
    (h : ∀ cur', (∀ t, t < 46 → cur' t = cq_I (cp_B G (t + 1))) → post (jb, cs, fr, tq, sl, fa, pr, rch, cur')) : wpX_spreadCurve post (jb, cs, fr, tq, sl, fa, pr, rch, cur) := by
  have lo : ∀ t, -1 ≤ G t := fun t => (hG t).1
  have lp : ∀ d t cur, t + d = 46 → 1 ≤ t → cp_A 46 cur (cp_sp G t) → wX_spreadCurve_2 post (d + 1) (nI t) jb cs fr tq sl fa pr rch cur := by
    intro d
    induction d with
    | zero =>
      intro t cur ht h1 hA
      obtain rfl : t = 46 := by omega
      refine br_t (nI_le (a := 46) (by omega) (by omega)) (h cur (fun x hx => ?_))
      rw [hA x hx]
      unfold cp_sp
      rw [if_pos hx]
    | succ d ih =>
      intro t cur ht h1 hA
      have em : nI t - 1 = nI (t - 1) := pk_sub (b := 1) h1
      have cm : (nI (t - 1)).toNatClampNeg = t - 1 := nI_clamp (by omega)
      have B := cp_B_r hG t
      have hb : cur (t - 1) = cq_I (cp_B G t) := by
        rw [hA (t - 1) (by omega)]
        unfold cp_sp
        rw [if_pos (by omega), Nat.sub_add_cancel h1]
      have hs : cp_sp G t t = G t := by
        unfold cp_sp
        exact if_neg (by omega)
      refine br_f (nI_ge (b := 46) (by omega) (by omega)) ?_
      rw [em, cm]
      refine ⟨vp_in_nI (by omega) (by decide), nm_r hb ?_⟩
      exact cq_bEQ (cp_B G t) (-1) rfl cq_m1 (by omega) (by omega) (by omega) (by omega)
        (fun k => nm_r (nI_1 t) (ih (t + 1) cur (by omega) (by omega) (cp_A_c hA (cp_sp_n lo k))))
        (fun k => cx_lower (G := cp_sp G t) (c := cp_B G t) (by omega) hA (by rw [hs]; exact hG t) (by omega) rfl
          (fun cur' h2 => nm_r (nI_1 t) (ih (t + 1) cur' (by omega) (by omega) (cp_A_c h2 (cp_sp_y lo (by omega))))))
  show ∃ n2 : Nat, wX_spreadCurve_2 post n2 1 jb cs fr tq sl fa pr rch cur
  exact ⟨46, lp 45 1 cur (by omega) (by omega) (cp_A_c hA (cp_sp_0 lo))⟩
section
variable {n : Nat} {fr tq sl fa pr : Nat → Int32} {F T S A P : Nat → Nat}
theorem cx_dc40 {post : SX → Prop} {cs : Int32} (hn : n ≤ 7) (E : cp_E n fr tq sl fa pr F T S A P) (H : cp_H n F T S A P)
    (hpost : ∀ rch' cur', (∀ t, t < 46 → cur' t = cq_I (cp_CV F T S A P n t)) → post (nI n, 1, fr, tq, sl, fa, pr, rch', cur')) :
    ∀ d p rch cur, p + d = 2 ^ (2 * n) → cp_A 46 cur (cp_G (cp_ok S A n) (cp_ln F T S n) (fun p => cp_cs P p n) p) → wX_drawCurve_40 post (nI (2 ^ (2 * n))) (d + 1) (nI p) (nI n) cs fr tq sl fa pr rch cur := by
  have hN := cp_N n (by omega)
  intro d
  induction d with
  | zero =>
    intro p rch cur hp hA
    have hp' : p = 2 ^ (2 * n) := by omega
    rw [hp'] at hA
    exact br_t (nI_le (by omega) (by omega)) (cx_spread (G := cp_GG F T S A P n) (cp_GGr hn H) hA (fun cur' h => hpost rch cur' h))
  | succ d ih =>
    intro p rch cur hp hA
    have hG := cp_Gr hn H p
    refine br_f (nI_ge (by omega) (by omega)) (cx_isPlan hn E H (by omega) (fun k => ?_) (fun k => ?_))
    · refine br_f (by decide) (cx_planLength hn E H (by omega) k (fun rch' => cx_planCost hn E (by omega) ?_))
      have l := cp_ln45 H k
      have c := cp_cs420 hn H p
      exact cx_lower (c := (cp_cs P p n : Int)) (by omega) hA (hG _) (by omega) (cq_n _) (fun cur' h => nm_r (nI_1 p) (ih (p + 1) rch' cur' (by omega) (by rw [cp_G_t k]; exact h)))
    · exact br_t rfl (nm_r (nI_1 p) (ih (p + 1) rch cur (by omega) (by rw [cp_G_f k]; exact hA)))
theorem cx_dc10 {post : SX → Prop} {cs : Int32} {rch : Nat → Int32} (hn : n ≤ 7) (E : cp_E n fr tq sl fa pr F T S A P) (H : cp_H n F T S A P)
    (hpost : ∀ rch' cur', (∀ t, t < 46 → cur' t = cq_I (cp_CV F T S A P n t)) → post (nI n, 1, fr, tq, sl, fa, pr, rch', cur')) :
    ∀ d t cur, t + d = 46 → (∀ x, x < t → cur x = -1) → wX_drawCurve_10 post (nI n) cs (d + 1) (nI t) fr tq sl fa pr rch cur := by
  intro d
  induction d with
  | zero =>
    intro t cur ht hA
    obtain rfl : t = 46 := by omega
    refine br_t (nI_le (a := 46) (by omega) (by omega)) (nm_r (cq_shl n (by omega)) ⟨2 ^ (2 * n) + 1, cx_dc40 hn E H hpost (2 ^ (2 * n)) 0 rch cur (by omega) (fun x hx => ?_)⟩)
    rw [hA x hx]
    exact cq_m1
  | succ d ih =>
    intro t cur ht hA
    have ct : (nI t).toNatClampNeg = t := nI_clamp (by omega)
    refine br_f (nI_ge (b := 46) (by omega) (by omega)) ⟨vp_in_nI (by omega) (by decide), ?_⟩
    rw [ct]
    refine nm_e (nm_r (nI_1 t) (ih (t + 1) _ (by omega) (fun x hx => ?_)))
    by_cases c : x = t
    · subst c
      exact pk_us
    · rw [pk_un c]
      exact hA x (by omega)
theorem cx_draw {post : SX → Prop} {cs : Int32} {rch cur : Nat → Int32} (hn : n ≤ 7) (E : cp_E n fr tq sl fa pr F T S A P) (H : cp_H n F T S A P)
    (I : cs = 0 ∨ cs = 1 ∧ ∀ t, t < 46 → cur t = cq_I (cp_CV F T S A P n t))
    (hpost : ∀ rch' cur', (∀ t, t < 46 → cur' t = cq_I (cp_CV F T S A P n t)) → post (nI n, 1, fr, tq, sl, fa, pr, rch', cur')) : wpX_drawCurve post (nI n, cs, fr, tq, sl, fa, pr, rch, cur) := by
  show (cs = 0 → ∃ n10 : Nat, wX_drawCurve_10 post (nI n) cs n10 0 fr tq sl fa pr rch cur) ∧ (¬ cs = 0 → post (nI n, cs, fr, tq, sl, fa, pr, rch, cur))
  rcases I with rfl | ⟨rfl, hc⟩
  · exact br_t rfl ⟨47, cx_dc10 hn E H hpost 46 0 cur rfl (fun x hx => absurd hx (Nat.not_lt_zero x))⟩
  · exact br_f (by decide) (hpost rch cur hc)
theorem cx_first {post : Int32 → Prop} {jb cs : Int32} {fr' tq' sl' fa' pr' rch cur : Nat → Int32} (hn : n ≤ 7) (H : cp_H n F T S A P) (hc : ∀ t, t < 46 → cur t = cq_I (cp_CV F T S A P n t))
    (h : post (nI (cp_lf F T A n))) : wpX_firstDeadline post (jb, cs, fr', tq', sl', fa', pr', rch, cur) := by
  have l45 := cp_lf45 H
  have lp : ∀ d t, t + d = 45 → t ≤ cp_lf F T A n → wX_firstDeadline_2 post jb cs fr' tq' sl' fa' pr' rch cur (d + 1) (nI t) := by
    intro d
    induction d with
    | zero =>
      intro t ht hl
      have e : cp_lf F T A n = 45 := by omega
      rw [e] at h
      exact br_t (nI_le (a := 45) (by omega) (by omega)) h
    | succ d ih =>
      intro t ht hl
      have ct : (nI t).toNatClampNeg = t := nI_clamp (by omega)
      have r := cp_CVr hn H t
      have f := cp_CVf H t
      refine br_f (nI_ge (b := 45) (by omega) (by omega)) ⟨vp_in_nI (by omega) (by decide), ?_⟩
      rw [ct]
      refine cq_bEQ (cp_CV F T S A P n t) (-1) (hc t (by omega)) cq_m1 (by omega) (by omega) (by omega) (by omega) (fun k => nm_r (nI_1 t) (ih (t + 1) (by omega) (by omega))) (fun k => ?_)
      have e : cp_lf F T A n = t := by omega
      rw [e] at h
      exact h
  show ∃ n2 : Nat, wX_firstDeadline_2 post jb cs fr' tq' sl' fa' pr' rch cur n2 0
  exact ⟨46, lp 45 0 (by omega) (by omega)⟩
theorem cx_at {post : Int32 → Prop} {jb cs : Int32} {fr' tq' sl' fa' pr' rch cur : Nat → Int32} {d : Nat} (H : cp_H n F T S A P) (hd : d < 2147483648) (hc : ∀ t, t < 46 → cur t = cq_I (cp_CV F T S A P n t))
    (h : post (cq_I (cp_CV F T S A P n d))) : wpX_curveAt post (jb, cs, fr', tq', sl', fa', pr', rch, cur) (nI d) := by
  show ((45 : Int32) ≤ nI d → post (cur 45)) ∧ (¬ (45 : Int32) ≤ nI d → (vp_in (nI d) 46 ∧ post (cur (nI d).toNatClampNeg)))
  by_cases c : 45 ≤ d
  · refine br_t (nI_le (a := 45) c (by omega)) ?_
    rw [hc 45 (by omega), cp_CV45 H (t := 45) (by omega), ← cp_CV45 H (t := d) c]
    exact h
  · refine br_f (nI_ge (b := 45) (by omega) (by omega)) ⟨vp_in_nI (by omega) (by decide), ?_⟩
    rw [nI_clamp (by omega), hc d (by omega)]
    exact h
end
