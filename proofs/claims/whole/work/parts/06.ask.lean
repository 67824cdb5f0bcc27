/-! part 06: the calls that ask -/
theorem i_vc_slowest {k : Nat} {u : SX} {v : SY} (I : i_Rel k u v) (hk : k + 6 ≤ 3072) : wpX_slowest (fun r u' => wpY_slowest (fun r' v' => r' = r ∧ i_Rel (k + 6) u' v') v) u := by
  obtain ⟨n, cs, fr, tq, sl, fa, pr, rch, cur, tms, lt, chp, rfl, rfl, hn, J, st⟩ := I
  have E : cp_E n fr tq sl fa pr (cq_N fr) (cq_N tq) (cq_N sl) (cq_N fa) (cq_N pr) := cp_J_e J
  have H := cp_J_H J
  unfold wpX_slowest
  dsimp only
  exact cx_planLength (p := 0) hn E H (by omega) (cp_ok0 H) (fun rch' => cy_slowest hn E H (fun tms' lt' => ⟨rfl, ci_R hn J st⟩))
theorem i_vc_fastest {k : Nat} {u : SX} {v : SY} (I : i_Rel k u v) (hk : k + 6 ≤ 3072) : wpX_fastest (fun r u' => wpY_fastest (fun r' v' => r' = r ∧ i_Rel (k + 6) u' v') v) u := by
  obtain ⟨n, cs, fr, tq, sl, fa, pr, rch, cur, tms, lt, chp, rfl, rfl, hn, J, st⟩ := I
  have E : cp_E n fr tq sl fa pr (cq_N fr) (cq_N tq) (cq_N sl) (cq_N fa) (cq_N pr) := cp_J_e J
  have H := cp_J_H J
  unfold wpX_fastest
  dsimp only
  exact cx_draw hn E H st (fun rch' cur' hc => cx_first hn H hc (cy_fastest hn E H (fun tms' lt' => ⟨rfl, ci_R hn J (Or.inr ⟨rfl, hc⟩)⟩)))
theorem i_vc_cost {k : Nat} {u : SX} {v : SY} (I : i_Rel k u v) (hk : k + 6 ≤ 3072) (v1 : Int32) : wpX_cost (fun r u' => wpY_cost (fun r' v' => r' = r ∧ i_Rel (k + 6) u' v') v v1) u v1 := by
  obtain ⟨n, cs, fr, tq, sl, fa, pr, rch, cur, tms, lt, chp, rfl, rfl, hn, J, st⟩ := I
  have E : cp_E n fr tq sl fa pr (cq_N fr) (cq_N tq) (cq_N sl) (cq_N fa) (cq_N pr) := cp_J_e J
  have H := cp_J_H J
  unfold wpX_cost wpY_cost
  dsimp only
  by_cases h : v1 < 0
  · exact br_f (Int32.not_le.mpr h) (cy_curve hn E H (fun tms' lt' chp' hA => cy_costN h ⟨rfl, ci_R hn J st⟩))
  · obtain ⟨d, hd, rfl⟩ := nI_of h
    exact br_t (nI_pos' hd) (cx_draw hn E H st (fun rch' cur' hc => cx_at H (by omega) hc (cy_curve hn E H (fun tms' lt' chp' hA => cy_costAt hn H (by omega) hA ⟨rfl, ci_R hn J (Or.inr ⟨rfl, hc⟩)⟩))))
theorem i_vc_step {k : Nat} {u : SX} {v : SY} (I : i_Rel k u v) (hk : k + 6 ≤ 3072) (v1 : Int32) : wpX_step (fun r u' => wpY_step (fun r' v' => r' = r ∧ i_Rel (k + 6) u' v') v v1) u v1 := by
  obtain ⟨n, cs, fr, tq, sl, fa, pr, rch, cur, tms, lt, chp, rfl, rfl, hn, J, st⟩ := I
  have E : cp_E n fr tq sl fa pr (cq_N fr) (cq_N tq) (cq_N sl) (cq_N fa) (cq_N pr) := cp_J_e J
  have H := cp_J_H J
  unfold wpX_step wpY_step wY_step_20
  dsimp only
  by_cases h : v1 < 0
  · refine br_f (Int32.not_le.mpr h) (cy_curve hn E H (fun tms' lt' chp' hA => cy_costN h ?_))
    exact br_t (by decide) (br_f (by decide) ⟨rfl, ci_R hn J st⟩)
  · obtain ⟨d, hd, rfl⟩ := nI_of h
    have r := cp_CVr hn H d
    rw [nI_1 d]
    refine br_t (nI_pos' hd) (cx_draw hn E H st (fun rch' cur' hc => cx_at H (by omega) hc ?_))
    have R : ∀ tms' lt' chp', i_Rel (k + 6) (nI n, 1, fr, tq, sl, fa, pr, rch', cur') (nI n, fr, tq, sl, fa, pr, tms', lt', chp') := fun tms' lt' chp' => ci_R hn J (Or.inr ⟨rfl, hc⟩)
    refine cq_bEQ (cp_CV (cq_N fr) (cq_N tq) (cq_N sl) (cq_N fa) (cq_N pr) n d) (-1) rfl cq_m1 (by omega) (by omega) (by omega) (by omega) (fun e => ?_) (fun e => ?_)
    · refine cy_curve hn E H (fun tms' lt' chp' hA => cy_costAt hn H (by omega) hA ?_)
      rw [e]
      exact br_t (by decide) (br_f (by decide) ⟨rfl, R _ _ _⟩)
    · have nn : ¬ cq_I (cp_CV (cq_N fr) (cq_N tq) (cq_N sl) (cq_N fa) (cq_N pr) n d) < 0 := by
        rw [cq_0, cq_lt (by omega) (by omega) (by omega) (by omega)]
        omega
      have nn' : 0 ≤ cq_I (cp_CV (cq_N fr) (cq_N tq) (cq_N sl) (cq_N fa) (cq_N pr) n d) := Int32.not_lt.mp nn
      by_cases c : d < 45
      · refine br_t (nI_lt (b := 45) c (by omega)) (cx_at H (by omega) hc ?_)
        refine cy_curve hn E H (fun tms' lt' chp' hA => cy_costAt hn H (by omega) hA (br_f nn (br_f (fun z => ?_) (cy_costAt hn H (by omega) hA ⟨rfl, R _ _ _⟩))))
        have z2 : d = 2147483647 := (nI_eq (b := 2147483647) hd (by omega)).mp z
        omega
      · refine br_f (nI_nlt (b := 45) (by omega) (by omega)) ?_
        refine cy_curve hn E H (fun tms' lt' chp' hA => cy_costAt hn H (by omega) hA (br_f nn ?_))
        by_cases m : d = 2147483647
        · exact br_t (by rw [m]; rfl) (br_t nn' ⟨rfl, R _ _ _⟩)
        · refine br_f (fun z => m ((nI_eq (b := 2147483647) hd (by omega)).mp z)) (cy_costAt hn H (by omega) hA ⟨?_, R _ _ _⟩)
          rw [cp_CV45 H (t := d) (by omega), cp_CV45 H (t := d + 1) (by omega), cq_sub]
          exact cq_0.symm
section
variable {n : Nat} {F T S A P : Nat → Nat}
theorem cx_w15 {post : Int32 → SX → Prop} {b w : Nat} {jb cs : Int32} {fr tq sl fa pr rch cur : Nat → Int32} (hn : n ≤ 7) (H : cp_H n F T S A P) (hb : b < 2147483648) (hc : ∀ t, t < 46 → cur t = cq_I (cp_CV F T S A P n t))
    (hw : w ≤ 45) (hm : ∀ j, j < w → ¬ (0 ≤ cp_CV F T S A P n j ∧ cp_CV F T S A P n j ≤ (b : Int))) (hP : 0 ≤ cp_CV F T S A P n w ∧ cp_CV F T S A P n w ≤ (b : Int))
    (h : post (nI w) (jb, cs, fr, tq, sl, fa, pr, rch, cur)) :
    ∀ d t, t + d = 45 → cp_lf F T A n ≤ t → t ≤ w → wX_within_15 post (nI b) jb cs fr tq sl fa pr rch cur (d + 1) (nI t) := by
  intro d
  induction d with
  | zero =>
    intro t ht hl hle
    have e : w = 45 := by omega
    rw [e] at h
    exact br_t (nI_le (a := 45) (by omega) (by omega)) h
  | succ d ih =>
    intro t ht hl hle
    have r := cp_CVr hn H t
    have f := (cp_CVf H t).mpr hl
    refine br_f (nI_ge (b := 45) (by omega) (by omega)) (cx_at H (by omega) hc ?_)
    by_cases q : (b : Int) < cp_CV F T S A P n t
    · have hlt : t < 45 := by omega
      refine br_t (by rw [cq_n, cq_lt (by omega) (by omega) (by omega) (by omega)]; exact q) (nm_r (nI_1 t) (ih (t + 1) (by omega) (by omega) ?_))
      by_cases z : t = w
      · rw [z] at q
        omega
      · omega
    · refine br_f (by rw [cq_n, cq_lt (by omega) (by omega) (by omega) (by omega)]; exact q) ?_
      have e : t = w := by
        by_cases z : t < w
        · exact absurd ⟨f, by omega⟩ (hm t z)
        · omega
      rw [e]
      exact h
theorem cy_w6 {post : Int32 → SY → Prop} {b w : Nat} {hd : Int32} {fr tq sl fa pr tms lt chp : Nat → Int32} (hn : n ≤ 7) (H : cp_H n F T S A P) (hb : b < 2147483648) (hA : cp_A 64 chp (cp_GG F T S A P n))
    (hw : w ≤ 45) (hm : ∀ j, j < w → ¬ (0 ≤ cp_CV F T S A P n j ∧ cp_CV F T S A P n j ≤ (b : Int))) (hP : 0 ≤ cp_CV F T S A P n w ∧ cp_CV F T S A P n w ≤ (b : Int))
    (h : post (nI w) (hd, fr, tq, sl, fa, pr, tms, lt, chp)) :
    ∀ d t, t + d = 64 → t ≤ w → wY_within_6 post (nI b) hd fr tq sl fa pr tms lt chp (d + 1) (nI t) := by
  intro d
  induction d with
  | zero =>
    intro t ht hle
    omega
  | succ d ih =>
    intro t ht hle
    have r := cp_CVr hn H t
    have nx : ¬ (0 ≤ cp_CV F T S A P n t ∧ cp_CV F T S A P n t ≤ (b : Int)) → ∀ x, x = nI t + 1 → wY_within_6 post (nI b) hd fr tq sl fa pr tms lt chp (d + 1) x := fun q => nm_r (nI_1 t) (ih (t + 1) (by omega) (by
      have z : t ≠ w := fun e => q (e ▸ hP)
      omega))
    refine br_f (nI_ge (b := 64) (by omega) (by omega)) (cy_costAt hn H (by omega) hA ?_)
    refine cq_bLT (cp_CV F T S A P n t) 0 rfl cq_0 (by omega) (by omega) (by omega) (by omega) (fun k => nx (by omega)) (fun k => ?_)
    refine cq_bLT (b : Int) (cp_CV F T S A P n t) (cq_n b) rfl (by omega) (by omega) (by omega) (by omega) (fun k2 => nx (by omega)) (fun k2 => ?_)
    have e : t = w := by
      by_cases z : t < w
      · exact absurd ⟨k, k2⟩ (hm t z)
      · omega
    rw [e]
    exact h
theorem cy_w6N {post : Int32 → SY → Prop} {x hd : Int32} {fr tq sl fa pr tms lt chp : Nat → Int32} (hn : n ≤ 7) (H : cp_H n F T S A P) (hx : x < 0) (hA : cp_A 64 chp (cp_GG F T S A P n))
    (h : post (-1) (hd, fr, tq, sl, fa, pr, tms, lt, chp)) :
    ∀ d t, t + d = 64 → wY_within_6 post x hd fr tq sl fa pr tms lt chp (d + 1) (nI t) := by
  intro d
  induction d with
  | zero =>
    intro t ht
    exact br_t (nI_le (a := 64) (by omega) (by omega)) h
  | succ d ih =>
    intro t ht
    have r := cp_CVr hn H t
    refine br_f (nI_ge (b := 64) (by omega) (by omega)) (cy_costAt hn H (by omega) hA ?_)
    refine br_c (fun k => nm_r (nI_1 t) (ih (t + 1) (by omega))) (fun k => br_t (Int32.lt_of_lt_of_le hx (Int32.not_lt.mp k)) (nm_r (nI_1 t) (ih (t + 1) (by omega))))
theorem cx_t27 {post : Int32 → SX → Prop} {p : Nat} {jb cs : Int32} {fr tq sl fa pr rch cur : Nat → Int32} (s : Nat → Int) (hn : n ≤ 7) (H : cp_H n F T S A P) (hp : p ≤ 200) (hs : ∀ t, s t = cp_CV F T S A P n t + ((p * t : Nat) : Int)) (hc : ∀ t, t < 46 → cur t = cq_I (cp_CV F T S A P n t))
    (h : ∀ v, cp_XI s (cp_lf F T A n) 45 v → post (cq_I v) (jb, cs, fr, tq, sl, fa, pr, rch, cur)) :
    ∀ d t v, t + d = 45 → cp_lf F T A n ≤ t → cp_XI s (cp_lf F T A n) t v → wX_total_27 post (nI p) jb cs fr tq sl fa pr rch cur (d + 1) (cq_I v) (nI t) := by
  have bd : ∀ t, t ≤ 64 → -1 ≤ s t ∧ s t ≤ 13220 := by
    intro t ht
    have r := cp_CVr hn H t
    have m := cp_dt hp ht
    rw [hs t]
    omega
  intro d
  induction d with
  | zero =>
    intro t v ht hl hI
    obtain rfl : t = 45 := by omega
    exact br_t (nI_le (a := 45) (by omega) (by omega)) (h v hI)
  | succ d ih =>
    intro t v ht hl hI
    have bt := bd t (by omega)
    have b45 := bd 45 (by omega)
    have bv : -1 ≤ v ∧ v ≤ 13220 := by
      refine ⟨?_, by have z := hI.2.1; omega⟩
      rcases hI.1 with z | ⟨x, x1, x2, x3⟩
      · omega
      · have z := bd x (by omega)
        omega
    refine br_f (nI_ge (b := 45) (by omega) (by omega)) (cx_at H (by omega) hc (nm_r (e' := cq_I (s t)) ?_ ?_))
    · rw [pk_mul, cq_n, cq_add, hs t]
    · exact cq_bLE v (s t) rfl rfl (by omega) (by omega) (by omega) (by omega) (fun k => nm_r (nI_1 t) (ih (t + 1) v (by omega) (by omega) (cp_XI_ge hI k))) (fun k => nm_r (nI_1 t) (ih (t + 1) (s t) (by omega) (by omega) (cp_XI_lt hI hl k)))
theorem cy_t21 {post : Int32 → SY → Prop} {p : Nat} {hd : Int32} {fr tq sl fa pr tms lt chp : Nat → Int32} (s : Nat → Int) (hn : n ≤ 7) (H : cp_H n F T S A P) (hp : p ≤ 200) (hs : ∀ t, s t = cp_CV F T S A P n t + ((p * t : Nat) : Int)) (hA : cp_A 64 chp (cp_GG F T S A P n))
    (h : ∀ v, cp_YI s (cp_lf F T A n) 64 v → post (cq_I v) (hd, fr, tq, sl, fa, pr, tms, lt, chp)) :
    ∀ d t v, t + d = 64 → cp_YI s (cp_lf F T A n) t v → wY_total_21 post (nI p) hd fr tq sl fa pr tms lt chp (d + 1) (cq_I v) (nI t) := by
  have bd : ∀ t, t ≤ 64 → -1 ≤ s t ∧ s t ≤ 13220 := by
    intro t ht
    have r := cp_CVr hn H t
    have m := cp_dt hp ht
    rw [hs t]
    omega
  have s0 : ∀ x, cp_lf F T A n ≤ x → 0 ≤ s x := by
    intro x hx
    have f := (cp_CVf H x).mpr hx
    rw [hs x]
    omega
  intro d
  induction d with
  | zero =>
    intro t v ht hI
    obtain rfl : t = 64 := by omega
    exact br_t (nI_le (a := 64) (by omega) (by omega)) (h v hI)
  | succ d ih =>
    intro t v ht hI
    have r := cp_CVr hn H t
    have f := cp_CVf H t
    have bt := bd t (by omega)
    have bv : -1 ≤ v ∧ v ≤ 13220 := by
      rcases hI with z | ⟨_, ⟨x, x1, x2, x3⟩, _⟩
      · omega
      · have z := bd x (by omega)
        omega
    refine br_f (nI_ge (b := 64) (by omega) (by omega)) (cy_costAt hn H (by omega) hA (nm_r (e' := cq_I (s t)) ?_ ?_))
    · rw [pk_mul, cq_n, cq_add, hs t]
    · refine cq_bLT (cp_CV F T S A P n t) 0 rfl cq_0 (by omega) (by omega) (by omega) (by omega) (fun k => nm_r (nI_1 t) (ih (t + 1) v (by omega) (cp_YI_no hI (by omega)))) (fun k => ?_)
      refine cq_bLT v 0 rfl cq_0 (by omega) (by omega) (by omega) (by omega) (fun k2 => nm_r (nI_1 t) (ih (t + 1) (s t) (by omega) (cp_YI_lt hI (by omega) (Or.inl k2) s0))) (fun k2 => ?_)
      exact cq_bLE v (s t) rfl rfl (by omega) (by omega) (by omega) (by omega) (fun k3 => nm_r (nI_1 t) (ih (t + 1) v (by omega) (cp_YI_ge hI k2 k3))) (fun k3 => nm_r (nI_1 t) (ih (t + 1) (s t) (by omega) (cp_YI_lt hI (by omega) (Or.inr k3) s0)))
end
theorem i_vc_within {k : Nat} {u : SX} {v : SY} (I : i_Rel k u v) (hk : k + 6 ≤ 3072) (v1 : Int32) : wpX_within (fun r u' => wpY_within (fun r' v' => r' = r ∧ i_Rel (k + 6) u' v') v v1) u v1 := by
  obtain ⟨n, cs, fr, tq, sl, fa, pr, rch, cur, tms, lt, chp, rfl, rfl, hn, J, st⟩ := I
  have E : cp_E n fr tq sl fa pr (cq_N fr) (cq_N tq) (cq_N sl) (cq_N fa) (cq_N pr) := cp_J_e J
  have H := cp_J_H J
  unfold wpX_within wpY_within
  dsimp only
  by_cases h : v1 < 0
  · exact br_f (Int32.not_le.mpr h) (cy_curve hn E H (fun tms' lt' chp' hA => ⟨65, cy_w6N hn H h hA ⟨rfl, ci_R hn J st⟩ 64 0 rfl⟩))
  · obtain ⟨b, hb, rfl⟩ := nI_of h
    have c45 := cp_CV45 H (t := 45) (by omega)
    obtain ⟨w, hP, hm⟩ := pk_least (fun t => 0 ≤ cp_CV (cq_N fr) (cq_N tq) (cq_N sl) (cq_N fa) (cq_N pr) n t ∧ cp_CV (cq_N fr) (cq_N tq) (cq_N sl) (cq_N fa) (cq_N pr) n t ≤ (b : Int)) ⟨45, by
      show 0 ≤ cp_CV (cq_N fr) (cq_N tq) (cq_N sl) (cq_N fa) (cq_N pr) n 45 ∧ cp_CV (cq_N fr) (cq_N tq) (cq_N sl) (cq_N fa) (cq_N pr) n 45 ≤ (b : Int)
      omega⟩
    have hw : w ≤ 45 := Nat.le_of_not_lt (fun z => hm 45 z (by
      show 0 ≤ cp_CV (cq_N fr) (cq_N tq) (cq_N sl) (cq_N fa) (cq_N pr) n 45 ∧ cp_CV (cq_N fr) (cq_N tq) (cq_N sl) (cq_N fa) (cq_N pr) n 45 ≤ (b : Int)
      omega))
    have lw := (cp_CVf H w).mp hP.1
    have l45 := cp_lf45 H
    refine br_t (nI_pos' hb) (cx_draw hn E H st (fun rch' cur' hc => cx_first hn H hc ⟨45 - cp_lf (cq_N fr) (cq_N tq) (cq_N fa) n + 1, ?_⟩))
    refine cx_w15 hn H (by omega) hc hw hm hP ?_ (45 - cp_lf (cq_N fr) (cq_N tq) (cq_N fa) n) _ (by omega) (Nat.le_refl _) lw
    exact cy_curve hn E H (fun tms' lt' chp' hA => ⟨65, cy_w6 hn H (by omega) hA hw hm hP ⟨rfl, ci_R hn J (Or.inr ⟨rfl, hc⟩)⟩ 64 0 rfl (Nat.zero_le _)⟩)
theorem i_vc_total {k : Nat} {u : SX} {v : SY} (I : i_Rel k u v) (hk : k + 6 ≤ 3072) (v1 : Int32) : wpX_total (fun r u' => wpY_total (fun r' v' => r' = r ∧ i_Rel (k + 6) u' v') v v1) u v1 := by
  obtain ⟨n, cs, fr, tq, sl, fa, pr, rch, cur, tms, lt, chp, rfl, rfl, hn, J, st⟩ := I
  have E : cp_E n fr tq sl fa pr (cq_N fr) (cq_N tq) (cq_N sl) (cq_N fa) (cq_N pr) := cp_J_e J
  have H := cp_J_H J
  have R0 : i_Rel (k + 6) (nI n, cs, fr, tq, sl, fa, pr, rch, cur) (nI n, fr, tq, sl, fa, pr, tms, lt, chp) := ci_R hn J st
  unfold wpX_total wpY_total
  dsimp only
  by_cases h : v1 < 0
  · exact br_t h (br_t h ⟨rfl, R0⟩)
  · by_cases h2 : v1 ≤ 200
    · obtain ⟨p, hp, rfl⟩ := nI_of h
      have p2 : p ≤ 200 := (nI_leI (b := 200) hp (by omega)).mp h2
      have l45 := cp_lf45 H
      have c45 := cp_CV45 H (t := 45) (by omega)
      let s : Nat → Int := fun t => cp_CV (cq_N fr) (cq_N tq) (cq_N sl) (cq_N fa) (cq_N pr) n t + ((p * t : Nat) : Int)
      have hs : ∀ t, s t = cp_CV (cq_N fr) (cq_N tq) (cq_N sl) (cq_N fa) (cq_N pr) n t + ((p * t : Nat) : Int) := fun t => rfl
      have s45 : nI p * 45 = cq_I (s 45) := by
        have z : nI p * 45 = nI (p * 45) := pk_mul p 45
        rw [z, cq_n, hs 45, c45, Int.zero_add]
      have sm : ∀ t, 45 ≤ t → s 45 ≤ s t := by
        intro t ht
        have m : p * 45 ≤ p * t := Nat.mul_le_mul_left p ht
        rw [hs 45, hs t, c45, cp_CV45 H ht]
        omega
      refine br_f h (br_t h2 (cx_draw hn E H st (fun rch' cur' hc => nm_r s45 (cx_first hn H hc ⟨45 - cp_lf (cq_N fr) (cq_N tq) (cq_N fa) n + 1, ?_⟩))))
      refine cx_t27 s hn H p2 hs hc (fun v hv => ?_) (45 - cp_lf (cq_N fr) (cq_N tq) (cq_N fa) n) _ _ (by omega) (Nat.le_refl _) cp_XI_0
      refine br_f h (br_t h2 (cy_curve hn E H (fun tms' lt' chp' hA => ⟨65, ?_⟩)))
      rw [cq_m1]
      refine cy_t21 s hn H p2 hs hA (fun v' hv' => ⟨?_, ci_R hn J (Or.inr ⟨rfl, hc⟩)⟩) 64 0 (-1) rfl cp_YI_0
      rw [cp_MiU (cp_YI_end hv' l45) (cp_XI_end hv l45 sm)]
    · exact br_f h (br_f h2 (br_f h (br_f h2 ⟨rfl, R0⟩)))
