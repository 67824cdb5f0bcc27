/-! part 05: the relation, the calls that change the jobs -/
theorem pk_ix (x : Int32) {n : Nat} (hn : n < 2 ^ 31) : x < 0 ∨ nI n ≤ x ∨ ∃ j : Nat, j < n ∧ x = nI j := by
  by_cases h : x < 0
  · exact Or.inl h
  · obtain ⟨j, hj, rfl⟩ := nI_of h
    by_cases h2 : j < n
    · exact Or.inr (Or.inr ⟨j, h2, rfl⟩)
    · exact Or.inr (Or.inl (nI_le (by omega) hj))
def cp_S (n : Nat) (cs : Int32) (fr tq sl fa pr cur : Nat → Int32) : Prop := cs = 0 ∨ cs = 1 ∧ ∀ t, t < 46 → cur t = cq_I (cp_CV (cq_N fr) (cq_N tq) (cq_N sl) (cq_N fa) (cq_N pr) n t)
/-- one job list on both sides, each job within its ranges; a curve that stands is the list's -/
def i_Rel (k : Nat) (u : SX) (v : SY) : Prop := ∃ (n : Nat) (cs : Int32) (fr tq sl fa pr rch cur tms lt chp : Nat → Int32), u = (nI n, cs, fr, tq, sl, fa, pr, rch, cur) ∧ v = (nI n, fr, tq, sl, fa, pr, tms, lt, chp) ∧ n ≤ 7 ∧ cp_J n fr tq sl fa pr ∧ cp_S n cs fr tq sl fa pr cur
theorem i_up {k : Nat} {u : SX} {v : SY} (h : i_Rel k u v) : i_Rel (k + 6) u v := h
theorem i_vc0 : wpX_init (fun u => wpY_init (fun v => i_Rel 0 u v)) :=
  ⟨0, 0, fun _ => 0, fun _ => 0, fun _ => 0, fun _ => 0, fun _ => 0, fun _ => 0, fun _ => 0, fun _ => 0, fun _ => 0, fun _ => 0, rfl, rfl, Nat.zero_le 7, fun j hj => absurd hj (Nat.not_lt_zero j), Or.inl rfl⟩
theorem ci_R {k n : Nat} {cs : Int32} {fr tq sl fa pr rch cur tms lt chp : Nat → Int32} (hn : n ≤ 7) (J : cp_J n fr tq sl fa pr) (st : cp_S n cs fr tq sl fa pr cur) : i_Rel k (nI n, cs, fr, tq, sl, fa, pr, rch, cur) (nI n, fr, tq, sl, fa, pr, tms, lt, chp) :=
  ⟨n, cs, fr, tq, sl, fa, pr, rch, cur, tms, lt, chp, rfl, rfl, hn, J, st⟩
/-! add -/
theorem cp_jobI {f t s a p : Int32} : cp_job f t s a p ↔ (¬ f < 0 ∧ ¬ t ≤ f ∧ ¬ 5 < t ∧ ¬ a < 0 ∧ ¬ s < a ∧ ¬ 9 < s ∧ ¬ 3 < s - a ∧ ¬ p < 1 ∧ ¬ 20 < p) := by
  constructor
  · rintro ⟨f', t', s', a', p', rfl, rfl, rfl, rfl, rfl, h1, h2, h3, h4, h5, h6, h7⟩
    refine ⟨nI_pos (by omega), nI_ge h1 (by omega), nI_nlt (a := 5) h2 (by omega), nI_pos (by omega), nI_nlt h3 (by omega), nI_nlt (a := 9) h4 (by omega), ?_, nI_nlt (b := 1) h6 (by omega), nI_nlt (a := 20) h7 (by omega)⟩
    rw [pk_sub h3]
    exact nI_nlt (a := 3) (by omega) (by omega)
  · rintro ⟨h1, h2, h3, h4, h5, h6, h7, h8, h9⟩
    obtain ⟨f', hf, rfl⟩ := nI_of h1
    have t0 : ¬ t < 0 := fun z => h2 (Int32.le_of_lt (Int32.lt_of_lt_of_le z (nI_pos' hf)))
    obtain ⟨t', ht, rfl⟩ := nI_of t0
    obtain ⟨a', ha, rfl⟩ := nI_of h4
    have s0 : ¬ s < 0 := fun z => h5 (Int32.lt_of_lt_of_le z (nI_pos' ha))
    obtain ⟨s', hs, rfl⟩ := nI_of s0
    have p0 : ¬ p < 0 := fun z => h8 (Int32.lt_trans z (by decide))
    obtain ⟨p', hp, rfl⟩ := nI_of p0
    have k2 : ¬ t' ≤ f' := fun z => h2 (nI_le z hf)
    have k3 : ¬ 5 < t' := fun z => h3 (nI_lt (a := 5) z ht)
    have k5 : ¬ s' < a' := fun z => h5 (nI_lt z ha)
    have k6 : ¬ 9 < s' := fun z => h6 (nI_lt (a := 9) z hs)
    rw [pk_sub (by omega)] at h7
    have k7 : ¬ 3 < s' - a' := fun z => h7 (nI_lt (a := 3) z (by omega))
    have k8 : ¬ p' < 1 := fun z => h8 (nI_lt (b := 1) z (by omega))
    have k9 : ¬ 20 < p' := fun z => h9 (nI_lt (a := 20) z hp)
    exact ⟨f', t', s', a', p', rfl, rfl, rfl, rfl, rfl, by omega, by omega, by omega, by omega, by omega, by omega, by omega⟩
theorem cx_add {post : Int32 → SX → Prop} {n : Nat} {cs v1 v2 v3 v4 v5 : Int32} {fr tq sl fa pr rch cur : Nat → Int32} (hn : n ≤ 7)
    (hy : n < 7 → cp_job v1 v2 v3 v4 v5 → post (nI (n + 1)) (nI (n + 1), 0, upd fr n v1, upd tq n v2, upd sl n v3, upd fa n v4, upd pr n v5, rch, cur))
    (hN : ¬ (n < 7 ∧ cp_job v1 v2 v3 v4 v5) → post (-1) (nI n, cs, fr, tq, sl, fa, pr, rch, cur)) : wpX_add post (nI n, cs, fr, tq, sl, fa, pr, rch, cur) v1 v2 v3 v4 v5 := by
  have cn : (nI n).toNatClampNeg = n := nI_clamp (by omega)
  unfold wpX_add wpX_eventsFit wpX_timesFit wpX_priceFits
  dsimp only
  rw [cn]
  refine br_c (fun h => hN (fun c => nI_ge (b := 7) c.1 (by omega) h)) (fun h0 => ?_)
  have n7 : n < 7 := Nat.lt_of_not_le (fun z => h0 (nI_le (a := 7) z (by omega)))
  have vn : vp_in (nI n) 7 := vp_in_nI n7 (by decide)
  refine br_c (fun h => br_t rfl (hN (fun c => (cp_jobI.mp c.2).1 h))) (fun h1 => ?_)
  refine br_c (fun h => br_t rfl (hN (fun c => (cp_jobI.mp c.2).2.1 h))) (fun h2 => ?_)
  refine br_c (fun h => br_t rfl (hN (fun c => (cp_jobI.mp c.2).2.2.1 h))) (fun h3 => br_f (by decide) ?_)
  refine br_c (fun h => br_t rfl (hN (fun c => (cp_jobI.mp c.2).2.2.2.1 h))) (fun h4 => ?_)
  refine br_c (fun h => br_t rfl (hN (fun c => (cp_jobI.mp c.2).2.2.2.2.1 h))) (fun h5 => ?_)
  refine br_c (fun h => br_t rfl (hN (fun c => (cp_jobI.mp c.2).2.2.2.2.2.1 h))) (fun h6 => ?_)
  refine br_c (fun h => br_t rfl (hN (fun c => (cp_jobI.mp c.2).2.2.2.2.2.2.1 h))) (fun h7 => br_f (by decide) ?_)
  refine br_c (fun h => br_t rfl (hN (fun c => (cp_jobI.mp c.2).2.2.2.2.2.2.2.1 h))) (fun h8 => ?_)
  refine br_c (fun h => br_t rfl (hN (fun c => (cp_jobI.mp c.2).2.2.2.2.2.2.2.2 h))) (fun h9 => br_f (by decide) ?_)
  exact ⟨vn, nm_e ⟨vn, nm_e ⟨vn, nm_e ⟨vn, nm_e ⟨vn, nm_e (nm_r (nI_1 n) (hy n7 (cp_jobI.mpr ⟨h1, h2, h3, h4, h5, h6, h7, h8, h9⟩)))⟩⟩⟩⟩⟩
theorem cy_add {post : Int32 → SY → Prop} {n : Nat} {v1 v2 v3 v4 v5 : Int32} {fr tq sl fa pr tms lt chp : Nat → Int32} (hn : n ≤ 7)
    (hy : n < 7 → cp_job v1 v2 v3 v4 v5 → post (nI (n + 1)) (nI (n + 1), upd fr n v1, upd tq n v2, upd sl n v3, upd fa n v4, upd pr n v5, tms, lt, chp))
    (hN : ¬ (n < 7 ∧ cp_job v1 v2 v3 v4 v5) → post (-1) (nI n, fr, tq, sl, fa, pr, tms, lt, chp)) : wpY_add post (nI n, fr, tq, sl, fa, pr, tms, lt, chp) v1 v2 v3 v4 v5 := by
  have cn : (nI n).toNatClampNeg = n := nI_clamp (by omega)
  unfold wpY_add wpY_badPrice
  dsimp only
  rw [cn]
  refine br_c (fun h => hN (fun c => by
    have z : n = 7 := (nI_eq (b := 7) (by omega) (by omega)).mp h
    omega)) (fun h0 => ?_)
  have n7 : n < 7 := by
    have z : n ≠ 7 := fun e => h0 (by rw [e]; rfl)
    omega
  have vn : vp_in (nI n) 7 := vp_in_nI n7 (by decide)
  refine br_c (fun h => hN (fun c => (cp_jobI.mp c.2).1 h)) (fun h1 => ?_)
  refine br_c (fun h => hN (fun c => (cp_jobI.mp c.2).2.1 h)) (fun h2 => ?_)
  refine br_c (fun h => hN (fun c => (cp_jobI.mp c.2).2.2.1 h)) (fun h3 => ?_)
  refine br_c (fun h => br_f (by decide) (hN (fun c => (cp_jobI.mp c.2).2.2.2.2.2.2.2.1 h))) (fun h8 => ?_)
  refine br_c (fun h9 => br_t rfl ?_) (fun h => br_f (by decide) (hN (fun c => h (Int32.not_lt.mp (cp_jobI.mp c.2).2.2.2.2.2.2.2.2))))
  refine br_c (fun h => hN (fun c => (cp_jobI.mp c.2).2.2.2.1 h)) (fun h4 => ?_)
  refine br_c (fun h => hN (fun c => (cp_jobI.mp c.2).2.2.2.2.1 h)) (fun h5 => ?_)
  refine br_c (fun h => hN (fun c => (cp_jobI.mp c.2).2.2.2.2.2.1 h)) (fun h6 => ?_)
  refine br_c (fun h7 => ?_) (fun h => hN (fun c => h (Int32.not_lt.mp (cp_jobI.mp c.2).2.2.2.2.2.2.1)))
  exact ⟨vn, nm_e ⟨vn, nm_e ⟨vn, nm_e ⟨vn, nm_e ⟨vn, nm_e (nm_r (nI_1 n) (hy n7 (cp_jobI.mpr ⟨h1, h2, h3, h4, h5, h6, Int32.not_lt.mpr h7, h8, Int32.not_lt.mpr h9⟩)))⟩⟩⟩⟩⟩
theorem i_vc_add {k : Nat} {u : SX} {v : SY} (I : i_Rel k u v) (hk : k + 6 ≤ 3072) (v1 : Int32) (v2 : Int32) (v3 : Int32) (v4 : Int32) (v5 : Int32) : wpX_add (fun r u' => wpY_add (fun r' v' => r' = r ∧ i_Rel (k + 6) u' v') v v1 v2 v3 v4 v5) u v1 v2 v3 v4 v5 := by
  obtain ⟨n, cs, fr, tq, sl, fa, pr, rch, cur, tms, lt, chp, rfl, rfl, hn, J, st⟩ := I
  exact cx_add hn
    (fun n7 jb => cy_add hn (fun _ _ => ⟨rfl, ci_R (by omega) (cp_J_add J jb) (Or.inl rfl)⟩) (fun z => absurd ⟨n7, jb⟩ z))
    (fun z => cy_add hn (fun n7 jb => absurd ⟨n7, jb⟩ z) (fun _ => ⟨rfl, ci_R hn J st⟩))
/-! drop -/
theorem cx_d12 {post : Int32 → SX → Prop} {m k : Nat} {cs : Int32} {fr tq sl fa pr rch cur : Nat → Int32} (hm : m ≤ 6)
    (h : post (nI m) (nI m, 0, cp_sh fr k m, cp_sh tq k m, cp_sh sl k m, cp_sh fa k m, cp_sh pr k m, rch, cur)) :
    ∀ d i, k ≤ i → i + d = m → wX_drop_12 post (nI (m + 1)) cs (d + 1) (nI i) (cp_sh fr k i) (cp_sh tq k i) (cp_sh sl k i) (cp_sh fa k i) (cp_sh pr k i) rch cur := by
  intro d
  induction d with
  | zero =>
    intro i hk hi
    obtain rfl : i = m := by omega
    exact br_t (by rw [nI_pred]; exact Int32.le_refl _) (nm_r (nI_pred i) h)
  | succ d ih =>
    intro i hk hi
    have c0 : (nI i).toNatClampNeg = i := nI_clamp (by omega)
    have c1 : (nI (i + 1)).toNatClampNeg = i + 1 := nI_clamp (by omega)
    have v0 : vp_in (nI i) 7 := vp_in_nI (by omega) (by decide)
    have v1 : vp_in (nI (i + 1)) 7 := vp_in_nI (by omega) (by decide)
    refine br_f (by rw [nI_pred]; exact nI_ge (by omega) (by omega)) ?_
    rw [nI_1 i, c0, c1]
    exact ⟨v1, v0, nm_r (cp_sh_s fr hk) ⟨v1, v0, nm_r (cp_sh_s tq hk) ⟨v1, v0, nm_r (cp_sh_s sl hk) ⟨v1, v0, nm_r (cp_sh_s fa hk) ⟨v1, v0, nm_r (cp_sh_s pr hk) (nm_e (ih (i + 1) (by omega) (by omega)))⟩⟩⟩⟩⟩
theorem cy_d26 {post : Int32 → SY → Prop} {m k : Nat} {fr tq sl fa pr tms lt chp : Nat → Int32} (hm : m ≤ 6)
    (h : post (nI m) (nI m, cp_sh fr k m, cp_sh tq k m, cp_sh sl k m, cp_sh fa k m, cp_sh pr k m, tms, lt, chp)) :
    ∀ d i, k ≤ i → i + d = m → wY_drop_26 post (nI m) (d + 1) (nI i) (cp_sh fr k i) (cp_sh tq k i) (cp_sh sl k i) (cp_sh fa k i) (cp_sh pr k i) tms lt chp := by
  intro d
  induction d with
  | zero =>
    intro i hk hi
    obtain rfl : i = m := by omega
    exact br_t (Int32.le_refl _) h
  | succ d ih =>
    intro i hk hi
    have c0 : (nI i).toNatClampNeg = i := nI_clamp (by omega)
    have c1 : (nI (i + 1)).toNatClampNeg = i + 1 := nI_clamp (by omega)
    have v0 : vp_in (nI i) 7 := vp_in_nI (by omega) (by decide)
    have v1 : vp_in (nI (i + 1)) 7 := vp_in_nI (by omega) (by decide)
    refine br_f (nI_ge (by omega) (by omega)) ?_
    rw [nI_1 i, c0, c1]
    exact ⟨v1, v0, nm_r (cp_sh_s fr hk) ⟨v1, v0, nm_r (cp_sh_s tq hk) ⟨v1, v0, nm_r (cp_sh_s sl hk) ⟨v1, v0, nm_r (cp_sh_s fa hk) ⟨v1, v0, nm_r (cp_sh_s pr hk) (nm_e (ih (i + 1) (by omega) (by omega)))⟩⟩⟩⟩⟩
theorem i_vc_drop {k : Nat} {u : SX} {v : SY} (I : i_Rel k u v) (hk : k + 6 ≤ 3072) (v1 : Int32) : wpX_drop (fun r u' => wpY_drop (fun r' v' => r' = r ∧ i_Rel (k + 6) u' v') v v1) u v1 := by
  obtain ⟨n, cs, fr, tq, sl, fa, pr, rch, cur, tms, lt, chp, rfl, rfl, hn, J, st⟩ := I
  have R0 : i_Rel (k + 6) (nI n, cs, fr, tq, sl, fa, pr, rch, cur) (nI n, fr, tq, sl, fa, pr, tms, lt, chp) := ci_R hn J st
  unfold wpX_drop wpX_isJob wpY_drop
  dsimp only
  rcases pk_ix v1 (n := n) (by omega) with h | h | ⟨j, hj, rfl⟩
  · exact br_t h (br_t rfl (br_t h ⟨rfl, R0⟩))
  · have h0 : ¬ v1 < 0 := fun z => Int32.not_lt.mpr h (Int32.lt_of_lt_of_le z (nI_pos' (by omega)))
    exact br_f h0 (br_t h (br_t rfl (br_f h0 (br_f (Int32.not_lt.mpr h) ⟨rfl, R0⟩))))
  · obtain ⟨m, rfl⟩ : ∃ m, n = m + 1 := ⟨n - 1, by omega⟩
    refine br_f (nI_pos (by omega)) (br_f (nI_ge hj (by omega)) (br_f (by decide) ⟨m - j + 1, ?_⟩))
    have X := fun post h => cx_d12 (post := post) (m := m) (k := j) (cs := cs) (fr := fr) (tq := tq) (sl := sl) (fa := fa) (pr := pr) (rch := rch) (cur := cur) (by omega) h (m - j) j (Nat.le_refl j) (by omega)
    have Y := fun post h => cy_d26 (post := post) (m := m) (k := j) (fr := fr) (tq := tq) (sl := sl) (fa := fa) (pr := pr) (tms := tms) (lt := lt) (chp := chp) (by omega) h (m - j) j (Nat.le_refl j) (by omega)
    simp only [cp_sh_0] at X Y
    exact X _ (br_f (nI_pos (by omega)) (br_t (nI_lt hj (by omega)) (nm_r (nI_pred m) ⟨m - j + 1, Y _ ⟨rfl, ci_R (by omega) (cp_J_drop J) (Or.inl rfl)⟩⟩)))
/-! price -/
theorem i_vc_price {k : Nat} {u : SX} {v : SY} (I : i_Rel k u v) (hk : k + 6 ≤ 3072) (v1 : Int32) (v2 : Int32) : wpX_price (fun r u' => wpY_price (fun r' v' => r' = r ∧ i_Rel (k + 6) u' v') v v1 v2) u v1 v2 := by
  obtain ⟨n, cs, fr, tq, sl, fa, pr, rch, cur, tms, lt, chp, rfl, rfl, hn, J, st⟩ := I
  have R0 : i_Rel (k + 6) (nI n, cs, fr, tq, sl, fa, pr, rch, cur) (nI n, fr, tq, sl, fa, pr, tms, lt, chp) := ci_R hn J st
  unfold wpX_price wpX_isJob wpX_priceFits wpY_price wpY_badPrice
  dsimp only
  rcases pk_ix v1 (n := n) (by omega) with h | h | ⟨j, hj, rfl⟩
  · exact br_t h (br_t rfl (br_t h ⟨rfl, R0⟩))
  · have h0 : ¬ v1 < 0 := fun z => Int32.not_lt.mpr h (Int32.lt_of_lt_of_le z (nI_pos' (by omega)))
    exact br_f h0 (br_t h (br_t rfl (br_f h0 (br_t h ⟨rfl, R0⟩))))
  · have cj : (nI j).toNatClampNeg = j := nI_clamp (by omega)
    have vj : vp_in (nI j) 7 := vp_in_nI (by omega) (by decide)
    have a1 : ¬ nI j < 0 := nI_pos (by omega)
    have a2 : ¬ nI n ≤ nI j := nI_ge hj (by omega)
    rw [cj]
    refine br_f a1 (br_f a2 (br_f (by decide) ?_))
    by_cases b1 : v2 < 1
    · exact br_t b1 (br_t rfl (br_f a1 (br_f a2 (br_t b1 (br_f (by decide) ⟨rfl, R0⟩)))))
    · by_cases b2 : 20 < v2
      · exact br_f b1 (br_t b2 (br_t rfl (br_f a1 (br_f a2 (br_f b1 (br_f (Int32.not_le.mpr b2) (br_f (by decide) ⟨rfl, R0⟩)))))))
      · obtain ⟨p, hp, rfl⟩ := nI_of (x := v2) (fun z => b1 (Int32.lt_trans z (by decide)))
        have p1 : ¬ p < 1 := fun z => b1 (nI_lt (b := 1) z (by omega))
        have p2 : ¬ 20 < p := fun z => b2 (nI_lt (a := 20) z hp)
        exact br_f b1 (br_f b2 (br_f (by decide) ⟨vj, nm_e ⟨vj, nm_e (br_f a1 (br_f a2 (br_f b1 (br_t (Int32.not_lt.mp b2) (br_t rfl ⟨vj, nm_e ⟨vj, nm_e ⟨rfl, ci_R hn (cp_J_pr J (by omega) (by omega)) (Or.inl rfl)⟩⟩⟩)))))⟩⟩))
