/-! part 02: the least sum, the job list in its five arrays, what a drop moves -/
def cp_Mi (s : Nat → Int) (lf m : Nat) (v : Int) : Prop := (∃ t, lf ≤ t ∧ t < m ∧ v = s t) ∧ ∀ t, lf ≤ t → t < m → v ≤ s t
theorem cp_MiU {s : Nat → Int} {lf m : Nat} {v v' : Int} (h : cp_Mi s lf m v) (h' : cp_Mi s lf m v') : v = v' := by
  obtain ⟨⟨t, a, b, c⟩, d⟩ := h
  obtain ⟨⟨t', a', b', c'⟩, d'⟩ := h'
  have e1 := d t' a' b'
  have e2 := d' t a b
  omega
def cp_XI (s : Nat → Int) (lf t : Nat) (v : Int) : Prop := (v = s 45 ∨ ∃ x, lf ≤ x ∧ x < t ∧ v = s x) ∧ v ≤ s 45 ∧ ∀ x, lf ≤ x → x < t → v ≤ s x
theorem cp_XI_0 {s : Nat → Int} {lf : Nat} : cp_XI s lf lf (s 45) := ⟨Or.inl rfl, Int.le_refl _, fun x h1 h2 => by omega⟩
theorem cp_XI_lt {s : Nat → Int} {lf t : Nat} {v : Int} (h : cp_XI s lf t v) (ht : lf ≤ t) (c : s t < v) : cp_XI s lf (t + 1) (s t) := by
  obtain ⟨_, h2, h3⟩ := h
  refine ⟨Or.inr ⟨t, ht, by omega, rfl⟩, by omega, fun x a b => ?_⟩
  by_cases e : x = t
  · subst e
    exact Int.le_refl _
  · have k := h3 x a (by omega)
    omega
theorem cp_XI_ge {s : Nat → Int} {lf t : Nat} {v : Int} (h : cp_XI s lf t v) (c : v ≤ s t) : cp_XI s lf (t + 1) v := by
  obtain ⟨h1, h2, h3⟩ := h
  refine ⟨?_, h2, fun x a b => ?_⟩
  · rcases h1 with h1 | ⟨x, a, b, e⟩
    · exact Or.inl h1
    · exact Or.inr ⟨x, a, by omega, e⟩
  · by_cases e : x = t
    · subst e
      exact c
    · exact h3 x a (by omega)
theorem cp_XI_end {s : Nat → Int} {lf : Nat} {v : Int} (h : cp_XI s lf 45 v) (hl : lf ≤ 45) (hs : ∀ t, 45 ≤ t → s 45 ≤ s t) : cp_Mi s lf 64 v := by
  obtain ⟨h1, h2, h3⟩ := h
  refine ⟨?_, fun x a b => ?_⟩
  · rcases h1 with h1 | ⟨x, a, b, e⟩
    · exact ⟨45, hl, by omega, h1⟩
    · exact ⟨x, a, by omega, e⟩
  · by_cases e : x < 45
    · exact h3 x a e
    · have k := hs x (by omega)
      omega
def cp_YI (s : Nat → Int) (lf t : Nat) (v : Int) : Prop := (t ≤ lf ∧ v = -1) ∨ (lf < t ∧ cp_Mi s lf t v)
theorem cp_YI_0 {s : Nat → Int} {lf : Nat} : cp_YI s lf 0 (-1) := Or.inl ⟨Nat.zero_le _, rfl⟩
theorem cp_YI_no {s : Nat → Int} {lf t : Nat} {v : Int} (h : cp_YI s lf t v) (ht : t < lf) : cp_YI s lf (t + 1) v := by
  rcases h with ⟨_, b⟩ | ⟨a, _⟩
  · exact Or.inl ⟨by omega, b⟩
  · omega
theorem cp_YI_lt {s : Nat → Int} {lf t : Nat} {v : Int} (h : cp_YI s lf t v) (ht : lf ≤ t) (c : v < 0 ∨ s t < v) (h0 : ∀ x, lf ≤ x → 0 ≤ s x) : cp_YI s lf (t + 1) (s t) := by
  refine Or.inr ⟨by omega, ⟨t, ht, by omega, rfl⟩, fun x a b => ?_⟩
  by_cases e : x = t
  · subst e
    exact Int.le_refl _
  · rcases h with ⟨k1, _⟩ | ⟨_, ⟨y, y1, y2, y3⟩, k2⟩
    · omega
    · have k3 := k2 x a (by omega)
      have k4 := h0 y y1
      omega
theorem cp_YI_ge {s : Nat → Int} {lf t : Nat} {v : Int} (h : cp_YI s lf t v) (c0 : 0 ≤ v) (c : v ≤ s t) : cp_YI s lf (t + 1) v := by
  rcases h with ⟨_, k⟩ | ⟨k1, ⟨y, y1, y2, y3⟩, k2⟩
  · omega
  · refine Or.inr ⟨by omega, ⟨y, y1, by omega, y3⟩, fun x a b => ?_⟩
    by_cases e : x = t
    · subst e
      exact c
    · exact k2 x a (by omega)
theorem cp_YI_end {s : Nat → Int} {lf : Nat} {v : Int} (h : cp_YI s lf 64 v) (hl : lf ≤ 45) : cp_Mi s lf 64 v := by
  rcases h with ⟨k, _⟩ | ⟨_, k⟩
  · omega
  · exact k
theorem cp_dt {d t : Nat} (hd : d ≤ 200) (ht : t ≤ 64) : d * t ≤ 12800 := Nat.mul_le_mul hd ht
/-! a job, and the job list -/
def cq_N (a : Nat → Int32) (j : Nat) : Nat := (a j).toNatClampNeg
def cp_job (f t s a p : Int32) : Prop := ∃ f' t' s' a' p' : Nat, f = nI f' ∧ t = nI t' ∧ s = nI s' ∧ a = nI a' ∧ p = nI p' ∧ f' < t' ∧ t' ≤ 5 ∧ a' ≤ s' ∧ s' ≤ 9 ∧ s' ≤ a' + 3 ∧ 1 ≤ p' ∧ p' ≤ 20
def cp_J (n : Nat) (fr tq sl fa pr : Nat → Int32) : Prop := ∀ j, j < n → cp_job (fr j) (tq j) (sl j) (fa j) (pr j)
theorem cq_Ne {a : Nat → Int32} {j m : Nat} (h : a j = nI m) (hm : m < 2147483648) : cq_N a j = m := by
  unfold cq_N
  rw [h]
  exact nI_clamp hm
theorem cp_J_H {n : Nat} {fr tq sl fa pr : Nat → Int32} (h : cp_J n fr tq sl fa pr) : cp_H n (cq_N fr) (cq_N tq) (cq_N sl) (cq_N fa) (cq_N pr) := by
  intro j hj
  obtain ⟨f, t, s, a, p, e1, e2, e3, e4, e5, h1, h2, h3, h4, h5, h6, h7⟩ := h j hj
  rw [cq_Ne e1 (by omega), cq_Ne e2 (by omega), cq_Ne e3 (by omega), cq_Ne e4 (by omega), cq_Ne e5 (by omega)]
  exact ⟨h1, h2, h3, h4, h5, h6, h7⟩
theorem cp_J_e {n : Nat} {fr tq sl fa pr : Nat → Int32} (h : cp_J n fr tq sl fa pr) : ∀ j, j < n → fr j = nI (cq_N fr j) ∧ tq j = nI (cq_N tq j) ∧ sl j = nI (cq_N sl j) ∧ fa j = nI (cq_N fa j) ∧ pr j = nI (cq_N pr j) := by
  intro j hj
  obtain ⟨f, t, s, a, p, e1, e2, e3, e4, e5, h1, h2, h3, h4, h5, h6, h7⟩ := h j hj
  rw [cq_Ne e1 (by omega), cq_Ne e2 (by omega), cq_Ne e3 (by omega), cq_Ne e4 (by omega), cq_Ne e5 (by omega)]
  exact ⟨e1, e2, e3, e4, e5⟩
theorem cp_J_add {n : Nat} {fr tq sl fa pr : Nat → Int32} {f t s a p : Int32} (h : cp_J n fr tq sl fa pr) (k : cp_job f t s a p) : cp_J (n + 1) (upd fr n f) (upd tq n t) (upd sl n s) (upd fa n a) (upd pr n p) := by
  intro j hj
  by_cases e : j = n
  · subst e
    rw [pk_us, pk_us, pk_us, pk_us, pk_us]
    exact k
  · rw [pk_un e, pk_un e, pk_un e, pk_un e, pk_un e]
    exact h j (by omega)
theorem cp_J_pr {n m p : Nat} {fr tq sl fa pr : Nat → Int32} (h : cp_J n fr tq sl fa pr) (h1 : 1 ≤ p) (h2 : p ≤ 20) : cp_J n fr tq sl fa (upd pr m (nI p)) := by
  intro j hj
  by_cases e : j = m
  · subst e
    rw [pk_us]
    obtain ⟨f, t, s, a, q, e1, e2, e3, e4, e5, k1, k2, k3, k4, k5, k6, k7⟩ := h j hj
    exact ⟨f, t, s, a, p, e1, e2, e3, e4, rfl, k1, k2, k3, k4, k5, h1, h2⟩
  · rw [pk_un e]
    exact h j hj
/-- what the moving of a drop has made of an array when it stands at i -/
def cp_sh (a : Nat → Int32) (k i : Nat) : Nat → Int32 := fun j => if k ≤ j ∧ j < i then a (j + 1) else a j
theorem cp_sh_0 (a : Nat → Int32) (k : Nat) : cp_sh a k k = a := by
  funext j
  exact if_neg (by omega)
theorem cp_sh_n (a : Nat → Int32) (k i : Nat) : cp_sh a k i (i + 1) = a (i + 1) := if_neg (by omega)
theorem cp_sh_s (a : Nat → Int32) {k i : Nat} (h : k ≤ i) : upd (cp_sh a k i) i (cp_sh a k i (i + 1)) = cp_sh a k (i + 1) := by
  rw [cp_sh_n]
  funext j
  show (if j = i then a (i + 1) else if k ≤ j ∧ j < i then a (j + 1) else a j) = if k ≤ j ∧ j < i + 1 then a (j + 1) else a j
  by_cases e : j = i
  · subst e
    rw [if_pos rfl, if_pos (by omega)]
  · rw [if_neg e]
    by_cases c : k ≤ j ∧ j < i
    · rw [if_pos c, if_pos (by omega)]
    · rw [if_neg c, if_neg (by omega)]
theorem cp_J_drop {n k : Nat} {fr tq sl fa pr : Nat → Int32} (h : cp_J (n + 1) fr tq sl fa pr) : cp_J n (cp_sh fr k n) (cp_sh tq k n) (cp_sh sl k n) (cp_sh fa k n) (cp_sh pr k n) := by
  intro j hj
  unfold cp_sh
  by_cases c : k ≤ j ∧ j < n
  · rw [if_pos c, if_pos c, if_pos c, if_pos c, if_pos c]
    exact h (j + 1) (by omega)
  · rw [if_neg c, if_neg c, if_neg c, if_neg c, if_neg c]
    exact h j (by omega)
/-! arrays that hold a picture -/
def cp_A (m : Nat) (a : Nat → Int32) (L : Nat → Int) : Prop := ∀ x, x < m → a x = cq_I (L x)
theorem cp_A_c {m : Nat} {a : Nat → Int32} {L L' : Nat → Int} (h : cp_A m a L) (e : ∀ x, L' x = L x) : cp_A m a L' := by
  intro x hx
  rw [e x]
  exact h x hx
theorem cp_A_st_y {m : Nat} {a : Nat → Int32} {F T : Nat → Nat} {tm : Nat → Int} {e j : Nat} {L : Nat → Int} (h : cp_A m a L) (h1 : F j = e) (h2 : 0 ≤ L e) (h3 : L (T j) < L e + tm j) : cp_A m (upd a (T j) (cq_I (L e + tm j))) (cp_st F T tm e j L) := by
  intro x hx
  unfold cp_st
  by_cases c : x = T j
  · subst c
    rw [pk_us, if_pos ⟨h1, h2, rfl, h3⟩]
  · rw [pk_un c, if_neg (fun z => c z.2.2.1)]
    exact h x hx
theorem cp_A_st_n {m : Nat} {a : Nat → Int32} {F T : Nat → Nat} {tm : Nat → Int} {e j : Nat} {L : Nat → Int} (h : cp_A m a L) (h3 : ¬ (F j = e ∧ 0 ≤ L e ∧ L (T j) < L e + tm j)) : cp_A m a (cp_st F T tm e j L) := by
  intro x hx
  unfold cp_st
  rw [if_neg (fun z => h3 ⟨z.1, z.2.1, by rw [← z.2.2.1]; exact z.2.2.2⟩)]
  exact h x hx
theorem cp_A_lw_y {m t : Nat} {a : Nat → Int32} {G : Nat → Int} {c : Int} (h : cp_A m a G) (k : G t < 0 ∨ c < G t) : cp_A m (upd a t (cq_I c)) (cp_lw G t c) := by
  intro x hx
  unfold cp_lw
  by_cases e : x = t
  · subst e
    rw [pk_us, if_pos ⟨rfl, k⟩]
  · rw [pk_un e, if_neg (fun z => e z.1)]
    exact h x hx
theorem cp_A_lw_n {m t : Nat} {a : Nat → Int32} {G : Nat → Int} {c : Int} (h : cp_A m a G) (k : ¬ (G t < 0 ∨ c < G t)) : cp_A m a (cp_lw G t c) := by
  intro x hx
  unfold cp_lw
  rw [if_neg (fun z => k (by rw [← z.1]; exact z.2))]
  exact h x hx
theorem cp_A_0 {F T : Nat → Nat} {tm : Nat → Int} {n : Nat} {a : Nat → Int32} (h : ∀ x, x < 6 → a x = -1) : cp_A 6 (upd a 0 0) (cp_out F T tm n 0) := by
  intro x hx
  show upd a 0 0 x = cq_I (if x = 0 then 0 else -1)
  by_cases c : x = 0
  · subst c
    rw [pk_us, if_pos rfl]
    exact cq_0
  · rw [pk_un c, if_neg c, h x hx]
    exact cq_m1
/-- what the spreading has made when it stands at d -/
def cp_sp (G : Nat → Int) (d x : Nat) : Int := if x < d then cp_B G (x + 1) else G x
theorem cp_sp_0 {G : Nat → Int} (lo : ∀ t, -1 ≤ G t) (x : Nat) : cp_sp G 1 x = G x := by
  unfold cp_sp
  by_cases c : x < 1
  · rw [if_pos c]
    have e : x = 0 := by omega
    subst e
    have l := lo 0
    show cp_mn (-1) (G 0) = G 0
    unfold cp_mn
    split <;> omega
  · rw [if_neg c]
theorem cp_sp_n {G : Nat → Int} (lo : ∀ t, -1 ≤ G t) {d : Nat} (h : cp_B G d = -1) (x : Nat) : cp_sp G (d + 1) x = cp_sp G d x := by
  unfold cp_sp
  by_cases c : x < d
  · rw [if_pos c, if_pos (by omega)]
  · rw [if_neg c]
    by_cases e : x = d
    · subst e
      have l := lo x
      rw [if_pos (by omega)]
      show cp_mn (cp_B G x) (G x) = G x
      rw [h]
      unfold cp_mn
      split <;> omega
    · rw [if_neg (by omega)]
theorem cp_sp_y {G : Nat → Int} (lo : ∀ t, -1 ≤ G t) {d : Nat} (h : 0 ≤ cp_B G d) (x : Nat) : cp_sp G (d + 1) x = cp_lw (cp_sp G d) d (cp_B G d) x := by
  unfold cp_lw cp_sp
  by_cases e : x = d
  · subst e
    have l := lo x
    rw [if_pos (show x < x + 1 from by omega), if_neg (show ¬ x < x from by omega)]
    show cp_mn (cp_B G x) (G x) = _
    unfold cp_mn
    split <;> split <;> omega
  · by_cases c : x < d
    · rw [if_pos (show x < d + 1 from by omega), if_pos c]
      exact (if_neg (fun z => e z.1)).symm
    · rw [if_neg (show ¬ x < d + 1 from by omega), if_neg c]
      exact (if_neg (fun z => e z.1)).symm
def cp_E (n : Nat) (fr tq sl fa pr : Nat → Int32) (F T S A P : Nat → Nat) : Prop := ∀ j, j < n → fr j = nI (F j) ∧ tq j = nI (T j) ∧ sl j = nI (S j) ∧ fa j = nI (A j) ∧ pr j = nI (P j)
theorem cp_mn_y {a b : Int} (h : 0 ≤ b ∧ (a < 0 ∨ b < a)) : cp_mn a b = b := if_pos h
theorem cp_mn_n {a b : Int} (h : ¬ (0 ≤ b ∧ (a < 0 ∨ b < a))) : cp_mn a b = a := if_neg h
