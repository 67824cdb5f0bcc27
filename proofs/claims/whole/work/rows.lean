section
/-! part 01: rows pasted from kit/rows (pk_*, s_l), ints as Int32, the pure pictures of lengths, plans and the curve -/
theorem pk_us {f : Nat → Int32} {k : Nat} {x : Int32} : upd f k x k = x := if_pos rfl
theorem pk_un {f : Nat → Int32} {k j : Nat} {x : Int32} (h : j ≠ k) : upd f k x j = f j := if_neg h
theorem pk_sub {a b : Nat} (h : b ≤ a) : nI a - nI b = nI (a - b) := by
  obtain ⟨c, rfl⟩ : ∃ c, a = c + b := ⟨a - b, by omega⟩
  rw [← nI_add, Int32.add_sub_cancel, Nat.add_sub_cancel]
theorem pk_mul (a b : Nat) : nI a * nI b = nI (a * b) := (Int32.ofNat_mul a b).symm
theorem pk_tn {n : Nat} (h : n < 2 ^ 32) : (nI n).toBitVec.toNat = n := Nat.mod_eq_of_lt h
theorem pk_and (x : Int32) {m : Int32} (k : Nat) (hm : m.toBitVec.toNat = 2 ^ k - 1) : x &&& m = nI (x.toBitVec.toNat % 2 ^ k) := by
  apply Int32.toBitVec_inj.mp
  apply BitVec.eq_of_toNat_eq
  rw [Int32.toBitVec_and, BitVec.toNat_and, hm, Nat.and_two_pow_sub_one_eq_mod]
  show _ = (BitVec.ofNat 32 _).toNat
  rw [BitVec.toNat_ofNat]
  exact (Nat.mod_eq_of_lt (Nat.lt_of_le_of_lt (Nat.mod_le _ _) x.toBitVec.isLt)).symm
theorem pk_andN {n : Nat} (h : n < 2 ^ 32) {m : Int32} (k : Nat) (hm : m.toBitVec.toNat = 2 ^ k - 1) : nI n &&& m = nI (n % 2 ^ k) := by
  rw [pk_and _ k hm, pk_tn h]
theorem pk_shr (a s : Int32) (k : Nat) (hs : (s.toBitVec.smod 32).toNat = k) : (a >>> s).toInt = a.toInt >>> k := by
  show (a.toBitVec.sshiftRight (s.toBitVec.smod 32).toNat).toInt = _
  rw [hs, BitVec.toInt_sshiftRight]
  rfl
theorem pk_shrN {n : Nat} (h : n < 2 ^ 31) (s : Int32) (k : Nat) (hs : (s.toBitVec.smod 32).toNat = k) : nI n >>> s = nI (n / 2 ^ k) := by
  apply Int32.toInt_inj.mp
  have h2 : n / 2 ^ k ≤ n := Nat.div_le_self _ _
  rw [pk_shr _ _ k hs, nI_toInt h, nI_toInt (by omega), Int.shiftRight_eq_div_pow]
  rfl
theorem pk_loop {σ : Type} (W : Nat → Nat → σ → Prop) (I : Nat → σ → Prop) (e i0 : Nat) (s : σ) (hi : i0 ≤ e) (h0 : I i0 s) (hx : ∀ n s, I e s → W (n + 1) e s)
    (hs : ∀ n i s, i < e → I i s → (∀ s', I (i + 1) s' → W n (i + 1) s') → W (n + 1) i s) : ∃ n, W n i0 s :=
  ⟨e + 1, loop_i W I e hx hs (e + 1) i0 s hi (by omega) h0⟩
theorem pk_least (P : Nat → Prop) (h : ∃ k, P k) : ∃ k, P k ∧ ∀ j, j < k → ¬ P j := by
  obtain ⟨k, hk⟩ := h
  induction k using Nat.strongRecOn with
  | ind k ih =>
    by_cases e : ∃ j, j < k ∧ P j
    · obtain ⟨j, hj, pj⟩ := e
      exact ih j hj pj
    · exact ⟨k, hk, fun j hj pj => e ⟨j, hj, pj⟩⟩
theorem s_l : ∀ n, n < 32 → ((nI n &&& 31).toBitVec.smod 32).toNat = n := by decide +kernel
/-! ints as Int32 -/
def cq_I (z : Int) : Int32 := Int32.ofInt z
theorem cq_t {z : Int} (h : -2147483648 ≤ z) (h' : z < 2147483648) : (cq_I z).toInt = z := Int32.toInt_ofInt_of_le (by omega) (by omega)
theorem cq_le {a b : Int} (h1 : -2147483648 ≤ a) (h2 : a < 2147483648) (h3 : -2147483648 ≤ b) (h4 : b < 2147483648) : cq_I a ≤ cq_I b ↔ a ≤ b := by
  rw [Int32.le_iff_toInt_le, cq_t h1 h2, cq_t h3 h4]
theorem cq_lt {a b : Int} (h1 : -2147483648 ≤ a) (h2 : a < 2147483648) (h3 : -2147483648 ≤ b) (h4 : b < 2147483648) : cq_I a < cq_I b ↔ a < b := by
  rw [Int32.lt_iff_toInt_lt, cq_t h1 h2, cq_t h3 h4]
theorem cq_eq {a b : Int} (h1 : -2147483648 ≤ a) (h2 : a < 2147483648) (h3 : -2147483648 ≤ b) (h4 : b < 2147483648) : cq_I a = cq_I b ↔ a = b := by
  rw [← Int32.toInt_inj, cq_t h1 h2, cq_t h3 h4]
theorem cq_n (n : Nat) : nI n = cq_I (n : Int) := (Int32.ofInt_eq_ofNat).symm
theorem cq_add (a b : Int) : cq_I a + cq_I b = cq_I (a + b) := (Int32.ofInt_add a b).symm
theorem cq_sub (a b : Int) : cq_I a - cq_I b = cq_I (a - b) := (Int32.ofInt_sub a b).symm
theorem cq_mul (a b : Int) : cq_I a * cq_I b = cq_I (a * b) := (Int32.ofInt_mul a b).symm
theorem cq_of (x : Int32) : x = cq_I x.toInt := (Int32.ofInt_toInt x).symm
theorem cq_m1 : (-1 : Int32) = cq_I (-1) := by first | decide | rfl
theorem cq_0 : (0 : Int32) = cq_I 0 := by first | decide | rfl
/-- a branch met by the ints -/
theorem cq_bLE {x y : Int32} {A B : Prop} (a b : Int) (hx : x = cq_I a) (hy : y = cq_I b) (h1 : -2147483648 ≤ a) (h2 : a < 2147483648) (h3 : -2147483648 ≤ b) (h4 : b < 2147483648) (f : a ≤ b → A) (g : b < a → B) : (x ≤ y → A) ∧ (¬ x ≤ y → B) := by
  subst hx hy
  rw [cq_le h1 h2 h3 h4]
  exact ⟨f, fun z => g (by omega)⟩
theorem cq_bLT {x y : Int32} {A B : Prop} (a b : Int) (hx : x = cq_I a) (hy : y = cq_I b) (h1 : -2147483648 ≤ a) (h2 : a < 2147483648) (h3 : -2147483648 ≤ b) (h4 : b < 2147483648) (f : a < b → A) (g : b ≤ a → B) : (x < y → A) ∧ (¬ x < y → B) := by
  subst hx hy
  rw [cq_lt h1 h2 h3 h4]
  exact ⟨f, fun z => g (by omega)⟩
theorem cq_bEQ {x y : Int32} {A B : Prop} (a b : Int) (hx : x = cq_I a) (hy : y = cq_I b) (h1 : -2147483648 ≤ a) (h2 : a < 2147483648) (h3 : -2147483648 ≤ b) (h4 : b < 2147483648) (f : a = b → A) (g : a ≠ b → B) : (x = y → A) ∧ (¬ x = y → B) := by
  subst hx hy
  rw [cq_eq h1 h2 h3 h4]
  exact ⟨f, g⟩
/-! the units that plan p saves on job j -/
def cp_sv (p j : Nat) : Nat := p / 2 ^ (2 * j) % 4
theorem cp_sv3 (p j : Nat) : cp_sv p j ≤ 3 := by
  unfold cp_sv
  omega
theorem cp_sv0 (j : Nat) : cp_sv 0 j = 0 := by simp [cp_sv]
theorem cq_sv {p j : Nat} (hp : p < 2 ^ 31) (hj : j < 8) : (nI p >>> (((2 : Int32) * nI j) &&& 31)) &&& 3 = nI (cp_sv p j) := by
  have e : (2 : Int32) * nI j = nI (2 * j) := pk_mul 2 j
  have h2 : p / 2 ^ (2 * j) ≤ p := Nat.div_le_self _ _
  rw [e, pk_shrN hp _ (2 * j) (s_l (2 * j) (by omega)), pk_andN (n := p / 2 ^ (2 * j)) (by omega) (m := 3) 2 (by decide)]
  rfl
theorem cq_shl : ∀ n, n < 8 → (1 : Int32) <<< (((2 : Int32) * nI n) &&& 31) = nI (2 ^ (2 * n)) := by decide +kernel
theorem cp_N : ∀ n, n < 8 → 2 ^ (2 * n) ≤ 16384 := by decide +kernel
theorem cp_dig (d : Nat → Nat) : ∀ n, (∀ j, j < n → d j < 4) → ∃ p, p < 2 ^ (2 * n) ∧ ∀ j, j < n → cp_sv p j = d j
  | 0, _ => ⟨0, by decide, fun j h => by omega⟩
  | n + 1, h => by
    obtain ⟨p, hp, hd⟩ := cp_dig d n (fun j hj => h j (by omega))
    have hdn := h n (by omega)
    refine ⟨p + 2 ^ (2 * n) * d n, ?_, ?_⟩
    · have e : 2 ^ (2 * (n + 1)) = 2 ^ (2 * n) * 4 := by
        rw [show 2 * (n + 1) = 2 * n + 2 from by omega, Nat.pow_add]
      have k : 2 ^ (2 * n) * d n ≤ 2 ^ (2 * n) * 3 := Nat.mul_le_mul_left _ (by omega)
      rw [e]
      omega
    · intro j hj
      by_cases c : j = n
      · subst c
        unfold cp_sv
        rw [Nat.add_mul_div_left _ _ (Nat.two_pow_pos _), Nat.div_eq_of_lt hp]
        omega
      · have e : 2 ^ (2 * n) = 2 ^ (2 * j) * (2 ^ 2 * 2 ^ (2 * (n - j - 1))) := by
          rw [← Nat.pow_add, ← Nat.pow_add]
          congr 1
          omega
        rw [← hd j (by omega)]
        unfold cp_sv
        rw [e, Nat.mul_assoc, Nat.add_mul_div_left _ _ (Nat.two_pow_pos _), Nat.mul_assoc]
        exact Nat.add_mul_mod_self_left _ 4 _
/-! lengths: L x is the greatest sum of times on a way to x so far, -1 where there is none -/
def cp_st (F T : Nat → Nat) (tm : Nat → Int) (e j : Nat) (L : Nat → Int) (x : Nat) : Int :=
  if F j = e ∧ 0 ≤ L e ∧ x = T j ∧ L x < L e + tm j then L e + tm j else L x
def cp_in (F T : Nat → Nat) (tm : Nat → Int) (e : Nat) : Nat → (Nat → Int) → Nat → Int
  | 0, L => L
  | j + 1, L => cp_st F T tm e j (cp_in F T tm e j L)
def cp_out (F T : Nat → Nat) (tm : Nat → Int) (n : Nat) : Nat → Nat → Int
  | 0 => fun x => if x = 0 then 0 else -1
  | e + 1 => cp_in F T tm e n (cp_out F T tm n e)
def cp_K (L : Nat → Int) : Prop := ∀ x, -1 ≤ L x ∧ L x ≤ 9 * (x : Int)
theorem cp_K_st {F T : Nat → Nat} {tm : Nat → Int} {e j : Nat} {L : Nat → Int} (h : cp_K L) (h1 : F j < T j) (h2 : 0 ≤ tm j) (h3 : tm j ≤ 9) : cp_K (cp_st F T tm e j L) := by
  intro x
  have a := h x
  have b := h e
  unfold cp_st
  split <;> omega
theorem cp_K_in {F T : Nat → Nat} {tm : Nat → Int} {e : Nat} : ∀ n L, (∀ j, j < n → F j < T j ∧ 0 ≤ tm j ∧ tm j ≤ 9) → cp_K L → cp_K (cp_in F T tm e n L)
  | 0, _, _, hL => hL
  | j + 1, L, h, hL => cp_K_st (cp_K_in j L (fun i hi => h i (by omega)) hL) (h j (by omega)).1 (h j (by omega)).2.1 (h j (by omega)).2.2
theorem cp_K_out {F T : Nat → Nat} {tm : Nat → Int} {n : Nat} (h : ∀ j, j < n → F j < T j ∧ 0 ≤ tm j ∧ tm j ≤ 9) : ∀ e, cp_K (cp_out F T tm n e)
  | 0 => fun x => by
    show -1 ≤ (if x = 0 then (0 : Int) else -1) ∧ (if x = 0 then (0 : Int) else -1) ≤ 9 * (x : Int)
    split <;> omega
  | e + 1 => cp_K_in n _ h (cp_K_out h e)
theorem cp_M_st {F T : Nat → Nat} {tm tm' : Nat → Int} {e j : Nat} {L L' : Nat → Int} (h : ∀ x, L x ≤ L' x) (ht : tm j ≤ tm' j) : ∀ x, cp_st F T tm e j L x ≤ cp_st F T tm' e j L' x := by
  intro x
  have a := h x
  have b := h e
  unfold cp_st
  split <;> split <;> omega
theorem cp_M_in {F T : Nat → Nat} {tm tm' : Nat → Int} {e : Nat} {L L' : Nat → Int} (h : ∀ x, L x ≤ L' x) : ∀ n, (∀ j, j < n → tm j ≤ tm' j) → ∀ x, cp_in F T tm e n L x ≤ cp_in F T tm' e n L' x
  | 0, _ => h
  | j + 1, ht => cp_M_st (cp_M_in h j (fun i hi => ht i (by omega))) (ht j (by omega))
theorem cp_M_out {F T : Nat → Nat} {tm tm' : Nat → Int} {n : Nat} (ht : ∀ j, j < n → tm j ≤ tm' j) : ∀ e x, cp_out F T tm n e x ≤ cp_out F T tm' n e x
  | 0, _ => Int.le_refl _
  | e + 1, x => cp_M_in (cp_M_out ht e) n ht x
theorem cp_out_ext {F T : Nat → Nat} {tm tm' : Nat → Int} {n : Nat} (ht : ∀ j, j < n → tm j = tm' j) (e x : Nat) : cp_out F T tm n e x = cp_out F T tm' n e x :=
  Int.le_antisymm (cp_M_out (fun j hj => Int.le_of_eq (ht j hj)) e x) (cp_M_out (fun j hj => Int.le_of_eq (ht j hj).symm) e x)
theorem cp_in_skip {F T : Nat → Nat} {tm : Nat → Int} {e : Nat} {L : Nat → Int} (h : L e < 0) : ∀ n, cp_in F T tm e n L = L
  | 0 => rfl
  | j + 1 => by
    show cp_st F T tm e j (cp_in F T tm e j L) = L
    rw [cp_in_skip h j]
    funext x
    unfold cp_st
    exact if_neg (by omega)
theorem cp_in_pos {F T : Nat → Nat} {tm : Nat → Int} {e : Nat} {L : Nat → Int} (h : 0 ≤ L e) : ∀ n, 0 ≤ cp_in F T tm e n L e
  | 0 => h
  | j + 1 => by
    have ih := cp_in_pos (F := F) (T := T) (tm := tm) h j
    show 0 ≤ cp_st F T tm e j (cp_in F T tm e j L) e
    unfold cp_st
    split <;> omega
/-! the best so far: the least of what stands at deadlines below t, -1 where nothing stands -/
def cp_mn (a b : Int) : Int := if 0 ≤ b ∧ (a < 0 ∨ b < a) then b else a
def cp_B (G : Nat → Int) : Nat → Int
  | 0 => -1
  | t + 1 => cp_mn (cp_B G t) (G t)
theorem cp_mn_r {a b : Int} (ha : -1 ≤ a ∧ a ≤ 420) (hb : -1 ≤ b ∧ b ≤ 420) : -1 ≤ cp_mn a b ∧ cp_mn a b ≤ 420 := by
  unfold cp_mn
  split <;> omega
theorem cp_B_r {G : Nat → Int} (h : ∀ t, -1 ≤ G t ∧ G t ≤ 420) : ∀ t, -1 ≤ cp_B G t ∧ cp_B G t ≤ 420
  | 0 => by
    show -1 ≤ (-1 : Int) ∧ (-1 : Int) ≤ 420
    omega
  | t + 1 => cp_mn_r (cp_B_r h t) (h t)
theorem cp_B_le {G : Nat → Int} {s : Nat} (hs : 0 ≤ G s) : ∀ t, s < t → 0 ≤ cp_B G t ∧ cp_B G t ≤ G s
  | 0, h => by omega
  | t + 1, h => by
    show 0 ≤ cp_mn (cp_B G t) (G t) ∧ cp_mn (cp_B G t) (G t) ≤ G s
    unfold cp_mn
    by_cases e : s = t
    · subst e
      split <;> omega
    · have ih := cp_B_le hs t (by omega)
      split <;> omega
theorem cp_B_at {G : Nat → Int} : ∀ t, 0 ≤ cp_B G t → ∃ s, s < t ∧ 0 ≤ G s ∧ cp_B G t = G s
  | 0, h => by
    have h' : (0 : Int) ≤ -1 := h
    omega
  | t + 1, h => by
    have h' : 0 ≤ cp_mn (cp_B G t) (G t) := h
    show ∃ s, s < t + 1 ∧ 0 ≤ G s ∧ cp_mn (cp_B G t) (G t) = G s
    unfold cp_mn at h' ⊢
    by_cases c : 0 ≤ G t ∧ (cp_B G t < 0 ∨ G t < cp_B G t)
    · exact ⟨t, by omega, c.1, by rw [if_pos c]⟩
    · rw [if_neg c] at h'
      obtain ⟨s, h1, h2, h3⟩ := cp_B_at t h'
      exact ⟨s, by omega, h2, by rw [if_neg c]; exact h3⟩
theorem cp_B_flat {G : Nat → Int} {a : Nat} (h : ∀ t, a ≤ t → G t = -1) : ∀ d, cp_B G (a + d) = cp_B G a
  | 0 => rfl
  | d + 1 => by
    show cp_mn (cp_B G (a + d)) (G (a + d)) = cp_B G a
    rw [h (a + d) (by omega), cp_B_flat h d]
    unfold cp_mn
    exact if_neg (by omega)
/-! what stands at a deadline once N plans are through -/
def cp_lw (G : Nat → Int) (t : Nat) (c : Int) (x : Nat) : Int := if x = t ∧ (G x < 0 ∨ c < G x) then c else G x
def cp_G (ok : Nat → Bool) (ln cs : Nat → Nat) : Nat → Nat → Int
  | 0 => fun _ => -1
  | p + 1 => if ok p = true then cp_lw (cp_G ok ln cs p) (ln p) (cs p : Int) else cp_G ok ln cs p
theorem cp_G_t {ok : Nat → Bool} {ln cs : Nat → Nat} {p : Nat} (h : ok p = true) : cp_G ok ln cs (p + 1) = cp_lw (cp_G ok ln cs p) (ln p) (cs p : Int) := if_pos h
theorem cp_G_f {ok : Nat → Bool} {ln cs : Nat → Nat} {p : Nat} (h : ¬ ok p = true) : cp_G ok ln cs (p + 1) = cp_G ok ln cs p := if_neg h
theorem cp_G_lo (ok : Nat → Bool) (ln cs : Nat → Nat) : ∀ N t, -1 ≤ cp_G ok ln cs N t
  | 0, _ => by
    show (-1 : Int) ≤ -1
    omega
  | p + 1, t => by
    have ih := cp_G_lo ok ln cs p t
    by_cases h : ok p = true
    · rw [cp_G_t h]
      unfold cp_lw
      split <;> omega
    · rw [cp_G_f h]
      exact ih
theorem cp_G_at (ok : Nat → Bool) (ln cs : Nat → Nat) : ∀ N t, 0 ≤ cp_G ok ln cs N t → ∃ q, q < N ∧ ok q = true ∧ ln q = t ∧ cp_G ok ln cs N t = (cs q : Int)
  | 0, t, h => by
    have h' : (0 : Int) ≤ -1 := h
    omega
  | p + 1, t, h => by
    by_cases k : ok p = true
    · rw [cp_G_t k] at h ⊢
      unfold cp_lw at h ⊢
      by_cases c : t = ln p ∧ (cp_G ok ln cs p t < 0 ∨ (cs p : Int) < cp_G ok ln cs p t)
      · exact ⟨p, by omega, k, c.1.symm, by rw [if_pos c]⟩
      · rw [if_neg c] at h
        obtain ⟨q, h1, h2, h3, h4⟩ := cp_G_at ok ln cs p t h
        exact ⟨q, by omega, h2, h3, by rw [if_neg c]; exact h4⟩
    · rw [cp_G_f k] at h ⊢
      obtain ⟨q, h1, h2, h3, h4⟩ := cp_G_at ok ln cs p t h
      exact ⟨q, by omega, h2, h3, h4⟩
theorem cp_G_le (ok : Nat → Bool) (ln cs : Nat → Nat) {q : Nat} (hq : ok q = true) : ∀ N, q < N → 0 ≤ cp_G ok ln cs N (ln q) ∧ cp_G ok ln cs N (ln q) ≤ (cs q : Int)
  | 0, h => by omega
  | p + 1, h => by
    have lo := cp_G_lo ok ln cs p (ln q)
    by_cases k : ok p = true
    · rw [cp_G_t k]
      unfold cp_lw
      by_cases e : q = p
      · subst e
        split <;> omega
      · have ih := cp_G_le ok ln cs hq p (by omega)
        split <;> omega
    · rw [cp_G_f k]
      have e : q ≠ p := fun e => k (e ▸ hq)
      exact cp_G_le ok ln cs hq p (by omega)
/-! the jobs -/
def cp_H (n : Nat) (F T S A P : Nat → Nat) : Prop := ∀ j, j < n → F j < T j ∧ T j ≤ 5 ∧ A j ≤ S j ∧ S j ≤ 9 ∧ S j ≤ A j + 3 ∧ 1 ≤ P j ∧ P j ≤ 20
def cp_ok (S A : Nat → Nat) (n p : Nat) : Bool := decide (∀ j, j < n → cp_sv p j + A j ≤ S j)
theorem cp_okI {S A : Nat → Nat} {n p : Nat} : cp_ok S A n p = true ↔ ∀ j, j < n → cp_sv p j + A j ≤ S j := by
  unfold cp_ok
  exact decide_eq_true_iff
def cp_tm (S : Nat → Nat) (p j : Nat) : Int := (S j : Int) - (cp_sv p j : Int)
def cp_ln (F T S : Nat → Nat) (n p : Nat) : Nat := (cp_out F T (cp_tm S p) n 5 5).toNat
def cp_lf (F T A : Nat → Nat) (n : Nat) : Nat := (cp_out F T (fun j => (A j : Int)) n 5 5).toNat
def cp_cs (P : Nat → Nat) (p : Nat) : Nat → Nat
  | 0 => 0
  | j + 1 => cp_cs P p j + P j * cp_sv p j
def cp_GG (F T S A P : Nat → Nat) (n : Nat) : Nat → Int := cp_G (cp_ok S A n) (cp_ln F T S n) (fun p => cp_cs P p n) (2 ^ (2 * n))
def cp_CV (F T S A P : Nat → Nat) (n t : Nat) : Int := cp_B (cp_GG F T S A P n) (t + 1)
theorem cp_csb {P : Nat → Nat} (p : Nat) : ∀ n, (∀ j, j < n → P j ≤ 20) → cp_cs P p n ≤ 60 * n
  | 0, _ => Nat.le_refl _
  | n + 1, h => by
    have ih := cp_csb p n (fun j hj => h j (by omega))
    have k := Nat.mul_le_mul (h n (by omega)) (cp_sv3 p n)
    show cp_cs P p n + P n * cp_sv p n ≤ 60 * (n + 1)
    omega
theorem cp_cs0 (P : Nat → Nat) : ∀ n, cp_cs P 0 n = 0
  | 0 => rfl
  | n + 1 => by
    show cp_cs P 0 n + P n * cp_sv 0 n = 0
    rw [cp_cs0 P n, cp_sv0, Nat.mul_zero]
theorem cp_tmb {n p : Nat} {F T S A P : Nat → Nat} (H : cp_H n F T S A P) (ok : cp_ok S A n p = true) : ∀ j, j < n → F j < T j ∧ 0 ≤ cp_tm S p j ∧ cp_tm S p j ≤ 9 := by
  intro j hj
  have h := H j hj
  have k := cp_okI.mp ok j hj
  unfold cp_tm
  omega
theorem cp_ln45 {n p : Nat} {F T S A P : Nat → Nat} (H : cp_H n F T S A P) (ok : cp_ok S A n p = true) : cp_ln F T S n p ≤ 45 := by
  have k := cp_K_out (cp_tmb H ok) 5 5
  unfold cp_ln
  omega
theorem cp_cs420 {n : Nat} {F T S A P : Nat → Nat} (hn : n ≤ 7) (H : cp_H n F T S A P) (p : Nat) : cp_cs P p n ≤ 420 := by
  have b := cp_csb (P := P) p n (fun j hj => (H j hj).2.2.2.2.2.2)
  omega
theorem cp_lfle {n p : Nat} {F T S A P : Nat → Nat} (_ : cp_H n F T S A P) (ok : cp_ok S A n p = true) : cp_lf F T A n ≤ cp_ln F T S n p := by
  have k := cp_M_out (F := F) (T := T) (n := n) (tm := fun j => (A j : Int)) (tm' := cp_tm S p) (fun j hj => by
    have h := cp_okI.mp ok j hj
    show (A j : Int) ≤ (S j : Int) - (cp_sv p j : Int)
    omega) 5 5
  unfold cp_lf cp_ln
  omega
theorem cp_fast {n : Nat} {F T S A P : Nat → Nat} (H : cp_H n F T S A P) : ∃ q, q < 2 ^ (2 * n) ∧ cp_ok S A n q = true ∧ cp_ln F T S n q = cp_lf F T A n := by
  obtain ⟨q, hq, hd⟩ := cp_dig (fun j => S j - A j) n (fun j hj => by
    have h := H j hj
    show S j - A j < 4
    omega)
  have hd' : ∀ j, j < n → cp_sv q j = S j - A j := hd
  refine ⟨q, hq, cp_okI.mpr (fun j hj => ?_), ?_⟩
  · have h := H j hj
    rw [hd' j hj]
    omega
  · have e := cp_out_ext (F := F) (T := T) (n := n) (tm := cp_tm S q) (tm' := fun j => (A j : Int)) (fun j hj => by
      have h := H j hj
      have d := hd' j hj
      show (S j : Int) - (cp_sv q j : Int) = (A j : Int)
      omega) 5 5
    unfold cp_ln cp_lf
    rw [e]
theorem cp_ok0 {n : Nat} {F T S A P : Nat → Nat} (H : cp_H n F T S A P) : cp_ok S A n 0 = true := cp_okI.mpr (fun j hj => by
  have h := H j hj
  rw [cp_sv0]
  omega)
theorem cp_Gr {n : Nat} {F T S A P : Nat → Nat} (hn : n ≤ 7) (H : cp_H n F T S A P) (N t : Nat) : -1 ≤ cp_G (cp_ok S A n) (cp_ln F T S n) (fun p => cp_cs P p n) N t ∧ cp_G (cp_ok S A n) (cp_ln F T S n) (fun p => cp_cs P p n) N t ≤ 420 := by
  have lo := cp_G_lo (cp_ok S A n) (cp_ln F T S n) (fun p => cp_cs P p n) N t
  refine ⟨lo, ?_⟩
  by_cases h : 0 ≤ cp_G (cp_ok S A n) (cp_ln F T S n) (fun p => cp_cs P p n) N t
  · obtain ⟨q, h1, h2, h3, h4⟩ := cp_G_at (cp_ok S A n) (cp_ln F T S n) (fun p => cp_cs P p n) N t h
    have b := cp_cs420 hn H q
    have h5 : cp_G (cp_ok S A n) (cp_ln F T S n) (fun p => cp_cs P p n) N t = (cp_cs P q n : Int) := h4
    omega
  · omega
theorem cp_GGr {n : Nat} {F T S A P : Nat → Nat} (hn : n ≤ 7) (H : cp_H n F T S A P) : ∀ t, -1 ≤ cp_GG F T S A P n t ∧ cp_GG F T S A P n t ≤ 420 := cp_Gr hn H (2 ^ (2 * n))
theorem cp_GG46 {n : Nat} {F T S A P : Nat → Nat} (H : cp_H n F T S A P) : ∀ t, 46 ≤ t → cp_GG F T S A P n t = -1 := by
  intro t ht
  have lo : -1 ≤ cp_GG F T S A P n t := cp_G_lo _ _ _ _ _
  by_cases h : 0 ≤ cp_GG F T S A P n t
  · obtain ⟨q, h1, h2, h3, h4⟩ := cp_G_at (cp_ok S A n) (cp_ln F T S n) (fun p => cp_cs P p n) (2 ^ (2 * n)) t h
    have b := cp_ln45 H h2
    omega
  · omega
theorem cp_CVr {n : Nat} {F T S A P : Nat → Nat} (hn : n ≤ 7) (H : cp_H n F T S A P) (t : Nat) : -1 ≤ cp_CV F T S A P n t ∧ cp_CV F T S A P n t ≤ 420 := cp_B_r (cp_GGr hn H) (t + 1)
/-- the curve gives something from the fast plan's length on -/
theorem cp_CVf {n : Nat} {F T S A P : Nat → Nat} (H : cp_H n F T S A P) (t : Nat) : 0 ≤ cp_CV F T S A P n t ↔ cp_lf F T A n ≤ t := by
  constructor
  · intro h
    obtain ⟨s, h1, h2, h3⟩ := cp_B_at (G := cp_GG F T S A P n) (t + 1) h
    obtain ⟨q, k1, k2, k3, k4⟩ := cp_G_at (cp_ok S A n) (cp_ln F T S n) (fun p => cp_cs P p n) (2 ^ (2 * n)) s h2
    have b := cp_lfle H k2
    omega
  · intro h
    obtain ⟨q, k1, k2, k3⟩ := cp_fast H
    have g : 0 ≤ cp_GG F T S A P n (cp_ln F T S n q) := (cp_G_le (cp_ok S A n) (cp_ln F T S n) (fun p => cp_cs P p n) k2 (2 ^ (2 * n)) k1).1
    rw [k3] at g
    exact (cp_B_le (G := cp_GG F T S A P n) g (t + 1) (by omega)).1
theorem cp_lf45 {n : Nat} {F T S A P : Nat → Nat} (H : cp_H n F T S A P) : cp_lf F T A n ≤ 45 := Nat.le_trans (cp_lfle H (cp_ok0 H)) (cp_ln45 H (cp_ok0 H))
/-- from 45 on it gives 0: the slow plan -/
theorem cp_CV45 {n : Nat} {F T S A P : Nat → Nat} (H : cp_H n F T S A P) {t : Nat} (ht : 45 ≤ t) : cp_CV F T S A P n t = 0 := by
  have fl := cp_B_flat (G := cp_GG F T S A P n) (a := 46) (cp_GG46 H) (t - 45)
  have e : 46 + (t - 45) = t + 1 := by omega
  rw [e] at fl
  have g : 0 ≤ cp_GG F T S A P n (cp_ln F T S n 0) ∧ cp_GG F T S A P n (cp_ln F T S n 0) ≤ (cp_cs P 0 n : Int) := cp_G_le (cp_ok S A n) (cp_ln F T S n) (fun p => cp_cs P p n) (cp_ok0 H) (2 ^ (2 * n)) (Nat.two_pow_pos _)
  have c0 := cp_cs0 P n
  have l := cp_ln45 H (cp_ok0 H)
  have b := cp_B_le (G := cp_GG F T S A P n) g.1 46 (by omega)
  unfold cp_CV
  rw [fl]
  omega
end
section
/-! part 02: the least sum, the job list in its five arrays, what a drop moves -/
def cp_Mi (s : Nat → Int) (lf m : Nat) (v : Int) : Prop := (∃ t, lf ≤ t ∧ t < m ∧ v = s t) ∧ ∀ t, lf ≤ t → t < m → v ≤ s t
theorem cp_MiU {s : Nat → Int} {lf m : Nat} {v v' : Int} (h : cp_Mi s lf m v) (h' : cp_Mi s lf m v') : v = v' := by
  obtain ⟨⟨t, a, b, c⟩, d⟩ := h
  obtain ⟨⟨t', a', b', c'⟩, d'⟩ := h'
  have e1 := d t' a' b'
  have e2 := d' t a b
  omega
def cp_XI (s : Nat → Int) (lf t : Nat) (v : Int) : Prop := (v = s 45 ∨ ∃ x, lf ≤ x ∧ x < t ∧ v = s x) ∧ v ≤ s 45 ∧ ∀ x, lf ≤ x → x < t → v ≤ s x
theorem cp_XI_0 {s : Nat → Int} {lf : Nat} : cp_XI s lf lf (s 45) := ⟨Or.inl rfl, Int.le_refl _, fun x h1 h2 => by omega⟩
theorem cp_XI_lt {s : Nat → Int} {lf t : Nat} {v : Int} (h : cp_XI s lf t v) (ht : lf ≤ t) (c : s t < v) : cp_XI s lf (t + 1) (s t) := by
  obtain ⟨_, h2, h3⟩ := h
  refine ⟨Or.inr ⟨t, ht, by omega, rfl⟩, by omega, fun x a b => ?_⟩
  by_cases e : x = t
  · subst e
    exact Int.le_refl _
  · have k := h3 x a (by omega)
    omega
theorem cp_XI_ge {s : Nat → Int} {lf t : Nat} {v : Int} (h : cp_XI s lf t v) (c : v ≤ s t) : cp_XI s lf (t + 1) v := by
  obtain ⟨h1, h2, h3⟩ := h
  refine ⟨?_, h2, fun x a b => ?_⟩
  · rcases h1 with h1 | ⟨x, a, b, e⟩
    · exact Or.inl h1
    · exact Or.inr ⟨x, a, by omega, e⟩
  · by_cases e : x = t
    · subst e
      exact c
    · exact h3 x a (by omega)
theorem cp_XI_end {s : Nat → Int} {lf : Nat} {v : Int} (h : cp_XI s lf 45 v) (hl : lf ≤ 45) (hs : ∀ t, 45 ≤ t → s 45 ≤ s t) : cp_Mi s lf 64 v := by
  obtain ⟨h1, h2, h3⟩ := h
  refine ⟨?_, fun x a b => ?_⟩
  · rcases h1 with h1 | ⟨x, a, b, e⟩
    · exact ⟨45, hl, by omega, h1⟩
    · exact ⟨x, a, by omega, e⟩
  · by_cases e : x < 45
    · exact h3 x a e
    · have k := hs x (by omega)
      omega
def cp_YI (s : Nat → Int) (lf t : Nat) (v : Int) : Prop := (t ≤ lf ∧ v = -1) ∨ (lf < t ∧ cp_Mi s lf t v)
theorem cp_YI_0 {s : Nat → Int} {lf : Nat} : cp_YI s lf 0 (-1) := Or.inl ⟨Nat.zero_le _, rfl⟩
theorem cp_YI_no {s : Nat → Int} {lf t : Nat} {v : Int} (h : cp_YI s lf t v) (ht : t < lf) : cp_YI s lf (t + 1) v := by
  rcases h with ⟨_, b⟩ | ⟨a, _⟩
  · exact Or.inl ⟨by omega, b⟩
  · omega
theorem cp_YI_lt {s : Nat → Int} {lf t : Nat} {v : Int} (h : cp_YI s lf t v) (ht : lf ≤ t) (c : v < 0 ∨ s t < v) (h0 : ∀ x, lf ≤ x → 0 ≤ s x) : cp_YI s lf (t + 1) (s t) := by
  refine Or.inr ⟨by omega, ⟨t, ht, by omega, rfl⟩, fun x a b => ?_⟩
  by_cases e : x = t
  · subst e
    exact Int.le_refl _
  · rcases h with ⟨k1, _⟩ | ⟨_, ⟨y, y1, y2, y3⟩, k2⟩
    · omega
    · have k3 := k2 x a (by omega)
      have k4 := h0 y y1
      omega
theorem cp_YI_ge {s : Nat → Int} {lf t : Nat} {v : Int} (h : cp_YI s lf t v) (c0 : 0 ≤ v) (c : v ≤ s t) : cp_YI s lf (t + 1) v := by
  rcases h with ⟨_, k⟩ | ⟨k1, ⟨y, y1, y2, y3⟩, k2⟩
  · omega
  · refine Or.inr ⟨by omega, ⟨y, y1, by omega, y3⟩, fun x a b => ?_⟩
    by_cases e : x = t
    · subst e
      exact c
    · exact k2 x a (by omega)
theorem cp_YI_end {s : Nat → Int} {lf : Nat} {v : Int} (h : cp_YI s lf 64 v) (hl : lf ≤ 45) : cp_Mi s lf 64 v := by
  rcases h with ⟨k, _⟩ | ⟨_, k⟩
  · omega
  · exact k
theorem cp_dt {d t : Nat} (hd : d ≤ 200) (ht : t ≤ 64) : d * t ≤ 12800 := Nat.mul_le_mul hd ht
/-! a job, and the job list -/
def cq_N (a : Nat → Int32) (j : Nat) : Nat := (a j).toNatClampNeg
def cp_job (f t s a p : Int32) : Prop := ∃ f' t' s' a' p' : Nat, f = nI f' ∧ t = nI t' ∧ s = nI s' ∧ a = nI a' ∧ p = nI p' ∧ f' < t' ∧ t' ≤ 5 ∧ a' ≤ s' ∧ s' ≤ 9 ∧ s' ≤ a' + 3 ∧ 1 ≤ p' ∧ p' ≤ 20
def cp_J (n : Nat) (fr tq sl fa pr : Nat → Int32) : Prop := ∀ j, j < n → cp_job (fr j) (tq j) (sl j) (fa j) (pr j)
theorem cq_Ne {a : Nat → Int32} {j m : Nat} (h : a j = nI m) (hm : m < 2147483648) : cq_N a j = m := by
  unfold cq_N
  rw [h]
  exact nI_clamp hm
theorem cp_J_H {n : Nat} {fr tq sl fa pr : Nat → Int32} (h : cp_J n fr tq sl fa pr) : cp_H n (cq_N fr) (cq_N tq) (cq_N sl) (cq_N fa) (cq_N pr) := by
  intro j hj
  obtain ⟨f, t, s, a, p, e1, e2, e3, e4, e5, h1, h2, h3, h4, h5, h6, h7⟩ := h j hj
  rw [cq_Ne e1 (by omega), cq_Ne e2 (by omega), cq_Ne e3 (by omega), cq_Ne e4 (by omega), cq_Ne e5 (by omega)]
  exact ⟨h1, h2, h3, h4, h5, h6, h7⟩
theorem cp_J_e {n : Nat} {fr tq sl fa pr : Nat → Int32} (h : cp_J n fr tq sl fa pr) : ∀ j, j < n → fr j = nI (cq_N fr j) ∧ tq j = nI (cq_N tq j) ∧ sl j = nI (cq_N sl j) ∧ fa j = nI (cq_N fa j) ∧ pr j = nI (cq_N pr j) := by
  intro j hj
  obtain ⟨f, t, s, a, p, e1, e2, e3, e4, e5, h1, h2, h3, h4, h5, h6, h7⟩ := h j hj
  rw [cq_Ne e1 (by omega), cq_Ne e2 (by omega), cq_Ne e3 (by omega), cq_Ne e4 (by omega), cq_Ne e5 (by omega)]
  exact ⟨e1, e2, e3, e4, e5⟩
theorem cp_J_add {n : Nat} {fr tq sl fa pr : Nat → Int32} {f t s a p : Int32} (h : cp_J n fr tq sl fa pr) (k : cp_job f t s a p) : cp_J (n + 1) (upd fr n f) (upd tq n t) (upd sl n s) (upd fa n a) (upd pr n p) := by
  intro j hj
  by_cases e : j = n
  · subst e
    rw [pk_us, pk_us, pk_us, pk_us, pk_us]
    exact k
  · rw [pk_un e, pk_un e, pk_un e, pk_un e, pk_un e]
    exact h j (by omega)
theorem cp_J_pr {n m p : Nat} {fr tq sl fa pr : Nat → Int32} (h : cp_J n fr tq sl fa pr) (h1 : 1 ≤ p) (h2 : p ≤ 20) : cp_J n fr tq sl fa (upd pr m (nI p)) := by
  intro j hj
  by_cases e : j = m
  · subst e
    rw [pk_us]
    obtain ⟨f, t, s, a, q, e1, e2, e3, e4, e5, k1, k2, k3, k4, k5, k6, k7⟩ := h j hj
    exact ⟨f, t, s, a, p, e1, e2, e3, e4, rfl, k1, k2, k3, k4, k5, h1, h2⟩
  · rw [pk_un e]
    exact h j hj
/-- what the moving of a drop has made of an array when it stands at i -/
def cp_sh (a : Nat → Int32) (k i : Nat) : Nat → Int32 := fun j => if k ≤ j ∧ j < i then a (j + 1) else a j
theorem cp_sh_0 (a : Nat → Int32) (k : Nat) : cp_sh a k k = a := by
  funext j
  exact if_neg (by omega)
theorem cp_sh_n (a : Nat → Int32) (k i : Nat) : cp_sh a k i (i + 1) = a (i + 1) := if_neg (by omega)
theorem cp_sh_s (a : Nat → Int32) {k i : Nat} (h : k ≤ i) : upd (cp_sh a k i) i (cp_sh a k i (i + 1)) = cp_sh a k (i + 1) := by
  rw [cp_sh_n]
  funext j
  show (if j = i then a (i + 1) else if k ≤ j ∧ j < i then a (j + 1) else a j) = if k ≤ j ∧ j < i + 1 then a (j + 1) else a j
  by_cases e : j = i
  · subst e
    rw [if_pos rfl, if_pos (by omega)]
  · rw [if_neg e]
    by_cases c : k ≤ j ∧ j < i
    · rw [if_pos c, if_pos (by omega)]
    · rw [if_neg c, if_neg (by omega)]
theorem cp_J_drop {n k : Nat} {fr tq sl fa pr : Nat → Int32} (h : cp_J (n + 1) fr tq sl fa pr) : cp_J n (cp_sh fr k n) (cp_sh tq k n) (cp_sh sl k n) (cp_sh fa k n) (cp_sh pr k n) := by
  intro j hj
  unfold cp_sh
  by_cases c : k ≤ j ∧ j < n
  · rw [if_pos c, if_pos c, if_pos c, if_pos c, if_pos c]
    exact h (j + 1) (by omega)
  · rw [if_neg c, if_neg c, if_neg c, if_neg c, if_neg c]
    exact h j (by omega)
/-! arrays that hold a picture -/
def cp_A (m : Nat) (a : Nat → Int32) (L : Nat → Int) : Prop := ∀ x, x < m → a x = cq_I (L x)
theorem cp_A_c {m : Nat} {a : Nat → Int32} {L L' : Nat → Int} (h : cp_A m a L) (e : ∀ x, L' x = L x) : cp_A m a L' := by
  intro x hx
  rw [e x]
  exact h x hx
theorem cp_A_st_y {m : Nat} {a : Nat → Int32} {F T : Nat → Nat} {tm : Nat → Int} {e j : Nat} {L : Nat → Int} (h : cp_A m a L) (h1 : F j = e) (h2 : 0 ≤ L e) (h3 : L (T j) < L e + tm j) : cp_A m (upd a (T j) (cq_I (L e + tm j))) (cp_st F T tm e j L) := by
  intro x hx
  unfold cp_st
  by_cases c : x = T j
  · subst c
    rw [pk_us, if_pos ⟨h1, h2, rfl, h3⟩]
  · rw [pk_un c, if_neg (fun z => c z.2.2.1)]
    exact h x hx
theorem cp_A_st_n {m : Nat} {a : Nat → Int32} {F T : Nat → Nat} {tm : Nat → Int} {e j : Nat} {L : Nat → Int} (h : cp_A m a L) (h3 : ¬ (F j = e ∧ 0 ≤ L e ∧ L (T j) < L e + tm j)) : cp_A m a (cp_st F T tm e j L) := by
  intro x hx
  unfold cp_st
  rw [if_neg (fun z => h3 ⟨z.1, z.2.1, by rw [← z.2.2.1]; exact z.2.2.2⟩)]
  exact h x hx
theorem cp_A_lw_y {m t : Nat} {a : Nat → Int32} {G : Nat → Int} {c : Int} (h : cp_A m a G) (k : G t < 0 ∨ c < G t) : cp_A m (upd a t (cq_I c)) (cp_lw G t c) := by
  intro x hx
  unfold cp_lw
  by_cases e : x = t
  · subst e
    rw [pk_us, if_pos ⟨rfl, k⟩]
  · rw [pk_un e, if_neg (fun z => e z.1)]
    exact h x hx
theorem cp_A_lw_n {m t : Nat} {a : Nat → Int32} {G : Nat → Int} {c : Int} (h : cp_A m a G) (k : ¬ (G t < 0 ∨ c < G t)) : cp_A m a (cp_lw G t c) := by
  intro x hx
  unfold cp_lw
  rw [if_neg (fun z => k (by rw [← z.1]; exact z.2))]
  exact h x hx
theorem cp_A_0 {F T : Nat → Nat} {tm : Nat → Int} {n : Nat} {a : Nat → Int32} (h : ∀ x, x < 6 → a x = -1) : cp_A 6 (upd a 0 0) (cp_out F T tm n 0) := by
  intro x hx
  show upd a 0 0 x = cq_I (if x = 0 then 0 else -1)
  by_cases c : x = 0
  · subst c
    rw [pk_us, if_pos rfl]
    exact cq_0
  · rw [pk_un c, if_neg c, h x hx]
    exact cq_m1
/-- what the spreading has made when it stands at d -/
def cp_sp (G : Nat → Int) (d x : Nat) : Int := if x < d then cp_B G (x + 1) else G x
theorem cp_sp_0 {G : Nat → Int} (lo : ∀ t, -1 ≤ G t) (x : Nat) : cp_sp G 1 x = G x := by
  unfold cp_sp
  by_cases c : x < 1
  · rw [if_pos c]
    have e : x = 0 := by omega
    subst e
    have l := lo 0
    show cp_mn (-1) (G 0) = G 0
    unfold cp_mn
    split <;> omega
  · rw [if_neg c]
theorem cp_sp_n {G : Nat → Int} (lo : ∀ t, -1 ≤ G t) {d : Nat} (h : cp_B G d = -1) (x : Nat) : cp_sp G (d + 1) x = cp_sp G d x := by
  unfold cp_sp
  by_cases c : x < d
  · rw [if_pos c, if_pos (by omega)]
  · rw [if_neg c]
    by_cases e : x = d
    · subst e
      have l := lo x
      rw [if_pos (by omega)]
      show cp_mn (cp_B G x) (G x) = G x
      rw [h]
      unfold cp_mn
      split <;> omega
    · rw [if_neg (by omega)]
theorem cp_sp_y {G : Nat → Int} (lo : ∀ t, -1 ≤ G t) {d : Nat} (h : 0 ≤ cp_B G d) (x : Nat) : cp_sp G (d + 1) x = cp_lw (cp_sp G d) d (cp_B G d) x := by
  unfold cp_lw cp_sp
  by_cases e : x = d
  · subst e
    have l := lo x
    rw [if_pos (show x < x + 1 from by omega), if_neg (show ¬ x < x from by omega)]
    show cp_mn (cp_B G x) (G x) = _
    unfold cp_mn
    split <;> split <;> omega
  · by_cases c : x < d
    · rw [if_pos (show x < d + 1 from by omega), if_pos c]
      exact (if_neg (fun z => e z.1)).symm
    · rw [if_neg (show ¬ x < d + 1 from by omega), if_neg c]
      exact (if_neg (fun z => e z.1)).symm
def cp_E (n : Nat) (fr tq sl fa pr : Nat → Int32) (F T S A P : Nat → Nat) : Prop := ∀ j, j < n → fr j = nI (F j) ∧ tq j = nI (T j) ∧ sl j = nI (S j) ∧ fa j = nI (A j) ∧ pr j = nI (P j)
theorem cp_mn_y {a b : Int} (h : 0 ≤ b ∧ (a < 0 ∨ b < a)) : cp_mn a b = b := if_pos h
theorem cp_mn_n {a b : Int} (h : ¬ (0 ≤ b ∧ (a < 0 ∨ b < a))) : cp_mn a b = a := if_neg h
end
section
/-! part 03: the component's own methods against the pictures -/
section
variable {n : Nat} {fr tq sl fa pr : Nat → Int32} {F T S A P : Nat → Nat}
theorem cx_sv {post : Int32 → Prop} {p j : Nat} (hp : p < 2147483648) (hj : j < 8) (h : post (nI (cp_sv p j))) : wpX_savedBy post (nI p) (nI j) := by
  unfold wpX_savedBy
  rw [cq_sv (by omega) hj]
  exact h
theorem cx_fj {post : SX → Prop} {p e : Nat} {cs : Int32} {cur : Nat → Int32} {L : Nat → Int} (hn : n ≤ 7) (E : cp_E n fr tq sl fa pr F T S A P) (H : cp_H n F T S A P) (hp : p < 16384) (ok : cp_ok S A n p = true) (he : e < 5) (h0 : 0 ≤ L e) (hK : cp_K L)
    (hpost : ∀ rch', cp_A 6 rch' (cp_in F T (cp_tm S p) e n L) → post (nI n, cs, fr, tq, sl, fa, pr, rch', cur)) :
    ∀ d j rch, j + d = n → cp_A 6 rch (cp_in F T (cp_tm S p) e j L) → wX_followJobs_2 post (nI p) (nI e) (nI n) cs (d + 1) (nI j) fr tq sl fa pr rch cur := by
  intro d
  induction d with
  | zero =>
    intro j rch hj hA
    have hj' : j = n := by omega
    rw [hj'] at hA
    exact br_t (nI_le (by omega) (by omega)) (hpost rch hA)
  | succ d ih =>
    intro j rch hj hA
    have hj1 : j < n := by omega
    have cj : (nI j).toNatClampNeg = j := nI_clamp (by omega)
    have ce : (nI e).toNatClampNeg = e := nI_clamp (by omega)
    obtain ⟨e1, e2, e3, e4, e5⟩ := E j hj1
    obtain ⟨h1, h2, h3, h4, h5, h6, h7⟩ := H j hj1
    have ct : (nI (T j)).toNatClampNeg = T j := nI_clamp (by omega)
    have tb := cp_tmb H ok j hj1
    have K := cp_K_in (e := e) j L (fun i hi => cp_tmb H ok i (by omega)) hK
    have p0 := cp_in_pos (F := F) (T := T) (tm := cp_tm S p) h0 j
    have Ke := K e
    have Kt := K (T j)
    have st : ∀ rch', cp_A 6 rch' (cp_st F T (cp_tm S p) e j (cp_in F T (cp_tm S p) e j L)) → ∀ x, x = nI j + 1 → wX_followJobs_2 post (nI p) (nI e) (nI n) cs (d + 1) x fr tq sl fa pr rch' cur :=
      fun rch' h => nm_r (nI_1 j) (ih (j + 1) rch' (by omega) h)
    have ar : rch e + nI (S j) - nI (cp_sv p j) = cq_I (cp_in F T (cp_tm S p) e j L e + cp_tm S p j) := by
      rw [hA e (by omega), cq_n (S j), cq_n (cp_sv p j), cq_add, cq_sub]
      congr 1
      unfold cp_tm
      omega
    refine br_f (nI_ge (by omega) (by omega)) ⟨vp_in_nI (by omega) (by decide), ?_⟩
    rw [cj, ce, e1, e2, e3, ct]
    by_cases c : F j = e
    · refine br_t (by rw [c]) ⟨vp_in_nI (by omega) (by decide), vp_in_nI (by omega) (by decide), cx_sv (by omega) (by omega) ?_⟩
      refine nm_r ar ⟨vp_in_nI (by omega) (by decide), vp_in_nI (by omega) (by decide), ?_⟩
      exact cq_bLE (cp_in F T (cp_tm S p) e j L e + cp_tm S p j) (cp_in F T (cp_tm S p) e j L (T j)) rfl (hA (T j) (by omega)) (by omega) (by omega) (by omega) (by omega)
        (fun k => st rch (cp_A_st_n hA (by omega)))
        (fun k => ⟨vp_in_nI (by omega) (by decide), vp_in_nI (by omega) (by decide), nm_e (st _ (cp_A_st_y hA c p0 k))⟩)
    · exact br_f (fun z => c ((nI_eq (by omega) (by omega)).mp z)) (st rch (cp_A_st_n hA (fun z => c z.1)))
theorem cx_followJobs {post : SX → Prop} {p e : Nat} {cs : Int32} {rch cur : Nat → Int32} {L : Nat → Int} (hn : n ≤ 7) (E : cp_E n fr tq sl fa pr F T S A P) (H : cp_H n F T S A P) (hp : p < 16384) (ok : cp_ok S A n p = true) (he : e < 5) (h0 : 0 ≤ L e) (hK : cp_K L) (hA : cp_A 6 rch L)
    (hpost : ∀ rch', cp_A 6 rch' (cp_in F T (cp_tm S p) e n L) → post (nI n, cs, fr, tq, sl, fa, pr, rch', cur)) : wpX_followJobs post (nI n, cs, fr, tq, sl, fa, pr, rch, cur) (nI p) (nI e) := by
  show ∃ n2 : Nat, wX_followJobs_2 post (nI p) (nI e) (nI n) cs n2 0 fr tq sl fa pr rch cur
  exact ⟨n + 1, cx_fj hn E H hp ok he h0 hK hpost n 0 rch (by omega) hA⟩
theorem cx_pl30 {post : Int32 → SX → Prop} {p : Nat} {cs : Int32} {cur : Nat → Int32} (hn : n ≤ 7) (E : cp_E n fr tq sl fa pr F T S A P) (H : cp_H n F T S A P) (hp : p < 16384) (ok : cp_ok S A n p = true)
    (hpost : ∀ rch', post (nI (cp_ln F T S n p)) (nI n, cs, fr, tq, sl, fa, pr, rch', cur)) :
    ∀ d e rch, e + d = 5 → cp_A 6 rch (cp_out F T (cp_tm S p) n e) → wX_planLength_30 post (nI p) (d + 1) (nI e) (nI n) cs fr tq sl fa pr rch cur := by
  intro d
  induction d with
  | zero =>
    intro e rch he hA
    obtain rfl : e = 5 := by omega
    have K := cp_K_out (cp_tmb H ok) 5 5
    have h := hpost rch
    refine br_t (nI_le (a := 5) (by omega) (by omega)) ?_
    refine cq_bEQ (cp_out F T (cp_tm S p) n 5 5) (-1) (hA 5 (by omega)) cq_m1 (by omega) (by omega) (by omega) (by omega) (fun k => ?_) (fun k => ?_)
    · have z : cp_ln F T S n p = 0 := by
        unfold cp_ln
        omega
      rw [z] at h
      exact h
    · have z : rch 5 = nI (cp_ln F T S n p) := by
        rw [hA 5 (by omega), cq_n]
        congr 1
        unfold cp_ln
        omega
      rw [z]
      exact h
  | succ d ih =>
    intro e rch he hA
    have ce : (nI e).toNatClampNeg = e := nI_clamp (by omega)
    have K := cp_K_out (cp_tmb H ok) e
    have Ke := K e
    refine br_f (nI_ge (b := 5) (by omega) (by omega)) ⟨vp_in_nI (by omega) (by decide), ?_⟩
    rw [ce]
    refine cq_bEQ (cp_out F T (cp_tm S p) n e e) (-1) (hA e (by omega)) cq_m1 (by omega) (by omega) (by omega) (by omega) (fun k => ?_) (fun k => ?_)
    · have z : cp_out F T (cp_tm S p) n (e + 1) = cp_out F T (cp_tm S p) n e := cp_in_skip (by omega) n
      exact nm_r (nI_1 e) (ih (e + 1) rch (by omega) (by rw [z]; exact hA))
    · exact cx_followJobs hn E H hp ok (by omega) (by omega) K hA (fun rch' h => nm_r (nI_1 e) (ih (e + 1) rch' (by omega) h))
theorem cx_pl2 {post : Int32 → SX → Prop} {p : Nat} {cs : Int32} {cur : Nat → Int32} (hn : n ≤ 7) (E : cp_E n fr tq sl fa pr F T S A P) (H : cp_H n F T S A P) (hp : p < 16384) (ok : cp_ok S A n p = true)
    (hpost : ∀ rch', post (nI (cp_ln F T S n p)) (nI n, cs, fr, tq, sl, fa, pr, rch', cur)) :
    ∀ d e rch, e + d = 6 → (∀ x, x < e → rch x = -1) → wX_planLength_2 post (nI p) (nI n) cs (d + 1) (nI e) fr tq sl fa pr rch cur := by
  intro d
  induction d with
  | zero =>
    intro e rch he hA
    obtain rfl : e = 6 := by omega
    exact br_t (nI_le (a := 6) (by omega) (by omega)) (nm_e ⟨6, cx_pl30 hn E H hp ok hpost 5 0 (upd rch 0 0) rfl (cp_A_0 hA)⟩)
  | succ d ih =>
    intro e rch he hA
    have ce : (nI e).toNatClampNeg = e := nI_clamp (by omega)
    refine br_f (nI_ge (b := 6) (by omega) (by omega)) ⟨vp_in_nI (by omega) (by decide), ?_⟩
    rw [ce]
    refine nm_e (nm_r (nI_1 e) (ih (e + 1) _ (by omega) (fun x hx => ?_)))
    by_cases c : x = e
    · subst c
      exact pk_us
    · rw [pk_un c]
      exact hA x (by omega)
theorem cx_planLength {post : Int32 → SX → Prop} {p : Nat} {cs : Int32} {rch cur : Nat → Int32} (hn : n ≤ 7) (E : cp_E n fr tq sl fa pr F T S A P) (H : cp_H n F T S A P) (hp : p < 16384) (ok : cp_ok S A n p = true)
    (hpost : ∀ rch', post (nI (cp_ln F T S n p)) (nI n, cs, fr, tq, sl, fa, pr, rch', cur)) : wpX_planLength post (nI n, cs, fr, tq, sl, fa, pr, rch, cur) (nI p) := by
  show ∃ n2 : Nat, wX_planLength_2 post (nI p) (nI n) cs n2 0 fr tq sl fa pr rch cur
  exact ⟨7, cx_pl2 hn E H hp ok hpost 6 0 rch rfl (fun x hx => absurd hx (Nat.not_lt_zero x))⟩
theorem cx_isPlan {post : Int32 → Prop} {p : Nat} {cs : Int32} {rch cur : Nat → Int32} (hn : n ≤ 7) (E : cp_E n fr tq sl fa pr F T S A P) (H : cp_H n F T S A P) (hp : p < 16384)
    (hy : cp_ok S A n p = true → post 1) (hN : ¬ cp_ok S A n p = true → post 0) : wpX_isPlan post (nI n, cs, fr, tq, sl, fa, pr, rch, cur) (nI p) := by
  have lp : ∀ d j, j + d = n → (∀ i, i < j → cp_sv p i + A i ≤ S i) → wX_isPlan_2 post (nI p) (nI n) cs fr tq sl fa pr rch cur (d + 1) (nI j) := by
    intro d
    induction d with
    | zero =>
      intro j hj hI
      exact br_t (nI_le (by omega) (by omega)) (hy (cp_okI.mpr (fun i hi => hI i (by omega))))
    | succ d ih =>
      intro j hj hI
      have cj : (nI j).toNatClampNeg = j := nI_clamp (by omega)
      obtain ⟨e1, e2, e3, e4, e5⟩ := E j (by omega)
      obtain ⟨h1, h2, h3, h4, h5, h6, h7⟩ := H j (by omega)
      have s3 := cp_sv3 p j
      refine br_f (nI_ge (by omega) (by omega)) (cx_sv (by omega) (by omega) ⟨vp_in_nI (by omega) (by decide), vp_in_nI (by omega) (by decide), ?_⟩)
      rw [cj, e3, e4, pk_sub h3]
      by_cases c : cp_sv p j ≤ S j - A j
      · refine br_t (nI_le c (by omega)) (nm_r (nI_1 j) (ih (j + 1) (by omega) (fun i hi => ?_)))
        by_cases z : i = j
        · subst z
          omega
        · exact hI i (by omega)
      · refine br_f (nI_ge (by omega) (by omega)) (hN (fun z => ?_))
        have k := cp_okI.mp z j (by omega)
        omega
  show ∃ n2 : Nat, wX_isPlan_2 post (nI p) (nI n) cs fr tq sl fa pr rch cur n2 0
  exact ⟨n + 1, lp n 0 (by omega) (fun i hi => absurd hi (Nat.not_lt_zero i))⟩
theorem cx_planCost {post : Int32 → Prop} {p : Nat} {cs : Int32} {rch cur : Nat → Int32} (hn : n ≤ 7) (E : cp_E n fr tq sl fa pr F T S A P) (hp : p < 16384)
    (h : post (nI (cp_cs P p n))) : wpX_planCost post (nI n, cs, fr, tq, sl, fa, pr, rch, cur) (nI p) := by
  have lp : ∀ d j, j + d = n → wX_planCost_4 post (nI p) (nI n) cs fr tq sl fa pr rch cur (d + 1) (nI (cp_cs P p j)) (nI j) := by
    intro d
    induction d with
    | zero =>
      intro j hj
      have hj' : j = n := by omega
      exact br_t (nI_le (by omega) (by omega)) (by rw [hj']; exact h)
    | succ d ih =>
      intro j hj
      have cj : (nI j).toNatClampNeg = j := nI_clamp (by omega)
      obtain ⟨e1, e2, e3, e4, e5⟩ := E j (by omega)
      refine br_f (nI_ge (by omega) (by omega)) ⟨vp_in_nI (by omega) (by decide), cx_sv (by omega) (by omega) ?_⟩
      exact nm_r (e' := nI (cp_cs P p (j + 1))) (by rw [cj, e5, pk_mul]; exact nI_add _ _) (nm_r (nI_1 j) (ih (j + 1) (by omega)))
  show ∃ n4 : Nat, wX_planCost_4 post (nI p) (nI n) cs fr tq sl fa pr rch cur n4 0 0
  exact ⟨n + 1, lp n 0 (by omega)⟩
end
theorem cx_lower {post : SX → Prop} {jb cs y : Int32} {fr tq sl fa pr rch cur : Nat → Int32} {G : Nat → Int} {t : Nat} {c : Int} (ht : t < 46) (hA : cp_A 46 cur G) (hG : -1 ≤ G t ∧ G t ≤ 420) (hc : 0 ≤ c ∧ c ≤ 420) (hy : y = cq_I c)
    (h : ∀ cur', cp_A 46 cur' (cp_lw G t c) → post (jb, cs, fr, tq, sl, fa, pr, rch, cur')) : wpX_lowerCurve post (jb, cs, fr, tq, sl, fa, pr, rch, cur) (nI t) y := by
  subst hy
  have ct : (nI t).toNatClampNeg = t := nI_clamp (by omega)
  have vi : vp_in (nI t) 46 := vp_in_nI ht (by decide)
  unfold wpX_lowerCurve
  dsimp only
  rw [ct]
  exact ⟨vi, cq_bEQ (G t) (-1) (hA t ht) cq_m1 (by omega) (by omega) (by omega) (by omega)
    (fun k => ⟨vi, nm_e (h _ (cp_A_lw_y hA (Or.inl (by omega))))⟩)
    (fun k => ⟨vi, cq_bLE (G t) c (hA t ht) rfl (by omega) (by omega) (by omega) (by omega)
      (fun k2 => h _ (cp_A_lw_n hA (by omega)))
      (fun k2 => ⟨vi, nm_e (h _ (cp_A_lw_y hA (Or.inr k2)))⟩)⟩)⟩
theorem cx_spread {post : SX → Prop} {jb cs : Int32} {fr tq sl fa pr rch cur : Nat → Int32} {G : Nat → Int} (hG : ∀ t, -1 ≤ G t ∧ G t ≤ 420) (hA : cp_A 46 cur G)
    (h : ∀ cur', (∀ t, t < 46 → cur' t = cq_I (cp_B G (t + 1))) → post (jb, cs, fr, tq, sl, fa, pr, rch, cur')) : wpX_spreadCurve post (jb, cs, fr, tq, sl, fa, pr, rch, cur) := by
  have lo : ∀ t, -1 ≤ G t := fun t => (hG t).1
  have lp : ∀ d t cur, t + d = 46 → 1 ≤ t → cp_A 46 cur (cp_sp G t) → wX_spreadCurve_2 post (d + 1) (nI t) jb cs fr tq sl fa pr rch cur := by
    intro d
    induction d with
    | zero =>
      intro t cur ht h1 hA
      obtain rfl : t = 46 := by omega
      refine br_t (nI_le (a := 46) (by omega) (by omega)) (h cur (fun x hx => ?_))
      rw [hA x hx]
      unfold cp_sp
      rw [if_pos hx]
    | succ d ih =>
      intro t cur ht h1 hA
      have em : nI t - 1 = nI (t - 1) := pk_sub (b := 1) h1
      have cm : (nI (t - 1)).toNatClampNeg = t - 1 := nI_clamp (by omega)
      have B := cp_B_r hG t
      have hb : cur (t - 1) = cq_I (cp_B G t) := by
        rw [hA (t - 1) (by omega)]
        unfold cp_sp
        rw [if_pos (by omega), Nat.sub_add_cancel h1]
      have hs : cp_sp G t t = G t := by
        unfold cp_sp
        exact if_neg (by omega)
      refine br_f (nI_ge (b := 46) (by omega) (by omega)) ?_
      rw [em, cm]
      refine ⟨vp_in_nI (by omega) (by decide), nm_r hb ?_⟩
      exact cq_bEQ (cp_B G t) (-1) rfl cq_m1 (by omega) (by omega) (by omega) (by omega)
        (fun k => nm_r (nI_1 t) (ih (t + 1) cur (by omega) (by omega) (cp_A_c hA (cp_sp_n lo k))))
        (fun k => cx_lower (G := cp_sp G t) (c := cp_B G t) (by omega) hA (by rw [hs]; exact hG t) (by omega) rfl
          (fun cur' h2 => nm_r (nI_1 t) (ih (t + 1) cur' (by omega) (by omega) (cp_A_c h2 (cp_sp_y lo (by omega))))))
  show ∃ n2 : Nat, wX_spreadCurve_2 post n2 1 jb cs fr tq sl fa pr rch cur
  exact ⟨46, lp 45 1 cur (by omega) (by omega) (cp_A_c hA (cp_sp_0 lo))⟩
section
variable {n : Nat} {fr tq sl fa pr : Nat → Int32} {F T S A P : Nat → Nat}
theorem cx_dc40 {post : SX → Prop} {cs : Int32} (hn : n ≤ 7) (E : cp_E n fr tq sl fa pr F T S A P) (H : cp_H n F T S A P)
    (hpost : ∀ rch' cur', (∀ t, t < 46 → cur' t = cq_I (cp_CV F T S A P n t)) → post (nI n, 1, fr, tq, sl, fa, pr, rch', cur')) :
    ∀ d p rch cur, p + d = 2 ^ (2 * n) → cp_A 46 cur (cp_G (cp_ok S A n) (cp_ln F T S n) (fun p => cp_cs P p n) p) → wX_drawCurve_40 post (nI (2 ^ (2 * n))) (d + 1) (nI p) (nI n) cs fr tq sl fa pr rch cur := by
  have hN := cp_N n (by omega)
  intro d
  induction d with
  | zero =>
    intro p rch cur hp hA
    have hp' : p = 2 ^ (2 * n) := by omega
    rw [hp'] at hA
    exact br_t (nI_le (by omega) (by omega)) (cx_spread (G := cp_GG F T S A P n) (cp_GGr hn H) hA (fun cur' h => hpost rch cur' h))
  | succ d ih =>
    intro p rch cur hp hA
    have hG := cp_Gr hn H p
    refine br_f (nI_ge (by omega) (by omega)) (cx_isPlan hn E H (by omega) (fun k => ?_) (fun k => ?_))
    · refine br_f (by decide) (cx_planLength hn E H (by omega) k (fun rch' => cx_planCost hn E (by omega) ?_))
      have l := cp_ln45 H k
      have c := cp_cs420 hn H p
      exact cx_lower (c := (cp_cs P p n : Int)) (by omega) hA (hG _) (by omega) (cq_n _) (fun cur' h => nm_r (nI_1 p) (ih (p + 1) rch' cur' (by omega) (by rw [cp_G_t k]; exact h)))
    · exact br_t rfl (nm_r (nI_1 p) (ih (p + 1) rch cur (by omega) (by rw [cp_G_f k]; exact hA)))
theorem cx_dc10 {post : SX → Prop} {cs : Int32} {rch : Nat → Int32} (hn : n ≤ 7) (E : cp_E n fr tq sl fa pr F T S A P) (H : cp_H n F T S A P)
    (hpost : ∀ rch' cur', (∀ t, t < 46 → cur' t = cq_I (cp_CV F T S A P n t)) → post (nI n, 1, fr, tq, sl, fa, pr, rch', cur')) :
    ∀ d t cur, t + d = 46 → (∀ x, x < t → cur x = -1) → wX_drawCurve_10 post (nI n) cs (d + 1) (nI t) fr tq sl fa pr rch cur := by
  intro d
  induction d with
  | zero =>
    intro t cur ht hA
    obtain rfl : t = 46 := by omega
    refine br_t (nI_le (a := 46) (by omega) (by omega)) (nm_r (cq_shl n (by omega)) ⟨2 ^ (2 * n) + 1, cx_dc40 hn E H hpost (2 ^ (2 * n)) 0 rch cur (by omega) (fun x hx => ?_)⟩)
    rw [hA x hx]
    exact cq_m1
  | succ d ih =>
    intro t cur ht hA
    have ct : (nI t).toNatClampNeg = t := nI_clamp (by omega)
    refine br_f (nI_ge (b := 46) (by omega) (by omega)) ⟨vp_in_nI (by omega) (by decide), ?_⟩
    rw [ct]
    refine nm_e (nm_r (nI_1 t) (ih (t + 1) _ (by omega) (fun x hx => ?_)))
    by_cases c : x = t
    · subst c
      exact pk_us
    · rw [pk_un c]
      exact hA x (by omega)
theorem cx_draw {post : SX → Prop} {cs : Int32} {rch cur : Nat → Int32} (hn : n ≤ 7) (E : cp_E n fr tq sl fa pr F T S A P) (H : cp_H n F T S A P)
    (I : cs = 0 ∨ cs = 1 ∧ ∀ t, t < 46 → cur t = cq_I (cp_CV F T S A P n t))
    (hpost : ∀ rch' cur', (∀ t, t < 46 → cur' t = cq_I (cp_CV F T S A P n t)) → post (nI n, 1, fr, tq, sl, fa, pr, rch', cur')) : wpX_drawCurve post (nI n, cs, fr, tq, sl, fa, pr, rch, cur) := by
  show (cs = 0 → ∃ n10 : Nat, wX_drawCurve_10 post (nI n) cs n10 0 fr tq sl fa pr rch cur) ∧ (¬ cs = 0 → post (nI n, cs, fr, tq, sl, fa, pr, rch, cur))
  rcases I with rfl | ⟨rfl, hc⟩
  · exact br_t rfl ⟨47, cx_dc10 hn E H hpost 46 0 cur rfl (fun x hx => absurd hx (Nat.not_lt_zero x))⟩
  · exact br_f (by decide) (hpost rch cur hc)
theorem cx_first {post : Int32 → Prop} {jb cs : Int32} {fr' tq' sl' fa' pr' rch cur : Nat → Int32} (hn : n ≤ 7) (H : cp_H n F T S A P) (hc : ∀ t, t < 46 → cur t = cq_I (cp_CV F T S A P n t))
    (h : post (nI (cp_lf F T A n))) : wpX_firstDeadline post (jb, cs, fr', tq', sl', fa', pr', rch, cur) := by
  have l45 := cp_lf45 H
  have lp : ∀ d t, t + d = 45 → t ≤ cp_lf F T A n → wX_firstDeadline_2 post jb cs fr' tq' sl' fa' pr' rch cur (d + 1) (nI t) := by
    intro d
    induction d with
    | zero =>
      intro t ht hl
      have e : cp_lf F T A n = 45 := by omega
      rw [e] at h
      exact br_t (nI_le (a := 45) (by omega) (by omega)) h
    | succ d ih =>
      intro t ht hl
      have ct : (nI t).toNatClampNeg = t := nI_clamp (by omega)
      have r := cp_CVr hn H t
      have f := cp_CVf H t
      refine br_f (nI_ge (b := 45) (by omega) (by omega)) ⟨vp_in_nI (by omega) (by decide), ?_⟩
      rw [ct]
      refine cq_bEQ (cp_CV F T S A P n t) (-1) (hc t (by omega)) cq_m1 (by omega) (by omega) (by omega) (by omega) (fun k => nm_r (nI_1 t) (ih (t + 1) (by omega) (by omega))) (fun k => ?_)
      have e : cp_lf F T A n = t := by omega
      rw [e] at h
      exact h
  show ∃ n2 : Nat, wX_firstDeadline_2 post jb cs fr' tq' sl' fa' pr' rch cur n2 0
  exact ⟨46, lp 45 0 (by omega) (by omega)⟩
theorem cx_at {post : Int32 → Prop} {jb cs : Int32} {fr' tq' sl' fa' pr' rch cur : Nat → Int32} {d : Nat} (H : cp_H n F T S A P) (hd : d < 2147483648) (hc : ∀ t, t < 46 → cur t = cq_I (cp_CV F T S A P n t))
    (h : post (cq_I (cp_CV F T S A P n d))) : wpX_curveAt post (jb, cs, fr', tq', sl', fa', pr', rch, cur) (nI d) := by
  show ((45 : Int32) ≤ nI d → post (cur 45)) ∧ (¬ (45 : Int32) ≤ nI d → (vp_in (nI d) 46 ∧ post (cur (nI d).toNatClampNeg)))
  by_cases c : 45 ≤ d
  · refine br_t (nI_le (a := 45) c (by omega)) ?_
    rw [hc 45 (by omega), cp_CV45 H (t := 45) (by omega), ← cp_CV45 H (t := d) c]
    exact h
  · refine br_f (nI_ge (b := 45) (by omega) (by omega)) ⟨vp_in_nI (by omega) (by decide), ?_⟩
    rw [nI_clamp (by omega), hc d (by omega)]
    exact h
end
end
section
/-! part 04: the reference's own methods against the pictures -/
section
variable {n : Nat} {fr tq sl fa pr : Nat → Int32} {F T S A P : Nat → Nat}
theorem cy_38 {post : Int32 → SY → Prop} {J : Int32 → (Nat → Int32) → (Nat → Int32) → (Nat → Int32) → (Nat → Int32) → (Nat → Int32) → (Nat → Int32) → (Nat → Int32) → (Nat → Int32) → Prop} {e : Nat} {tms chp : Nat → Int32} {tm L : Nat → Int}
    (hn : n ≤ 7) (E : cp_E n fr tq sl fa pr F T S A P) (H : cp_H n F T S A P) (ht : ∀ j, j < n → tms j = cq_I (tm j)) (hb : ∀ j, j < n → F j < T j ∧ 0 ≤ tm j ∧ tm j ≤ 9) (he : e < 5) (hK : cp_K L)
    (hJ : ∀ lt', cp_A 6 lt' (cp_in F T tm e n L) → J (nI (e + 1)) fr tq sl fa pr tms lt' chp) :
    ∀ d i lt, i + d = n → cp_A 6 lt (cp_in F T tm e i L) → wY_length_38 post J (nI e) (nI n) (d + 1) (nI i) fr tq sl fa pr tms lt chp := by
  intro d
  induction d with
  | zero =>
    intro i lt hi hA
    have hi' : i = n := by omega
    rw [hi'] at hA
    exact br_t (nI_le (by omega) (by omega)) (nm_r (nI_1 e) (hJ lt hA))
  | succ d ih =>
    intro i lt hi hA
    have hi1 : i < n := by omega
    have ci : (nI i).toNatClampNeg = i := nI_clamp (by omega)
    have ce : (nI e).toNatClampNeg = e := nI_clamp (by omega)
    obtain ⟨e1, e2, e3, e4, e5⟩ := E i hi1
    obtain ⟨h1, h2, h3, h4, h5, h6, h7⟩ := H i hi1
    have ct : (nI (T i)).toNatClampNeg = T i := nI_clamp (by omega)
    have tb := hb i hi1
    have K := cp_K_in (e := e) i L (fun j hj => hb j (by omega)) hK
    have Ke := K e
    have Kt := K (T i)
    have st : ∀ lt', cp_A 6 lt' (cp_st F T tm e i (cp_in F T tm e i L)) → ∀ x, x = nI i + 1 → wY_length_38 post J (nI e) (nI n) (d + 1) x fr tq sl fa pr tms lt' chp :=
      fun lt' h => nm_r (nI_1 i) (ih (i + 1) lt' (by omega) h)
    have ar : lt e + tms i = cq_I (cp_in F T tm e i L e + tm i) := by
      rw [hA e (by omega), ht i hi1, cq_add]
    have vi : vp_in (nI i) 7 := vp_in_nI (by omega) (by decide)
    have ve : vp_in (nI e) 6 := vp_in_nI (by omega) (by decide)
    have vt : vp_in (nI (T i)) 6 := vp_in_nI (by omega) (by decide)
    refine br_f (nI_ge (by omega) (by omega)) ⟨vi, ?_⟩
    rw [ci, ce, e1, e2, ct]
    by_cases c : F i = e
    · refine br_t (by rw [c]) ⟨ve, ?_⟩
      exact cq_bLT (cp_in F T tm e i L e) 0 (hA e (by omega)) cq_0 (by omega) (by omega) (by omega) (by omega)
        (fun k => st lt (cp_A_st_n hA (by omega)))
        (fun k => ⟨ve, vi, vi, vt, cq_bLE (cp_in F T tm e i L e + tm i) (cp_in F T tm e i L (T i)) ar (hA (T i) (by omega)) (by omega) (by omega) (by omega) (by omega)
          (fun k2 => st lt (cp_A_st_n hA (by omega)))
          (fun k2 => ⟨vi, ve, vi, vt, nm_r (congrArg (upd lt (T i)) ar) (st _ (cp_A_st_y hA c k k2))⟩)⟩)
    · exact br_f (fun z => c ((nI_eq (by omega) (by omega)).mp z)) (st lt (cp_A_st_n hA (fun z => c z.1)))
theorem cy_31 {post : Int32 → SY → Prop} {tms chp : Nat → Int32} {tm : Nat → Int}
    (hn : n ≤ 7) (E : cp_E n fr tq sl fa pr F T S A P) (H : cp_H n F T S A P) (ht : ∀ j, j < n → tms j = cq_I (tm j)) (hb : ∀ j, j < n → F j < T j ∧ 0 ≤ tm j ∧ tm j ≤ 9)
    (hpost : ∀ lt', post (nI (cp_out F T tm n 5 5).toNat) (nI n, fr, tq, sl, fa, pr, tms, lt', chp)) :
    ∀ d e lt, e + d = 5 → cp_A 6 lt (cp_out F T tm n e) → wY_length_31 post (nI n) (d + 1) (nI e) fr tq sl fa pr tms lt chp := by
  intro d
  induction d with
  | zero =>
    intro e lt he hA
    obtain rfl : e = 5 := by omega
    have K := cp_K_out hb 5 5
    have h := hpost lt
    refine br_t (nI_le (a := 5) (by omega) (by omega)) ?_
    refine cq_bLE 0 (cp_out F T tm n 5 5) cq_0 (hA 5 (by omega)) (by omega) (by omega) (by omega) (by omega) (fun k => ?_) (fun k => ?_)
    · have z : lt 5 = nI (cp_out F T tm n 5 5).toNat := by
        rw [hA 5 (by omega), cq_n]
        congr 1
        omega
      rw [z]
      exact h
    · have z : (cp_out F T tm n 5 5).toNat = 0 := by omega
      rw [z] at h
      exact h
  | succ d ih =>
    intro e lt he hA
    exact br_f (nI_ge (b := 5) (by omega) (by omega)) ⟨n + 1, cy_38 (J := wY_length_31 post (nI n) (d + 1)) hn E H ht hb (by omega) (cp_K_out hb e) (fun lt' h => ih (e + 1) lt' (by omega) h) n 0 lt (by omega) hA⟩
theorem cy_2 {post : Int32 → SY → Prop} {tms chp : Nat → Int32} {tm : Nat → Int}
    (hn : n ≤ 7) (E : cp_E n fr tq sl fa pr F T S A P) (H : cp_H n F T S A P) (ht : ∀ j, j < n → tms j = cq_I (tm j)) (hb : ∀ j, j < n → F j < T j ∧ 0 ≤ tm j ∧ tm j ≤ 9)
    (hpost : ∀ lt', post (nI (cp_out F T tm n 5 5).toNat) (nI n, fr, tq, sl, fa, pr, tms, lt', chp)) :
    ∀ d e lt, e + d = 6 → (∀ x, x < e → lt x = cq_I (if x = 0 then 0 else -1)) → wY_length_2 post (nI n) (d + 1) (nI e) fr tq sl fa pr tms lt chp := by
  intro d
  induction d with
  | zero =>
    intro e lt he hA
    obtain rfl : e = 6 := by omega
    exact br_t (nI_le (a := 6) (by omega) (by omega)) ⟨6, cy_31 hn E H ht hb hpost 5 0 lt rfl hA⟩
  | succ d ih =>
    intro e lt he hA
    have ce : (nI e).toNatClampNeg = e := nI_clamp (by omega)
    have ve : vp_in (nI e) 6 := vp_in_nI (by omega) (by decide)
    refine br_f (nI_ge (b := 6) (by omega) (by omega)) ?_
    rw [ce]
    by_cases c : e = 0
    · subst c
      refine br_t rfl ⟨ve, nm_e (nm_r (nI_1 0) (ih 1 _ (by omega) (fun x hx => ?_)))⟩
      obtain rfl : x = 0 := by omega
      rw [pk_us, if_pos rfl]
      exact cq_0
    · refine br_f (nI_ne0 (by omega) (by omega)) ⟨ve, nm_e (nm_r (nI_1 e) (ih (e + 1) _ (by omega) (fun x hx => ?_)))⟩
      by_cases z : x = e
      · subst z
        rw [pk_us, if_neg c]
        exact cq_m1
      · rw [pk_un z]
        exact hA x (by omega)
theorem cy_length {post : Int32 → SY → Prop} {tms lt chp : Nat → Int32} (tm : Nat → Int)
    (hn : n ≤ 7) (E : cp_E n fr tq sl fa pr F T S A P) (H : cp_H n F T S A P) (ht : ∀ j, j < n → tms j = cq_I (tm j)) (hb : ∀ j, j < n → F j < T j ∧ 0 ≤ tm j ∧ tm j ≤ 9)
    (hpost : ∀ lt', post (nI (cp_out F T tm n 5 5).toNat) (nI n, fr, tq, sl, fa, pr, tms, lt', chp)) : wpY_length post (nI n, fr, tq, sl, fa, pr, tms, lt, chp) := by
  show ∃ n2 : Nat, wY_length_2 post (nI n) n2 0 fr tq sl fa pr tms lt chp
  exact ⟨7, cy_2 hn E H ht hb hpost 6 0 lt rfl (fun x hx => absurd hx (Nat.not_lt_zero x))⟩
theorem cy_slowest {post : Int32 → SY → Prop} {tms lt chp : Nat → Int32}
    (hn : n ≤ 7) (E : cp_E n fr tq sl fa pr F T S A P) (H : cp_H n F T S A P)
    (hpost : ∀ tms' lt', post (nI (cp_ln F T S n 0)) (nI n, fr, tq, sl, fa, pr, tms', lt', chp)) : wpY_slowest post (nI n, fr, tq, sl, fa, pr, tms, lt, chp) := by
  have lp : ∀ d j tms, j + d = n → (∀ i, i < j → tms i = cq_I (cp_tm S 0 i)) → wY_slowest_2 post (nI n) (d + 1) (nI j) fr tq sl fa pr tms lt chp := by
    intro d
    induction d with
    | zero =>
      intro j tms hj hA
      exact br_t (nI_le (by omega) (by omega)) (cy_length (cp_tm S 0) hn E H (fun i hi => hA i (by omega)) (cp_tmb H (cp_ok0 H)) (fun lt' => hpost tms lt'))
    | succ d ih =>
      intro j tms hj hA
      have cj : (nI j).toNatClampNeg = j := nI_clamp (by omega)
      have vj : vp_in (nI j) 7 := vp_in_nI (by omega) (by decide)
      have e3 := (E j (by omega)).2.2.1
      refine br_f (nI_ge (by omega) (by omega)) ⟨vj, vj, ?_⟩
      rw [cj]
      refine nm_e (nm_r (nI_1 j) (ih (j + 1) _ (by omega) (fun i hi => ?_)))
      by_cases z : i = j
      · subst z
        rw [pk_us, e3, cq_n]
        congr 1
        unfold cp_tm
        rw [cp_sv0]
        omega
      · rw [pk_un z]
        exact hA i (by omega)
  show ∃ n2 : Nat, wY_slowest_2 post (nI n) n2 0 fr tq sl fa pr tms lt chp
  exact ⟨n + 1, lp n 0 tms (by omega) (fun i hi => absurd hi (Nat.not_lt_zero i))⟩
theorem cy_fastest {post : Int32 → SY → Prop} {tms lt chp : Nat → Int32}
    (hn : n ≤ 7) (E : cp_E n fr tq sl fa pr F T S A P) (H : cp_H n F T S A P)
    (hpost : ∀ tms' lt', post (nI (cp_lf F T A n)) (nI n, fr, tq, sl, fa, pr, tms', lt', chp)) : wpY_fastest post (nI n, fr, tq, sl, fa, pr, tms, lt, chp) := by
  have lp : ∀ d j tms, j + d = n → (∀ i, i < j → tms i = cq_I (A i : Int)) → wY_fastest_2 post (nI n) (d + 1) (nI j) fr tq sl fa pr tms lt chp := by
    intro d
    induction d with
    | zero =>
      intro j tms hj hA
      exact br_t (nI_le (by omega) (by omega)) (cy_length (fun i => (A i : Int)) hn E H (fun i hi => hA i (by omega)) (fun i hi => by
        have h := H i hi
        show F i < T i ∧ 0 ≤ (A i : Int) ∧ (A i : Int) ≤ 9
        omega) (fun lt' => hpost tms lt'))
    | succ d ih =>
      intro j tms hj hA
      have cj : (nI j).toNatClampNeg = j := nI_clamp (by omega)
      have vj : vp_in (nI j) 7 := vp_in_nI (by omega) (by decide)
      have e4 := (E j (by omega)).2.2.2.1
      refine br_f (nI_ge (by omega) (by omega)) ⟨vj, vj, ?_⟩
      rw [cj]
      refine nm_e (nm_r (nI_1 j) (ih (j + 1) _ (by omega) (fun i hi => ?_)))
      by_cases z : i = j
      · subst z
        rw [pk_us, e4, cq_n]
      · rw [pk_un z]
        exact hA i (by omega)
  show ∃ n2 : Nat, wY_fastest_2 post (nI n) n2 0 fr tq sl fa pr tms lt chp
  exact ⟨n + 1, lp n 0 tms (by omega) (fun i hi => absurd hi (Nat.not_lt_zero i))⟩
theorem cy_plan {post : Int32 → SY → Prop} {p : Nat} {tms lt chp : Nat → Int32}
    (hn : n ≤ 7) (E : cp_E n fr tq sl fa pr F T S A P) (H : cp_H n F T S A P) (hp : p < 16384)
    (hy : cp_ok S A n p = true → ∀ tms', (∀ i, i < n → tms' i = cq_I (cp_tm S p i)) → post (nI (cp_cs P p n)) (nI n, fr, tq, sl, fa, pr, tms', lt, chp))
    (hN : ¬ cp_ok S A n p = true → ∀ tms', post (-1) (nI n, fr, tq, sl, fa, pr, tms', lt, chp)) : wpY_plan post (nI n, fr, tq, sl, fa, pr, tms, lt, chp) (nI p) := by
  have lp : ∀ d j tms, j + d = n → (∀ i, i < j → cp_sv p i + A i ≤ S i) → (∀ i, i < j → tms i = cq_I (cp_tm S p i)) → wY_plan_4 post (nI p) (nI n) (d + 1) (nI (cp_cs P p j)) (nI j) fr tq sl fa pr tms lt chp := by
    intro d
    induction d with
    | zero =>
      intro j tms hj hI hA
      have hj' : j = n := by omega
      exact br_t (nI_le (by omega) (by omega)) (by
        rw [hj']
        exact hy (cp_okI.mpr (fun i hi => hI i (by omega))) tms (fun i hi => hA i (by omega)))
    | succ d ih =>
      intro j tms hj hI hA
      have cj : (nI j).toNatClampNeg = j := nI_clamp (by omega)
      have vj : vp_in (nI j) 7 := vp_in_nI (by omega) (by decide)
      obtain ⟨e1, e2, e3, e4, e5⟩ := E j (by omega)
      obtain ⟨h1, h2, h3, h4, h5, h6, h7⟩ := H j (by omega)
      have s3 := cp_sv3 p j
      have td : cp_tm S p j = (S j : Int) - (cp_sv p j : Int) := rfl
      refine br_f (nI_ge (by omega) (by omega)) (nm_r (cq_sv (by omega) (by omega)) ?_)
      rw [cj, e3, e4, e5]
      refine ⟨vj, vj, nm_r (e' := upd tms j (cq_I (cp_tm S p j))) (by rw [cq_n, cq_n, cq_sub]; rfl) ⟨vj, vj, ?_⟩⟩
      rw [pk_us]
      refine cq_bLE (A j : Int) (cp_tm S p j) (cq_n _) rfl (by omega) (by omega) (by omega) (by omega) (fun k => ?_) (fun k => ?_)
      · refine ⟨vj, nm_r (e' := nI (cp_cs P p (j + 1))) (by rw [pk_mul]; exact nI_add _ _) (nm_r (nI_1 j) (ih (j + 1) _ (by omega) (fun i hi => ?_) (fun i hi => ?_)))⟩
        · by_cases z : i = j
          · subst z
            omega
          · exact hI i (by omega)
        · by_cases z : i = j
          · subst z
            exact pk_us
          · rw [pk_un z]
            exact hA i (by omega)
      · refine hN (fun z => ?_) _
        have k2 := cp_okI.mp z j (by omega)
        omega
  show ∃ n4 : Nat, wY_plan_4 post (nI p) (nI n) n4 0 0 fr tq sl fa pr tms lt chp
  exact ⟨n + 1, lp n 0 tms (by omega) (fun i hi => absurd hi (Nat.not_lt_zero i)) (fun i hi => absurd hi (Nat.not_lt_zero i))⟩
theorem cy_55 {post : SY → Prop} {J : Int32 → Int32 → (Nat → Int32) → (Nat → Int32) → (Nat → Int32) → (Nat → Int32) → (Nat → Int32) → (Nat → Int32) → (Nat → Int32) → (Nat → Int32) → Prop} {x1 x2 hd : Int32} {tms lt chp : Nat → Int32} {G : Nat → Int} {t c : Nat}
    (ht : t < 64) (hA : cp_A 64 chp G) (hG : -1 ≤ G t ∧ G t ≤ 420) (hc : c ≤ 420)
    (h : ∀ chp', cp_A 64 chp' (cp_lw G t (c : Int)) → ∀ x, x = x2 + 1 → J x hd fr tq sl fa pr tms lt chp') : wY_curve_55 post J x1 x2 (nI c) (nI t) hd fr tq sl fa pr tms lt chp := by
  have ct : (nI t).toNatClampNeg = t := nI_clamp (by omega)
  have vt : vp_in (nI t) 64 := vp_in_nI ht (by decide)
  unfold wY_curve_55
  rw [ct]
  refine br_f (nI_pos (by omega)) ⟨vt, ?_⟩
  exact cq_bLT (G t) 0 (hA t ht) cq_0 (by omega) (by omega) (by omega) (by omega)
    (fun k => ⟨vt, nm_r (congrArg (upd chp t) (cq_n c)) (h _ (cp_A_lw_y hA (Or.inl k)))⟩)
    (fun k => ⟨vt, cq_bLE (G t) (c : Int) (hA t ht) (cq_n c) (by omega) (by omega) (by omega) (by omega)
      (fun k2 => h _ (cp_A_lw_n hA (by omega)))
      (fun k2 => ⟨vt, nm_r (congrArg (upd chp t) (cq_n c)) (h _ (cp_A_lw_y hA (Or.inr k2)))⟩)⟩)
theorem cy_32 {post : SY → Prop} (hn : n ≤ 7) (E : cp_E n fr tq sl fa pr F T S A P) (H : cp_H n F T S A P)
    (hpost : ∀ tms' lt' chp', cp_A 64 chp' (cp_GG F T S A P n) → post (nI n, fr, tq, sl, fa, pr, tms', lt', chp')) :
    ∀ d p tms lt chp, p + d = 2 ^ (2 * n) → cp_A 64 chp (cp_G (cp_ok S A n) (cp_ln F T S n) (fun p => cp_cs P p n) p) → wY_curve_32 post (nI (2 ^ (2 * n))) (d + 1) (nI p) (nI n) fr tq sl fa pr tms lt chp := by
  have hN := cp_N n (by omega)
  intro d
  induction d with
  | zero =>
    intro p tms lt chp hp hA
    have hp' : p = 2 ^ (2 * n) := by omega
    rw [hp'] at hA
    exact br_t (nI_le (by omega) (by omega)) (hpost tms lt chp hA)
  | succ d ih =>
    intro p tms lt chp hp hA
    have hG := cp_Gr hn H p
    have c4 := cp_cs420 hn H p
    refine br_f (nI_ge (by omega) (by omega)) (cy_plan hn E H (by omega) (fun k tms' ht => ?_) (fun k tms' => ?_))
    · have l := cp_ln45 H k
      refine br_t (nI_pos' (by omega)) (cy_length (cp_tm S p) hn E H ht (cp_tmb H k) (fun lt' => ?_))
      exact cy_55 (t := cp_ln F T S n p) (by omega) hA (hG _) c4 (fun chp' h => nm_r (nI_1 p) (ih (p + 1) tms' lt' chp' (by omega) (by rw [cp_G_t k]; exact h)))
    · exact br_f (by decide) (br_t (by decide) (nm_r (nI_1 p) (ih (p + 1) tms' lt chp (by omega) (by rw [cp_G_f k]; exact hA))))
theorem cy_curve {post : SY → Prop} {tms lt chp : Nat → Int32} (hn : n ≤ 7) (E : cp_E n fr tq sl fa pr F T S A P) (H : cp_H n F T S A P)
    (hpost : ∀ tms' lt' chp', cp_A 64 chp' (cp_GG F T S A P n) → post (nI n, fr, tq, sl, fa, pr, tms', lt', chp')) : wpY_curve post (nI n, fr, tq, sl, fa, pr, tms, lt, chp) := by
  have lp : ∀ d t chp, t + d = 64 → (∀ x, x < t → chp x = -1) → wY_curve_2 post (nI n) (d + 1) (nI t) fr tq sl fa pr tms lt chp := by
    intro d
    induction d with
    | zero =>
      intro t chp ht hA
      obtain rfl : t = 64 := by omega
      refine br_t (nI_le (a := 64) (by omega) (by omega)) (nm_r (cq_shl n (by omega)) ⟨2 ^ (2 * n) + 1, cy_32 hn E H hpost (2 ^ (2 * n)) 0 tms lt chp (by omega) (fun x hx => ?_)⟩)
      rw [hA x hx]
      exact cq_m1
    | succ d ih =>
      intro t chp ht hA
      have ct : (nI t).toNatClampNeg = t := nI_clamp (by omega)
      refine br_f (nI_ge (b := 64) (by omega) (by omega)) ⟨vp_in_nI (by omega) (by decide), ?_⟩
      rw [ct]
      refine nm_e (nm_r (nI_1 t) (ih (t + 1) _ (by omega) (fun x hx => ?_)))
      by_cases c : x = t
      · subst c
        exact pk_us
      · rw [pk_un c]
        exact hA x (by omega)
  show ∃ n2 : Nat, wY_curve_2 post (nI n) n2 0 fr tq sl fa pr tms lt chp
  exact ⟨65, lp 64 0 chp rfl (fun x hx => absurd hx (Nat.not_lt_zero x))⟩
/-- costAt at a deadline below 0 -/
theorem cy_costN {post : Int32 → Prop} {hd x : Int32} {tms lt chp : Nat → Int32} (hx : x < 0) (h : post (-1)) : wpY_costAt post (hd, fr, tq, sl, fa, pr, tms, lt, chp) x := by
  show ∃ n4 : Nat, wY_costAt_4 post x hd fr tq sl fa pr tms lt chp n4 (-1) 0
  exact ⟨1, br_f (by decide) (br_t hx h)⟩
theorem cy_costAt {post : Int32 → Prop} {hd : Int32} {tms lt chp : Nat → Int32} {dl : Nat} (hn : n ≤ 7) (H : cp_H n F T S A P) (hdl : dl < 2147483648) (hA : cp_A 64 chp (cp_GG F T S A P n))
    (h : post (cq_I (cp_CV F T S A P n dl))) : wpY_costAt post (hd, fr, tq, sl, fa, pr, tms, lt, chp) (nI dl) := by
  have hG := cp_GGr hn H
  have lp : ∀ d t, t + d = 64 → t ≤ dl + 1 → wY_costAt_4 post (nI dl) hd fr tq sl fa pr tms lt chp (d + 1) (cq_I (cp_B (cp_GG F T S A P n) t)) (nI t) := by
    intro d
    induction d with
    | zero =>
      intro t ht hl
      obtain rfl : t = 64 := by omega
      refine br_t (nI_le (a := 64) (by omega) (by omega)) ?_
      have e1 : cp_B (cp_GG F T S A P n) 64 = 0 := cp_CV45 H (t := 63) (by omega)
      have e2 := cp_CV45 H (t := dl) (by omega)
      rw [e1, ← e2]
      exact h
    | succ d ih =>
      intro t ht hl
      have ct : (nI t).toNatClampNeg = t := nI_clamp (by omega)
      have vt : vp_in (nI t) 64 := vp_in_nI (by omega) (by decide)
      have B := cp_B_r hG t
      have g := hG t
      have nx : ∀ b, cp_mn (cp_B (cp_GG F T S A P n) t) (cp_GG F T S A P n t) = b → t ≤ dl → ∀ x, x = nI t + 1 → wY_costAt_4 post (nI dl) hd fr tq sl fa pr tms lt chp (d + 1) (cq_I b) x := fun b hb hl2 => nm_r (nI_1 t) (by
        have z := ih (t + 1) (by omega) (by omega)
        have z2 : cp_B (cp_GG F T S A P n) (t + 1) = b := hb
        rw [z2] at z
        exact z)
      refine br_f (nI_ge (b := 64) (by omega) (by omega)) ?_
      by_cases c : dl < t
      · refine br_t (nI_lt c (by omega)) ?_
        have e : t = dl + 1 := by omega
        rw [e]
        exact h
      · refine br_f (nI_nlt (by omega) (by omega)) ⟨vt, ?_⟩
        rw [ct]
        refine cq_bLT (cp_GG F T S A P n t) 0 (hA t (by omega)) cq_0 (by omega) (by omega) (by omega) (by omega) (fun k => nx _ (cp_mn_n (by omega)) (by omega)) (fun k => ?_)
        refine cq_bLT (cp_B (cp_GG F T S A P n) t) 0 rfl cq_0 (by omega) (by omega) (by omega) (by omega) (fun k2 => ⟨vt, nm_r (hA t (by omega)) (nx _ (cp_mn_y (by omega)) (by omega))⟩) (fun k2 => ⟨vt, ?_⟩)
        exact cq_bLE (cp_B (cp_GG F T S A P n) t) (cp_GG F T S A P n t) rfl (hA t (by omega)) (by omega) (by omega) (by omega) (by omega) (fun k3 => nx _ (cp_mn_n (by omega)) (by omega)) (fun k3 => ⟨vt, nm_r (hA t (by omega)) (nx _ (cp_mn_y (by omega)) (by omega))⟩)
  show ∃ n4 : Nat, wY_costAt_4 post (nI dl) hd fr tq sl fa pr tms lt chp n4 (-1) 0
  have z := lp 64 0 rfl (by omega)
  have z2 : cp_B (cp_GG F T S A P n) 0 = -1 := rfl
  rw [z2, ← cq_m1] at z
  exact ⟨65, z⟩
end
end
section
/-! part 05: the relation, the calls that change the jobs -/
theorem pk_ix (x : Int32) {n : Nat} (hn : n < 2 ^ 31) : x < 0 ∨ nI n ≤ x ∨ ∃ j : Nat, j < n ∧ x = nI j := by
  by_cases h : x < 0
  · exact Or.inl h
  · obtain ⟨j, hj, rfl⟩ := nI_of h
    by_cases h2 : j < n
    · exact Or.inr (Or.inr ⟨j, h2, rfl⟩)
    · exact Or.inr (Or.inl (nI_le (by omega) hj))
def cp_S (n : Nat) (cs : Int32) (fr tq sl fa pr cur : Nat → Int32) : Prop := cs = 0 ∨ cs = 1 ∧ ∀ t, t < 46 → cur t = cq_I (cp_CV (cq_N fr) (cq_N tq) (cq_N sl) (cq_N fa) (cq_N pr) n t)
/-- one job list on both sides, each job within its ranges; a curve that stands is the list's -/
def i_Rel (k : Nat) (u : SX) (v : SY) : Prop := ∃ (n : Nat) (cs : Int32) (fr tq sl fa pr rch cur tms lt chp : Nat → Int32), u = (nI n, cs, fr, tq, sl, fa, pr, rch, cur) ∧ v = (nI n, fr, tq, sl, fa, pr, tms, lt, chp) ∧ n ≤ 7 ∧ cp_J n fr tq sl fa pr ∧ cp_S n cs fr tq sl fa pr cur
theorem i_up {k : Nat} {u : SX} {v : SY} (h : i_Rel k u v) : i_Rel (k + 6) u v := h
theorem i_vc0 : wpX_init (fun u => wpY_init (fun v => i_Rel 0 u v)) :=
  ⟨0, 0, fun _ => 0, fun _ => 0, fun _ => 0, fun _ => 0, fun _ => 0, fun _ => 0, fun _ => 0, fun _ => 0, fun _ => 0, fun _ => 0, rfl, rfl, Nat.zero_le 7, fun j hj => absurd hj (Nat.not_lt_zero j), Or.inl rfl⟩
theorem ci_R {k n : Nat} {cs : Int32} {fr tq sl fa pr rch cur tms lt chp : Nat → Int32} (hn : n ≤ 7) (J : cp_J n fr tq sl fa pr) (st : cp_S n cs fr tq sl fa pr cur) : i_Rel k (nI n, cs, fr, tq, sl, fa, pr, rch, cur) (nI n, fr, tq, sl, fa, pr, tms, lt, chp) :=
  ⟨n, cs, fr, tq, sl, fa, pr, rch, cur, tms, lt, chp, rfl, rfl, hn, J, st⟩
/-! add -/
theorem cp_jobI {f t s a p : Int32} : cp_job f t s a p ↔ (¬ f < 0 ∧ ¬ t ≤ f ∧ ¬ 5 < t ∧ ¬ a < 0 ∧ ¬ s < a ∧ ¬ 9 < s ∧ ¬ 3 < s - a ∧ ¬ p < 1 ∧ ¬ 20 < p) := by
  constructor
  · rintro ⟨f', t', s', a', p', rfl, rfl, rfl, rfl, rfl, h1, h2, h3, h4, h5, h6, h7⟩
    refine ⟨nI_pos (by omega), nI_ge h1 (by omega), nI_nlt (a := 5) h2 (by omega), nI_pos (by omega), nI_nlt h3 (by omega), nI_nlt (a := 9) h4 (by omega), ?_, nI_nlt (b := 1) h6 (by omega), nI_nlt (a := 20) h7 (by omega)⟩
    rw [pk_sub h3]
    exact nI_nlt (a := 3) (by omega) (by omega)
  · rintro ⟨h1, h2, h3, h4, h5, h6, h7, h8, h9⟩
    obtain ⟨f', hf, rfl⟩ := nI_of h1
    have t0 : ¬ t < 0 := fun z => h2 (Int32.le_of_lt (Int32.lt_of_lt_of_le z (nI_pos' hf)))
    obtain ⟨t', ht, rfl⟩ := nI_of t0
    obtain ⟨a', ha, rfl⟩ := nI_of h4
    have s0 : ¬ s < 0 := fun z => h5 (Int32.lt_of_lt_of_le z (nI_pos' ha))
    obtain ⟨s', hs, rfl⟩ := nI_of s0
    have p0 : ¬ p < 0 := fun z => h8 (Int32.lt_trans z (by decide))
    obtain ⟨p', hp, rfl⟩ := nI_of p0
    have k2 : ¬ t' ≤ f' := fun z => h2 (nI_le z hf)
    have k3 : ¬ 5 < t' := fun z => h3 (nI_lt (a := 5) z ht)
    have k5 : ¬ s' < a' := fun z => h5 (nI_lt z ha)
    have k6 : ¬ 9 < s' := fun z => h6 (nI_lt (a := 9) z hs)
    rw [pk_sub (by omega)] at h7
    have k7 : ¬ 3 < s' - a' := fun z => h7 (nI_lt (a := 3) z (by omega))
    have k8 : ¬ p' < 1 := fun z => h8 (nI_lt (b := 1) z (by omega))
    have k9 : ¬ 20 < p' := fun z => h9 (nI_lt (a := 20) z hp)
    exact ⟨f', t', s', a', p', rfl, rfl, rfl, rfl, rfl, by omega, by omega, by omega, by omega, by omega, by omega, by omega⟩
theorem cx_add {post : Int32 → SX → Prop} {n : Nat} {cs v1 v2 v3 v4 v5 : Int32} {fr tq sl fa pr rch cur : Nat → Int32} (hn : n ≤ 7)
    (hy : n < 7 → cp_job v1 v2 v3 v4 v5 → post (nI (n + 1)) (nI (n + 1), 0, upd fr n v1, upd tq n v2, upd sl n v3, upd fa n v4, upd pr n v5, rch, cur))
    (hN : ¬ (n < 7 ∧ cp_job v1 v2 v3 v4 v5) → post (-1) (nI n, cs, fr, tq, sl, fa, pr, rch, cur)) : wpX_add post (nI n, cs, fr, tq, sl, fa, pr, rch, cur) v1 v2 v3 v4 v5 := by
  have cn : (nI n).toNatClampNeg = n := nI_clamp (by omega)
  unfold wpX_add wpX_eventsFit wpX_timesFit wpX_priceFits
  dsimp only
  rw [cn]
  refine br_c (fun h => hN (fun c => nI_ge (b := 7) c.1 (by omega) h)) (fun h0 => ?_)
  have n7 : n < 7 := Nat.lt_of_not_le (fun z => h0 (nI_le (a := 7) z (by omega)))
  have vn : vp_in (nI n) 7 := vp_in_nI n7 (by decide)
  refine br_c (fun h => br_t rfl (hN (fun c => (cp_jobI.mp c.2).1 h))) (fun h1 => ?_)
  refine br_c (fun h => br_t rfl (hN (fun c => (cp_jobI.mp c.2).2.1 h))) (fun h2 => ?_)
  refine br_c (fun h => br_t rfl (hN (fun c => (cp_jobI.mp c.2).2.2.1 h))) (fun h3 => br_f (by decide) ?_)
  refine br_c (fun h => br_t rfl (hN (fun c => (cp_jobI.mp c.2).2.2.2.1 h))) (fun h4 => ?_)
  refine br_c (fun h => br_t rfl (hN (fun c => (cp_jobI.mp c.2).2.2.2.2.1 h))) (fun h5 => ?_)
  refine br_c (fun h => br_t rfl (hN (fun c => (cp_jobI.mp c.2).2.2.2.2.2.1 h))) (fun h6 => ?_)
  refine br_c (fun h => br_t rfl (hN (fun c => (cp_jobI.mp c.2).2.2.2.2.2.2.1 h))) (fun h7 => br_f (by decide) ?_)
  refine br_c (fun h => br_t rfl (hN (fun c => (cp_jobI.mp c.2).2.2.2.2.2.2.2.1 h))) (fun h8 => ?_)
  refine br_c (fun h => br_t rfl (hN (fun c => (cp_jobI.mp c.2).2.2.2.2.2.2.2.2 h))) (fun h9 => br_f (by decide) ?_)
  exact ⟨vn, nm_e ⟨vn, nm_e ⟨vn, nm_e ⟨vn, nm_e ⟨vn, nm_e (nm_r (nI_1 n) (hy n7 (cp_jobI.mpr ⟨h1, h2, h3, h4, h5, h6, h7, h8, h9⟩)))⟩⟩⟩⟩⟩
theorem cy_add {post : Int32 → SY → Prop} {n : Nat} {v1 v2 v3 v4 v5 : Int32} {fr tq sl fa pr tms lt chp : Nat → Int32} (hn : n ≤ 7)
    (hy : n < 7 → cp_job v1 v2 v3 v4 v5 → post (nI (n + 1)) (nI (n + 1), upd fr n v1, upd tq n v2, upd sl n v3, upd fa n v4, upd pr n v5, tms, lt, chp))
    (hN : ¬ (n < 7 ∧ cp_job v1 v2 v3 v4 v5) → post (-1) (nI n, fr, tq, sl, fa, pr, tms, lt, chp)) : wpY_add post (nI n, fr, tq, sl, fa, pr, tms, lt, chp) v1 v2 v3 v4 v5 := by
  have cn : (nI n).toNatClampNeg = n := nI_clamp (by omega)
  unfold wpY_add wpY_badPrice
  dsimp only
  rw [cn]
  refine br_c (fun h => hN (fun c => by
    have z : n = 7 := (nI_eq (b := 7) (by omega) (by omega)).mp h
    omega)) (fun h0 => ?_)
  have n7 : n < 7 := by
    have z : n ≠ 7 := fun e => h0 (by rw [e]; rfl)
    omega
  have vn : vp_in (nI n) 7 := vp_in_nI n7 (by decide)
  refine br_c (fun h => hN (fun c => (cp_jobI.mp c.2).1 h)) (fun h1 => ?_)
  refine br_c (fun h => hN (fun c => (cp_jobI.mp c.2).2.1 h)) (fun h2 => ?_)
  refine br_c (fun h => hN (fun c => (cp_jobI.mp c.2).2.2.1 h)) (fun h3 => ?_)
  refine br_c (fun h => br_f (by decide) (hN (fun c => (cp_jobI.mp c.2).2.2.2.2.2.2.2.1 h))) (fun h8 => ?_)
  refine br_c (fun h9 => br_t rfl ?_) (fun h => br_f (by decide) (hN (fun c => h (Int32.not_lt.mp (cp_jobI.mp c.2).2.2.2.2.2.2.2.2))))
  refine br_c (fun h => hN (fun c => (cp_jobI.mp c.2).2.2.2.1 h)) (fun h4 => ?_)
  refine br_c (fun h => hN (fun c => (cp_jobI.mp c.2).2.2.2.2.1 h)) (fun h5 => ?_)
  refine br_c (fun h => hN (fun c => (cp_jobI.mp c.2).2.2.2.2.2.1 h)) (fun h6 => ?_)
  refine br_c (fun h7 => ?_) (fun h => hN (fun c => h (Int32.not_lt.mp (cp_jobI.mp c.2).2.2.2.2.2.2.1)))
  exact ⟨vn, nm_e ⟨vn, nm_e ⟨vn, nm_e ⟨vn, nm_e ⟨vn, nm_e (nm_r (nI_1 n) (hy n7 (cp_jobI.mpr ⟨h1, h2, h3, h4, h5, h6, Int32.not_lt.mpr h7, h8, Int32.not_lt.mpr h9⟩)))⟩⟩⟩⟩⟩
theorem i_vc_add {k : Nat} {u : SX} {v : SY} (I : i_Rel k u v) (hk : k + 6 ≤ 3072) (v1 : Int32) (v2 : Int32) (v3 : Int32) (v4 : Int32) (v5 : Int32) : wpX_add (fun r u' => wpY_add (fun r' v' => r' = r ∧ i_Rel (k + 6) u' v') v v1 v2 v3 v4 v5) u v1 v2 v3 v4 v5 := by
  obtain ⟨n, cs, fr, tq, sl, fa, pr, rch, cur, tms, lt, chp, rfl, rfl, hn, J, st⟩ := I
  exact cx_add hn
    (fun n7 jb => cy_add hn (fun _ _ => ⟨rfl, ci_R (by omega) (cp_J_add J jb) (Or.inl rfl)⟩) (fun z => absurd ⟨n7, jb⟩ z))
    (fun z => cy_add hn (fun n7 jb => absurd ⟨n7, jb⟩ z) (fun _ => ⟨rfl, ci_R hn J st⟩))
/-! drop -/
theorem cx_d12 {post : Int32 → SX → Prop} {m k : Nat} {cs : Int32} {fr tq sl fa pr rch cur : Nat → Int32} (hm : m ≤ 6)
    (h : post (nI m) (nI m, 0, cp_sh fr k m, cp_sh tq k m, cp_sh sl k m, cp_sh fa k m, cp_sh pr k m, rch, cur)) :
    ∀ d i, k ≤ i → i + d = m → wX_drop_12 post (nI (m + 1)) cs (d + 1) (nI i) (cp_sh fr k i) (cp_sh tq k i) (cp_sh sl k i) (cp_sh fa k i) (cp_sh pr k i) rch cur := by
  intro d
  induction d with
  | zero =>
    intro i hk hi
    obtain rfl : i = m := by omega
    exact br_t (by rw [nI_pred]; exact Int32.le_refl _) (nm_r (nI_pred i) h)
  | succ d ih =>
    intro i hk hi
    have c0 : (nI i).toNatClampNeg = i := nI_clamp (by omega)
    have c1 : (nI (i + 1)).toNatClampNeg = i + 1 := nI_clamp (by omega)
    have v0 : vp_in (nI i) 7 := vp_in_nI (by omega) (by decide)
    have v1 : vp_in (nI (i + 1)) 7 := vp_in_nI (by omega) (by decide)
    refine br_f (by rw [nI_pred]; exact nI_ge (by omega) (by omega)) ?_
    rw [nI_1 i, c0, c1]
    exact ⟨v1, v0, nm_r (cp_sh_s fr hk) ⟨v1, v0, nm_r (cp_sh_s tq hk) ⟨v1, v0, nm_r (cp_sh_s sl hk) ⟨v1, v0, nm_r (cp_sh_s fa hk) ⟨v1, v0, nm_r (cp_sh_s pr hk) (nm_e (ih (i + 1) (by omega) (by omega)))⟩⟩⟩⟩⟩
theorem cy_d26 {post : Int32 → SY → Prop} {m k : Nat} {fr tq sl fa pr tms lt chp : Nat → Int32} (hm : m ≤ 6)
    (h : post (nI m) (nI m, cp_sh fr k m, cp_sh tq k m, cp_sh sl k m, cp_sh fa k m, cp_sh pr k m, tms, lt, chp)) :
    ∀ d i, k ≤ i → i + d = m → wY_drop_26 post (nI m) (d + 1) (nI i) (cp_sh fr k i) (cp_sh tq k i) (cp_sh sl k i) (cp_sh fa k i) (cp_sh pr k i) tms lt chp := by
  intro d
  induction d with
  | zero =>
    intro i hk hi
    obtain rfl : i = m := by omega
    exact br_t (Int32.le_refl _) h
  | succ d ih =>
    intro i hk hi
    have c0 : (nI i).toNatClampNeg = i := nI_clamp (by omega)
    have c1 : (nI (i + 1)).toNatClampNeg = i + 1 := nI_clamp (by omega)
    have v0 : vp_in (nI i) 7 := vp_in_nI (by omega) (by decide)
    have v1 : vp_in (nI (i + 1)) 7 := vp_in_nI (by omega) (by decide)
    refine br_f (nI_ge (by omega) (by omega)) ?_
    rw [nI_1 i, c0, c1]
    exact ⟨v1, v0, nm_r (cp_sh_s fr hk) ⟨v1, v0, nm_r (cp_sh_s tq hk) ⟨v1, v0, nm_r (cp_sh_s sl hk) ⟨v1, v0, nm_r (cp_sh_s fa hk) ⟨v1, v0, nm_r (cp_sh_s pr hk) (nm_e (ih (i + 1) (by omega) (by omega)))⟩⟩⟩⟩⟩
theorem i_vc_drop {k : Nat} {u : SX} {v : SY} (I : i_Rel k u v) (hk : k + 6 ≤ 3072) (v1 : Int32) : wpX_drop (fun r u' => wpY_drop (fun r' v' => r' = r ∧ i_Rel (k + 6) u' v') v v1) u v1 := by
  obtain ⟨n, cs, fr, tq, sl, fa, pr, rch, cur, tms, lt, chp, rfl, rfl, hn, J, st⟩ := I
  have R0 : i_Rel (k + 6) (nI n, cs, fr, tq, sl, fa, pr, rch, cur) (nI n, fr, tq, sl, fa, pr, tms, lt, chp) := ci_R hn J st
  unfold wpX_drop wpX_isJob wpY_drop
  dsimp only
  rcases pk_ix v1 (n := n) (by omega) with h | h | ⟨j, hj, rfl⟩
  · exact br_t h (br_t rfl (br_t h ⟨rfl, R0⟩))
  · have h0 : ¬ v1 < 0 := fun z => Int32.not_lt.mpr h (Int32.lt_of_lt_of_le z (nI_pos' (by omega)))
    exact br_f h0 (br_t h (br_t rfl (br_f h0 (br_f (Int32.not_lt.mpr h) ⟨rfl, R0⟩))))
  · obtain ⟨m, rfl⟩ : ∃ m, n = m + 1 := ⟨n - 1, by omega⟩
    refine br_f (nI_pos (by omega)) (br_f (nI_ge hj (by omega)) (br_f (by decide) ⟨m - j + 1, ?_⟩))
    have X := fun post h => cx_d12 (post := post) (m := m) (k := j) (cs := cs) (fr := fr) (tq := tq) (sl := sl) (fa := fa) (pr := pr) (rch := rch) (cur := cur) (by omega) h (m - j) j (Nat.le_refl j) (by omega)
    have Y := fun post h => cy_d26 (post := post) (m := m) (k := j) (fr := fr) (tq := tq) (sl := sl) (fa := fa) (pr := pr) (tms := tms) (lt := lt) (chp := chp) (by omega) h (m - j) j (Nat.le_refl j) (by omega)
    simp only [cp_sh_0] at X Y
    exact X _ (br_f (nI_pos (by omega)) (br_t (nI_lt hj (by omega)) (nm_r (nI_pred m) ⟨m - j + 1, Y _ ⟨rfl, ci_R (by omega) (cp_J_drop J) (Or.inl rfl)⟩⟩)))
/-! price -/
theorem i_vc_price {k : Nat} {u : SX} {v : SY} (I : i_Rel k u v) (hk : k + 6 ≤ 3072) (v1 : Int32) (v2 : Int32) : wpX_price (fun r u' => wpY_price (fun r' v' => r' = r ∧ i_Rel (k + 6) u' v') v v1 v2) u v1 v2 := by
  obtain ⟨n, cs, fr, tq, sl, fa, pr, rch, cur, tms, lt, chp, rfl, rfl, hn, J, st⟩ := I
  have R0 : i_Rel (k + 6) (nI n, cs, fr, tq, sl, fa, pr, rch, cur) (nI n, fr, tq, sl, fa, pr, tms, lt, chp) := ci_R hn J st
  unfold wpX_price wpX_isJob wpX_priceFits wpY_price wpY_badPrice
  dsimp only
  rcases pk_ix v1 (n := n) (by omega) with h | h | ⟨j, hj, rfl⟩
  · exact br_t h (br_t rfl (br_t h ⟨rfl, R0⟩))
  · have h0 : ¬ v1 < 0 := fun z => Int32.not_lt.mpr h (Int32.lt_of_lt_of_le z (nI_pos' (by omega)))
    exact br_f h0 (br_t h (br_t rfl (br_f h0 (br_t h ⟨rfl, R0⟩))))
  · have cj : (nI j).toNatClampNeg = j := nI_clamp (by omega)
    have vj : vp_in (nI j) 7 := vp_in_nI (by omega) (by decide)
    have a1 : ¬ nI j < 0 := nI_pos (by omega)
    have a2 : ¬ nI n ≤ nI j := nI_ge hj (by omega)
    rw [cj]
    refine br_f a1 (br_f a2 (br_f (by decide) ?_))
    by_cases b1 : v2 < 1
    · exact br_t b1 (br_t rfl (br_f a1 (br_f a2 (br_t b1 (br_f (by decide) ⟨rfl, R0⟩)))))
    · by_cases b2 : 20 < v2
      · exact br_f b1 (br_t b2 (br_t rfl (br_f a1 (br_f a2 (br_f b1 (br_f (Int32.not_le.mpr b2) (br_f (by decide) ⟨rfl, R0⟩)))))))
      · obtain ⟨p, hp, rfl⟩ := nI_of (x := v2) (fun z => b1 (Int32.lt_trans z (by decide)))
        have p1 : ¬ p < 1 := fun z => b1 (nI_lt (b := 1) z (by omega))
        have p2 : ¬ 20 < p := fun z => b2 (nI_lt (a := 20) z hp)
        exact br_f b1 (br_f b2 (br_f (by decide) ⟨vj, nm_e ⟨vj, nm_e (br_f a1 (br_f a2 (br_f b1 (br_t (Int32.not_lt.mp b2) (br_t rfl ⟨vj, nm_e ⟨vj, nm_e ⟨rfl, ci_R hn (cp_J_pr J (by omega) (by omega)) (Or.inl rfl)⟩⟩⟩)))))⟩⟩))
end
section
/-! part 06: the calls that ask -/
theorem i_vc_slowest {k : Nat} {u : SX} {v : SY} (I : i_Rel k u v) (hk : k + 6 ≤ 3072) : wpX_slowest (fun r u' => wpY_slowest (fun r' v' => r' = r ∧ i_Rel (k + 6) u' v') v) u := by
  obtain ⟨n, cs, fr, tq, sl, fa, pr, rch, cur, tms, lt, chp, rfl, rfl, hn, J, st⟩ := I
  have E : cp_E n fr tq sl fa pr (cq_N fr) (cq_N tq) (cq_N sl) (cq_N fa) (cq_N pr) := cp_J_e J
  have H := cp_J_H J
  unfold wpX_slowest
  dsimp only
  exact cx_planLength (p := 0) hn E H (by omega) (cp_ok0 H) (fun rch' => cy_slowest hn E H (fun tms' lt' => ⟨rfl, ci_R hn J st⟩))
theorem i_vc_fastest {k : Nat} {u : SX} {v : SY} (I : i_Rel k u v) (hk : k + 6 ≤ 3072) : wpX_fastest (fun r u' => wpY_fastest (fun r' v' => r' = r ∧ i_Rel (k + 6) u' v') v) u := by
  obtain ⟨n, cs, fr, tq, sl, fa, pr, rch, cur, tms, lt, chp, rfl, rfl, hn, J, st⟩ := I
  have E : cp_E n fr tq sl fa pr (cq_N fr) (cq_N tq) (cq_N sl) (cq_N fa) (cq_N pr) := cp_J_e J
  have H := cp_J_H J
  unfold wpX_fastest
  dsimp only
  exact cx_draw hn E H st (fun rch' cur' hc => cx_first hn H hc (cy_fastest hn E H (fun tms' lt' => ⟨rfl, ci_R hn J (Or.inr ⟨rfl, hc⟩)⟩)))
theorem i_vc_cost {k : Nat} {u : SX} {v : SY} (I : i_Rel k u v) (hk : k + 6 ≤ 3072) (v1 : Int32) : wpX_cost (fun r u' => wpY_cost (fun r' v' => r' = r ∧ i_Rel (k + 6) u' v') v v1) u v1 := by
  obtain ⟨n, cs, fr, tq, sl, fa, pr, rch, cur, tms, lt, chp, rfl, rfl, hn, J, st⟩ := I
  have E : cp_E n fr tq sl fa pr (cq_N fr) (cq_N tq) (cq_N sl) (cq_N fa) (cq_N pr) := cp_J_e J
  have H := cp_J_H J
  unfold wpX_cost wpY_cost
  dsimp only
  by_cases h : v1 < 0
  · exact br_f (Int32.not_le.mpr h) (cy_curve hn E H (fun tms' lt' chp' hA => cy_costN h ⟨rfl, ci_R hn J st⟩))
  · obtain ⟨d, hd, rfl⟩ := nI_of h
    exact br_t (nI_pos' hd) (cx_draw hn E H st (fun rch' cur' hc => cx_at H (by omega) hc (cy_curve hn E H (fun tms' lt' chp' hA => cy_costAt hn H (by omega) hA ⟨rfl, ci_R hn J (Or.inr ⟨rfl, hc⟩)⟩))))
theorem i_vc_step {k : Nat} {u : SX} {v : SY} (I : i_Rel k u v) (hk : k + 6 ≤ 3072) (v1 : Int32) : wpX_step (fun r u' => wpY_step (fun r' v' => r' = r ∧ i_Rel (k + 6) u' v') v v1) u v1 := by
  obtain ⟨n, cs, fr, tq, sl, fa, pr, rch, cur, tms, lt, chp, rfl, rfl, hn, J, st⟩ := I
  have E : cp_E n fr tq sl fa pr (cq_N fr) (cq_N tq) (cq_N sl) (cq_N fa) (cq_N pr) := cp_J_e J
  have H := cp_J_H J
  unfold wpX_step wpY_step wY_step_20
  dsimp only
  by_cases h : v1 < 0
  · refine br_f (Int32.not_le.mpr h) (cy_curve hn E H (fun tms' lt' chp' hA => cy_costN h ?_))
    exact br_t (by decide) (br_f (by decide) ⟨rfl, ci_R hn J st⟩)
  · obtain ⟨d, hd, rfl⟩ := nI_of h
    have r := cp_CVr hn H d
    rw [nI_1 d]
    refine br_t (nI_pos' hd) (cx_draw hn E H st (fun rch' cur' hc => cx_at H (by omega) hc ?_))
    have R : ∀ tms' lt' chp', i_Rel (k + 6) (nI n, 1, fr, tq, sl, fa, pr, rch', cur') (nI n, fr, tq, sl, fa, pr, tms', lt', chp') := fun tms' lt' chp' => ci_R hn J (Or.inr ⟨rfl, hc⟩)
    refine cq_bEQ (cp_CV (cq_N fr) (cq_N tq) (cq_N sl) (cq_N fa) (cq_N pr) n d) (-1) rfl cq_m1 (by omega) (by omega) (by omega) (by omega) (fun e => ?_) (fun e => ?_)
    · refine cy_curve hn E H (fun tms' lt' chp' hA => cy_costAt hn H (by omega) hA ?_)
      rw [e]
      exact br_t (by decide) (br_f (by decide) ⟨rfl, R _ _ _⟩)
    · have nn : ¬ cq_I (cp_CV (cq_N fr) (cq_N tq) (cq_N sl) (cq_N fa) (cq_N pr) n d) < 0 := by
        rw [cq_0, cq_lt (by omega) (by omega) (by omega) (by omega)]
        omega
      have nn' : 0 ≤ cq_I (cp_CV (cq_N fr) (cq_N tq) (cq_N sl) (cq_N fa) (cq_N pr) n d) := Int32.not_lt.mp nn
      by_cases c : d < 45
      · refine br_t (nI_lt (b := 45) c (by omega)) (cx_at H (by omega) hc ?_)
        refine cy_curve hn E H (fun tms' lt' chp' hA => cy_costAt hn H (by omega) hA (br_f nn (br_f (fun z => ?_) (cy_costAt hn H (by omega) hA ⟨rfl, R _ _ _⟩))))
        have z2 : d = 2147483647 := (nI_eq (b := 2147483647) hd (by omega)).mp z
        omega
      · refine br_f (nI_nlt (b := 45) (by omega) (by omega)) ?_
        refine cy_curve hn E H (fun tms' lt' chp' hA => cy_costAt hn H (by omega) hA (br_f nn ?_))
        by_cases m : d = 2147483647
        · exact br_t (by rw [m]; rfl) (br_t nn' ⟨rfl, R _ _ _⟩)
        · refine br_f (fun z => m ((nI_eq (b := 2147483647) hd (by omega)).mp z)) (cy_costAt hn H (by omega) hA ⟨?_, R _ _ _⟩)
          rw [cp_CV45 H (t := d) (by omega), cp_CV45 H (t := d + 1) (by omega), cq_sub]
          exact cq_0.symm
section
variable {n : Nat} {F T S A P : Nat → Nat}
theorem cx_w15 {post : Int32 → SX → Prop} {b w : Nat} {jb cs : Int32} {fr tq sl fa pr rch cur : Nat → Int32} (hn : n ≤ 7) (H : cp_H n F T S A P) (hb : b < 2147483648) (hc : ∀ t, t < 46 → cur t = cq_I (cp_CV F T S A P n t))
    (hw : w ≤ 45) (hm : ∀ j, j < w → ¬ (0 ≤ cp_CV F T S A P n j ∧ cp_CV F T S A P n j ≤ (b : Int))) (hP : 0 ≤ cp_CV F T S A P n w ∧ cp_CV F T S A P n w ≤ (b : Int))
    (h : post (nI w) (jb, cs, fr, tq, sl, fa, pr, rch, cur)) :
    ∀ d t, t + d = 45 → cp_lf F T A n ≤ t → t ≤ w → wX_within_15 post (nI b) jb cs fr tq sl fa pr rch cur (d + 1) (nI t) := by
  intro d
  induction d with
  | zero =>
    intro t ht hl hle
    have e : w = 45 := by omega
    rw [e] at h
    exact br_t (nI_le (a := 45) (by omega) (by omega)) h
  | succ d ih =>
    intro t ht hl hle
    have r := cp_CVr hn H t
    have f := (cp_CVf H t).mpr hl
    refine br_f (nI_ge (b := 45) (by omega) (by omega)) (cx_at H (by omega) hc ?_)
    by_cases q : (b : Int) < cp_CV F T S A P n t
    · have hlt : t < 45 := by omega
      refine br_t (by rw [cq_n, cq_lt (by omega) (by omega) (by omega) (by omega)]; exact q) (nm_r (nI_1 t) (ih (t + 1) (by omega) (by omega) ?_))
      by_cases z : t = w
      · rw [z] at q
        omega
      · omega
    · refine br_f (by rw [cq_n, cq_lt (by omega) (by omega) (by omega) (by omega)]; exact q) ?_
      have e : t = w := by
        by_cases z : t < w
        · exact absurd ⟨f, by omega⟩ (hm t z)
        · omega
      rw [e]
      exact h
theorem cy_w6 {post : Int32 → SY → Prop} {b w : Nat} {hd : Int32} {fr tq sl fa pr tms lt chp : Nat → Int32} (hn : n ≤ 7) (H : cp_H n F T S A P) (hb : b < 2147483648) (hA : cp_A 64 chp (cp_GG F T S A P n))
    (hw : w ≤ 45) (hm : ∀ j, j < w → ¬ (0 ≤ cp_CV F T S A P n j ∧ cp_CV F T S A P n j ≤ (b : Int))) (hP : 0 ≤ cp_CV F T S A P n w ∧ cp_CV F T S A P n w ≤ (b : Int))
    (h : post (nI w) (hd, fr, tq, sl, fa, pr, tms, lt, chp)) :
    ∀ d t, t + d = 64 → t ≤ w → wY_within_6 post (nI b) hd fr tq sl fa pr tms lt chp (d + 1) (nI t) := by
  intro d
  induction d with
  | zero =>
    intro t ht hle
    omega
  | succ d ih =>
    intro t ht hle
    have r := cp_CVr hn H t
    have nx : ¬ (0 ≤ cp_CV F T S A P n t ∧ cp_CV F T S A P n t ≤ (b : Int)) → ∀ x, x = nI t + 1 → wY_within_6 post (nI b) hd fr tq sl fa pr tms lt chp (d + 1) x := fun q => nm_r (nI_1 t) (ih (t + 1) (by omega) (by
      have z : t ≠ w := fun e => q (e ▸ hP)
      omega))
    refine br_f (nI_ge (b := 64) (by omega) (by omega)) (cy_costAt hn H (by omega) hA ?_)
    refine cq_bLT (cp_CV F T S A P n t) 0 rfl cq_0 (by omega) (by omega) (by omega) (by omega) (fun k => nx (by omega)) (fun k => ?_)
    refine cq_bLT (b : Int) (cp_CV F T S A P n t) (cq_n b) rfl (by omega) (by omega) (by omega) (by omega) (fun k2 => nx (by omega)) (fun k2 => ?_)
    have e : t = w := by
      by_cases z : t < w
      · exact absurd ⟨k, k2⟩ (hm t z)
      · omega
    rw [e]
    exact h
theorem cy_w6N {post : Int32 → SY → Prop} {x hd : Int32} {fr tq sl fa pr tms lt chp : Nat → Int32} (hn : n ≤ 7) (H : cp_H n F T S A P) (hx : x < 0) (hA : cp_A 64 chp (cp_GG F T S A P n))
    (h : post (-1) (hd, fr, tq, sl, fa, pr, tms, lt, chp)) :
    ∀ d t, t + d = 64 → wY_within_6 post x hd fr tq sl fa pr tms lt chp (d + 1) (nI t) := by
  intro d
  induction d with
  | zero =>
    intro t ht
    exact br_t (nI_le (a := 64) (by omega) (by omega)) h
  | succ d ih =>
    intro t ht
    have r := cp_CVr hn H t
    refine br_f (nI_ge (b := 64) (by omega) (by omega)) (cy_costAt hn H (by omega) hA ?_)
    refine br_c (fun k => nm_r (nI_1 t) (ih (t + 1) (by omega))) (fun k => br_t (Int32.lt_of_lt_of_le hx (Int32.not_lt.mp k)) (nm_r (nI_1 t) (ih (t + 1) (by omega))))
theorem cx_t27 {post : Int32 → SX → Prop} {p : Nat} {jb cs : Int32} {fr tq sl fa pr rch cur : Nat → Int32} (s : Nat → Int) (hn : n ≤ 7) (H : cp_H n F T S A P) (hp : p ≤ 200) (hs : ∀ t, s t = cp_CV F T S A P n t + ((p * t : Nat) : Int)) (hc : ∀ t, t < 46 → cur t = cq_I (cp_CV F T S A P n t))
    (h : ∀ v, cp_XI s (cp_lf F T A n) 45 v → post (cq_I v) (jb, cs, fr, tq, sl, fa, pr, rch, cur)) :
    ∀ d t v, t + d = 45 → cp_lf F T A n ≤ t → cp_XI s (cp_lf F T A n) t v → wX_total_27 post (nI p) jb cs fr tq sl fa pr rch cur (d + 1) (cq_I v) (nI t) := by
  have bd : ∀ t, t ≤ 64 → -1 ≤ s t ∧ s t ≤ 13220 := by
    intro t ht
    have r := cp_CVr hn H t
    have m := cp_dt hp ht
    rw [hs t]
    omega
  intro d
  induction d with
  | zero =>
    intro t v ht hl hI
    obtain rfl : t = 45 := by omega
    exact br_t (nI_le (a := 45) (by omega) (by omega)) (h v hI)
  | succ d ih =>
    intro t v ht hl hI
    have bt := bd t (by omega)
    have b45 := bd 45 (by omega)
    have bv : -1 ≤ v ∧ v ≤ 13220 := by
      refine ⟨?_, by have z := hI.2.1; omega⟩
      rcases hI.1 with z | ⟨x, x1, x2, x3⟩
      · omega
      · have z := bd x (by omega)
        omega
    refine br_f (nI_ge (b := 45) (by omega) (by omega)) (cx_at H (by omega) hc (nm_r (e' := cq_I (s t)) ?_ ?_))
    · rw [pk_mul, cq_n, cq_add, hs t]
    · exact cq_bLE v (s t) rfl rfl (by omega) (by omega) (by omega) (by omega) (fun k => nm_r (nI_1 t) (ih (t + 1) v (by omega) (by omega) (cp_XI_ge hI k))) (fun k => nm_r (nI_1 t) (ih (t + 1) (s t) (by omega) (by omega) (cp_XI_lt hI hl k)))
theorem cy_t21 {post : Int32 → SY → Prop} {p : Nat} {hd : Int32} {fr tq sl fa pr tms lt chp : Nat → Int32} (s : Nat → Int) (hn : n ≤ 7) (H : cp_H n F T S A P) (hp : p ≤ 200) (hs : ∀ t, s t = cp_CV F T S A P n t + ((p * t : Nat) : Int)) (hA : cp_A 64 chp (cp_GG F T S A P n))
    (h : ∀ v, cp_YI s (cp_lf F T A n) 64 v → post (cq_I v) (hd, fr, tq, sl, fa, pr, tms, lt, chp)) :
    ∀ d t v, t + d = 64 → cp_YI s (cp_lf F T A n) t v → wY_total_21 post (nI p) hd fr tq sl fa pr tms lt chp (d + 1) (cq_I v) (nI t) := by
  have bd : ∀ t, t ≤ 64 → -1 ≤ s t ∧ s t ≤ 13220 := by
    intro t ht
    have r := cp_CVr hn H t
    have m := cp_dt hp ht
    rw [hs t]
    omega
  have s0 : ∀ x, cp_lf F T A n ≤ x → 0 ≤ s x := by
    intro x hx
    have f := (cp_CVf H x).mpr hx
    rw [hs x]
    omega
  intro d
  induction d with
  | zero =>
    intro t v ht hI
    obtain rfl : t = 64 := by omega
    exact br_t (nI_le (a := 64) (by omega) (by omega)) (h v hI)
  | succ d ih =>
    intro t v ht hI
    have r := cp_CVr hn H t
    have f := cp_CVf H t
    have bt := bd t (by omega)
    have bv : -1 ≤ v ∧ v ≤ 13220 := by
      rcases hI with z | ⟨_, ⟨x, x1, x2, x3⟩, _⟩
      · omega
      · have z := bd x (by omega)
        omega
    refine br_f (nI_ge (b := 64) (by omega) (by omega)) (cy_costAt hn H (by omega) hA (nm_r (e' := cq_I (s t)) ?_ ?_))
    · rw [pk_mul, cq_n, cq_add, hs t]
    · refine cq_bLT (cp_CV F T S A P n t) 0 rfl cq_0 (by omega) (by omega) (by omega) (by omega) (fun k => nm_r (nI_1 t) (ih (t + 1) v (by omega) (cp_YI_no hI (by omega)))) (fun k => ?_)
      refine cq_bLT v 0 rfl cq_0 (by omega) (by omega) (by omega) (by omega) (fun k2 => nm_r (nI_1 t) (ih (t + 1) (s t) (by omega) (cp_YI_lt hI (by omega) (Or.inl k2) s0))) (fun k2 => ?_)
      exact cq_bLE v (s t) rfl rfl (by omega) (by omega) (by omega) (by omega) (fun k3 => nm_r (nI_1 t) (ih (t + 1) v (by omega) (cp_YI_ge hI k2 k3))) (fun k3 => nm_r (nI_1 t) (ih (t + 1) (s t) (by omega) (cp_YI_lt hI (by omega) (Or.inr k3) s0)))
end
theorem i_vc_within {k : Nat} {u : SX} {v : SY} (I : i_Rel k u v) (hk : k + 6 ≤ 3072) (v1 : Int32) : wpX_within (fun r u' => wpY_within (fun r' v' => r' = r ∧ i_Rel (k + 6) u' v') v v1) u v1 := by
  obtain ⟨n, cs, fr, tq, sl, fa, pr, rch, cur, tms, lt, chp, rfl, rfl, hn, J, st⟩ := I
  have E : cp_E n fr tq sl fa pr (cq_N fr) (cq_N tq) (cq_N sl) (cq_N fa) (cq_N pr) := cp_J_e J
  have H := cp_J_H J
  unfold wpX_within wpY_within
  dsimp only
  by_cases h : v1 < 0
  · exact br_f (Int32.not_le.mpr h) (cy_curve hn E H (fun tms' lt' chp' hA => ⟨65, cy_w6N hn H h hA ⟨rfl, ci_R hn J st⟩ 64 0 rfl⟩))
  · obtain ⟨b, hb, rfl⟩ := nI_of h
    have c45 := cp_CV45 H (t := 45) (by omega)
    obtain ⟨w, hP, hm⟩ := pk_least (fun t => 0 ≤ cp_CV (cq_N fr) (cq_N tq) (cq_N sl) (cq_N fa) (cq_N pr) n t ∧ cp_CV (cq_N fr) (cq_N tq) (cq_N sl) (cq_N fa) (cq_N pr) n t ≤ (b : Int)) ⟨45, by
      show 0 ≤ cp_CV (cq_N fr) (cq_N tq) (cq_N sl) (cq_N fa) (cq_N pr) n 45 ∧ cp_CV (cq_N fr) (cq_N tq) (cq_N sl) (cq_N fa) (cq_N pr) n 45 ≤ (b : Int)
      omega⟩
    have hw : w ≤ 45 := Nat.le_of_not_lt (fun z => hm 45 z (by
      show 0 ≤ cp_CV (cq_N fr) (cq_N tq) (cq_N sl) (cq_N fa) (cq_N pr) n 45 ∧ cp_CV (cq_N fr) (cq_N tq) (cq_N sl) (cq_N fa) (cq_N pr) n 45 ≤ (b : Int)
      omega))
    have lw := (cp_CVf H w).mp hP.1
    have l45 := cp_lf45 H
    refine br_t (nI_pos' hb) (cx_draw hn E H st (fun rch' cur' hc => cx_first hn H hc ⟨45 - cp_lf (cq_N fr) (cq_N tq) (cq_N fa) n + 1, ?_⟩))
    refine cx_w15 hn H (by omega) hc hw hm hP ?_ (45 - cp_lf (cq_N fr) (cq_N tq) (cq_N fa) n) _ (by omega) (Nat.le_refl _) lw
    exact cy_curve hn E H (fun tms' lt' chp' hA => ⟨65, cy_w6 hn H (by omega) hA hw hm hP ⟨rfl, ci_R hn J (Or.inr ⟨rfl, hc⟩)⟩ 64 0 rfl (Nat.zero_le _)⟩)
theorem i_vc_total {k : Nat} {u : SX} {v : SY} (I : i_Rel k u v) (hk : k + 6 ≤ 3072) (v1 : Int32) : wpX_total (fun r u' => wpY_total (fun r' v' => r' = r ∧ i_Rel (k + 6) u' v') v v1) u v1 := by
  obtain ⟨n, cs, fr, tq, sl, fa, pr, rch, cur, tms, lt, chp, rfl, rfl, hn, J, st⟩ := I
  have E : cp_E n fr tq sl fa pr (cq_N fr) (cq_N tq) (cq_N sl) (cq_N fa) (cq_N pr) := cp_J_e J
  have H := cp_J_H J
  have R0 : i_Rel (k + 6) (nI n, cs, fr, tq, sl, fa, pr, rch, cur) (nI n, fr, tq, sl, fa, pr, tms, lt, chp) := ci_R hn J st
  unfold wpX_total wpY_total
  dsimp only
  by_cases h : v1 < 0
  · exact br_t h (br_t h ⟨rfl, R0⟩)
  · by_cases h2 : v1 ≤ 200
    · obtain ⟨p, hp, rfl⟩ := nI_of h
      have p2 : p ≤ 200 := (nI_leI (b := 200) hp (by omega)).mp h2
      have l45 := cp_lf45 H
      have c45 := cp_CV45 H (t := 45) (by omega)
      let s : Nat → Int := fun t => cp_CV (cq_N fr) (cq_N tq) (cq_N sl) (cq_N fa) (cq_N pr) n t + ((p * t : Nat) : Int)
      have hs : ∀ t, s t = cp_CV (cq_N fr) (cq_N tq) (cq_N sl) (cq_N fa) (cq_N pr) n t + ((p * t : Nat) : Int) := fun t => rfl
      have s45 : nI p * 45 = cq_I (s 45) := by
        have z : nI p * 45 = nI (p * 45) := pk_mul p 45
        rw [z, cq_n, hs 45, c45, Int.zero_add]
      have sm : ∀ t, 45 ≤ t → s 45 ≤ s t := by
        intro t ht
        have m : p * 45 ≤ p * t := Nat.mul_le_mul_left p ht
        rw [hs 45, hs t, c45, cp_CV45 H ht]
        omega
      refine br_f h (br_t h2 (cx_draw hn E H st (fun rch' cur' hc => nm_r s45 (cx_first hn H hc ⟨45 - cp_lf (cq_N fr) (cq_N tq) (cq_N fa) n + 1, ?_⟩))))
      refine cx_t27 s hn H p2 hs hc (fun v hv => ?_) (45 - cp_lf (cq_N fr) (cq_N tq) (cq_N fa) n) _ _ (by omega) (Nat.le_refl _) cp_XI_0
      refine br_f h (br_t h2 (cy_curve hn E H (fun tms' lt' chp' hA => ⟨65, ?_⟩)))
      rw [cq_m1]
      refine cy_t21 s hn H p2 hs hA (fun v' hv' => ⟨?_, ci_R hn J (Or.inr ⟨rfl, hc⟩)⟩) 64 0 (-1) rfl cp_YI_0
      rw [cp_MiU (cp_YI_end hv' l45) (cp_XI_end hv l45 sm)]
    · exact br_f h (br_f h2 (br_f h (br_f h2 ⟨rfl, R0⟩)))
end
