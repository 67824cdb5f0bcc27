/-! part 01: rows pasted from kit/rows (pk_*, s_l), ints as Int32, the pure pictures of lengths, plans and the curve -/
theorem pk_us {f : Nat → Int32} {k : Nat} {x : Int32} : upd f k x k = x := if_pos rfl
theorem pk_un {f : Nat → Int32} {k j : Nat} {x : Int32} (h : j ≠ k) : upd f k x j = f j := if_neg h
theorem pk_sub {a b : Nat} (h : b ≤ a) : nI a - nI b = nI (a - b) := by
  obtain ⟨c, rfl⟩ : ∃ c, a = c + b := ⟨a - b, by omega⟩
  rw [← nI_add, Int32.add_sub_cancel, Nat.add_sub_cancel]
theorem pk_mul (a b : Nat) : nI a * nI b = nI (a * b) := (Int32.ofNat_mul a b).symm
theorem pk_tn {n : Nat} (h : n < 2 ^ 32) : (nI n).toBitVec.toNat = n := Nat.mod_eq_of_lt h
theorem pk_and (x : Int32) {m : Int32} (k : Nat) (hm : m.toBitVec.toNat = 2 ^ k - 1) : x &&& m = nI (x.toBitVec.toNat % 2 ^ k) := by
  apply Int32.toBitVec_inj.mp
  apply BitVec.eq_of_toNat_eq
  rw [Int32.toBitVec_and, BitVec.toNat_and, hm, Nat.and_two_pow_sub_one_eq_mod]
  show _ = (BitVec.ofNat 32 _).toNat
  rw [BitVec.toNat_ofNat]
  exact (Nat.mod_eq_of_lt (Nat.lt_of_le_of_lt (Nat.mod_le _ _) x.toBitVec.isLt)).symm
theorem pk_andN {n : Nat} (h : n < 2 ^ 32) {m : Int32} (k : Nat) (hm : m.toBitVec.toNat = 2 ^ k - 1) : nI n &&& m = nI (n % 2 ^ k) := by
  rw [pk_and _ k hm, pk_tn h]
theorem pk_shr (a s : Int32) (k : Nat) (hs : (s.toBitVec.smod 32).toNat = k) : (a >>> s).toInt = a.toInt >>> k := by
  show (a.toBitVec.sshiftRight (s.toBitVec.smod 32).toNat).toInt = _
  rw [hs, BitVec.toInt_sshiftRight]
  rfl
theorem pk_shrN {n : Nat} (h : n < 2 ^ 31) (s : Int32) (k : Nat) (hs : (s.toBitVec.smod 32).toNat = k) : nI n >>> s = nI (n / 2 ^ k) := by
  apply Int32.toInt_inj.mp
  have h2 : n / 2 ^ k ≤ n := Nat.div_le_self _ _
  rw [pk_shr _ _ k hs, nI_toInt h, nI_toInt (by omega), Int.shiftRight_eq_div_pow]
  rfl
theorem pk_loop {σ : Type} (W : Nat → Nat → σ → Prop) (I : Nat → σ → Prop) (e i0 : Nat) (s : σ) (hi : i0 ≤ e) (h0 : I i0 s) (hx : ∀ n s, I e s → W (n + 1) e s)
    (hs : ∀ n i s, i < e → I i s → (∀ s', I (i + 1) s' → W n (i + 1) s') → W (n + 1) i s) : ∃ n, W n i0 s :=
  ⟨e + 1, loop_i W I e hx hs (e + 1) i0 s hi (by omega) h0⟩
theorem pk_least (P : Nat → Prop) (h : ∃ k, P k) : ∃ k, P k ∧ ∀ j, j < k → ¬ P j := by
  obtain ⟨k, hk⟩ := h
  induction k using Nat.strongRecOn with
  | ind k ih =>
    by_cases e : ∃ j, j < k ∧ P j
    · obtain ⟨j, hj, pj⟩ := e
      exact ih j hj pj
    · exact ⟨k, hk, fun j hj pj => e ⟨j, hj, pj⟩⟩
theorem s_l : ∀ n, n < 32 → ((nI n &&& 31).toBitVec.smod 32).toNat = n := by decide +kernel
/-! ints as Int32 -/
def cq_I (z : Int) : Int32 := Int32.ofInt z
theorem cq_t {z : Int} (h : -2147483648 ≤ z) (h' : z < 2147483648) : (cq_I z).toInt = z := Int32.toInt_ofInt_of_le (by omega) (by omega)
theorem cq_le {a b : Int} (h1 : -2147483648 ≤ a) (h2 : a < 2147483648) (h3 : -2147483648 ≤ b) (h4 : b < 2147483648) : cq_I a ≤ cq_I b ↔ a ≤ b := by
  rw [Int32.le_iff_toInt_le, cq_t h1 h2, cq_t h3 h4]
theorem cq_lt {a b : Int} (h1 : -2147483648 ≤ a) (h2 : a < 2147483648) (h3 : -2147483648 ≤ b) (h4 : b < 2147483648) : cq_I a < cq_I b ↔ a < b := by
  rw [Int32.lt_iff_toInt_lt, cq_t h1 h2, cq_t h3 h4]
theorem cq_eq {a b : Int} (h1 : -2147483648 ≤ a) (h2 : a < 2147483648) (h3 : -2147483648 ≤ b) (h4 : b < 2147483648) : cq_I a = cq_I b ↔ a = b := by
  rw [← Int32.toInt_inj, cq_t h1 h2, cq_t h3 h4]
theorem cq_n (n : Nat) : nI n = cq_I (n : Int) := (Int32.ofInt_eq_ofNat).symm
theorem cq_add (a b : Int) : cq_I a + cq_I b = cq_I (a + b) := (Int32.ofInt_add a b).symm
theorem cq_sub (a b : Int) : cq_I a - cq_I b = cq_I (a - b) := (Int32.ofInt_sub a b).symm
theorem cq_mul (a b : Int) : cq_I a * cq_I b = cq_I (a * b) := (Int32.ofInt_mul a b).symm
theorem cq_of (x : Int32) : x = cq_I x.toInt := (Int32.ofInt_toInt x).symm
theorem cq_m1 : (-1 : Int32) = cq_I (-1) := by first | decide | rfl
theorem cq_0 : (0 : Int32) = cq_I 0 := by first | decide | rfl
/-- a branch met by the ints -/
theorem cq_bLE {x y : Int32} {A B : Prop} (a b : Int) (hx : x = cq_I a) (hy : y = cq_I b) (h1 : -2147483648 ≤ a) (h2 : a < 2147483648) (h3 : -2147483648 ≤ b) (h4 : b < 2147483648) (f : a ≤ b → A) (g : b < a → B) : (x ≤ y → A) ∧ (¬ x ≤ y → B) := by
  subst hx hy
  rw [cq_le h1 h2 h3 h4]
  exact ⟨f, fun z => g (by omega)⟩
theorem cq_bLT {x y : Int32} {A B : Prop} (a b : Int) (hx : x = cq_I a) (hy : y = cq_I b) (h1 : -2147483648 ≤ a) (h2 : a < 2147483648) (h3 : -2147483648 ≤ b) (h4 : b < 2147483648) (f : a < b → A) (g : b ≤ a → B) : (x < y → A) ∧ (¬ x < y → B) := by
  subst hx hy
  rw [cq_lt h1 h2 h3 h4]
  exact ⟨f, fun z => g (by omega)⟩
theorem cq_bEQ {x y : Int32} {A B : Prop} (a b : Int) (hx : x = cq_I a) (hy : y = cq_I b) (h1 : -2147483648 ≤ a) (h2 : a < 2147483648) (h3 : -2147483648 ≤ b) (h4 : b < 2147483648) (f : a = b → A) (g : a ≠ b → B) : (x = y → A) ∧ (¬ x = y → B) := by
  subst hx hy
  rw [cq_eq h1 h2 h3 h4]
  exact ⟨f, g⟩
/-! the units that plan p saves on job j -/
def cp_sv (p j : Nat) : Nat := p / 2 ^ (2 * j) % 4
theorem cp_sv3 (p j : Nat) : cp_sv p j ≤ 3 := by
  unfold cp_sv
  omega
theorem cp_sv0 (j : Nat) : cp_sv 0 j = 0 := by simp [cp_sv]
theorem cq_sv {p j : Nat} (hp : p < 2 ^ 31) (hj : j < 8) : (nI p >>> (((2 : Int32) * nI j) &&& 31)) &&& 3 = nI (cp_sv p j) := by
  have e : (2 : Int32) * nI j = nI (2 * j) := pk_mul 2 j
  have h2 : p / 2 ^ (2 * j) ≤ p := Nat.div_le_self _ _
  rw [e, pk_shrN hp _ (2 * j) (s_l (2 * j) (by omega)), pk_andN (n := p / 2 ^ (2 * j)) (by omega) (m := 3) 2 (by decide)]
  rfl
theorem cq_shl : ∀ n, n < 8 → (1 : Int32) <<< (((2 : Int32) * nI n) &&& 31) = nI (2 ^ (2 * n)) := by decide +kernel
theorem cp_N : ∀ n, n < 8 → 2 ^ (2 * n) ≤ 16384 := by decide +kernel
theorem cp_dig (d : Nat → Nat) : ∀ n, (∀ j, j < n → d j < 4) → ∃ p, p < 2 ^ (2 * n) ∧ ∀ j, j < n → cp_sv p j = d j
  | 0, _ => ⟨0, by decide, fun j h => by omega⟩
  | n + 1, h => by
    obtain ⟨p, hp, hd⟩ := cp_dig d n (fun j hj => h j (by omega))
    have hdn := h n (by omega)
    refine ⟨p + 2 ^ (2 * n) * d n, ?_, ?_⟩
    · have e : 2 ^ (2 * (n + 1)) = 2 ^ (2 * n) * 4 := by
        rw [show 2 * (n + 1) = 2 * n + 2 from by omega, Nat.pow_add]
      have k : 2 ^ (2 * n) * d n ≤ 2 ^ (2 * n) * 3 := Nat.mul_le_mul_left _ (by omega)
      rw [e]
      omega
    · intro j hj
      by_cases c : j = n
      · subst c
        unfold cp_sv
        rw [Nat.add_mul_div_left _ _ (Nat.two_pow_pos _), Nat.div_eq_of_lt hp]
        omega
      · have e : 2 ^ (2 * n) = 2 ^ (2 * j) * (2 ^ 2 * 2 ^ (2 * (n - j - 1))) := by
          rw [← Nat.pow_add, ← Nat.pow_add]
          congr 1
          omega
        rw [← hd j (by omega)]
        unfold cp_sv
        rw [e, Nat.mul_assoc, Nat.add_mul_div_left _ _ (Nat.two_pow_pos _), Nat.mul_assoc]
        exact Nat.add_mul_mod_self_left _ 4 _
/-! lengths: L x is the greatest sum of times on a way to x so far, -1 where there is none -/
def cp_st (F T : Nat → Nat) (tm : Nat → Int) (e j : Nat) (L : Nat → Int) (x : Nat) : Int :=
  if F j = e ∧ 0 ≤ L e ∧ x = T j ∧ L x < L e + tm j then L e + tm j else L x
def cp_in (F T : Nat → Nat) (tm : Nat → Int) (e : Nat) : Nat → (Nat → Int) → Nat → Int
  | 0, L => L
  | j + 1, L => cp_st F T tm e j (cp_in F T tm e j L)
def cp_out (F T : Nat → Nat) (tm : Nat → Int) (n : Nat) : Nat → Nat → Int
  | 0 => fun x => if x = 0 then 0 else -1
  | e + 1 => cp_in F T tm e n (cp_out F T tm n e)
def cp_K (L : Nat → Int) : Prop := ∀ x, -1 ≤ L x ∧ L x ≤ 9 * (x : Int)
theorem cp_K_st {F T : Nat → Nat} {tm : Nat → Int} {e j : Nat} {L : Nat → Int} (h : cp_K L) (h1 : F j < T j) (h2 : 0 ≤ tm j) (h3 : tm j ≤ 9) : cp_K (cp_st F T tm e j L) := by
  intro x
  have a := h x
  have b := h e
  unfold cp_st
  split <;> omega
theorem cp_K_in {F T : Nat → Nat} {tm : Nat → Int} {e : Nat} : ∀ n L, (∀ j, j < n → F j < T j ∧ 0 ≤ tm j ∧ tm j ≤ 9) → cp_K L → cp_K (cp_in F T tm e n L)
  | 0, _, _, hL => hL
  | j + 1, L, h, hL => cp_K_st (cp_K_in j L (fun i hi => h i (by omega)) hL) (h j (by omega)).1 (h j (by omega)).2.1 (h j (by omega)).2.2
theorem cp_K_out {F T : Nat → Nat} {tm : Nat → Int} {n : Nat} (h : ∀ j, j < n → F j < T j ∧ 0 ≤ tm j ∧ tm j ≤ 9) : ∀ e, cp_K (cp_out F T tm n e)
  | 0 => fun x => by
    show -1 ≤ (if x = 0 then (0 : Int) else -1) ∧ (if x = 0 then (0 : Int) else -1) ≤ 9 * (x : Int)
    split <;> omega
  | e + 1 => cp_K_in n _ h (cp_K_out h e)
theorem cp_M_st {F T : Nat → Nat} {tm tm' : Nat → Int} {e j : Nat} {L L' : Nat → Int} (h : ∀ x, L x ≤ L' x) (ht : tm j ≤ tm' j) : ∀ x, cp_st F T tm e j L x ≤ cp_st F T tm' e j L' x := by
  intro x
  have a := h x
  have b := h e
  unfold cp_st
  split <;> split <;> omega
theorem cp_M_in {F T : Nat → Nat} {tm tm' : Nat → Int} {e : Nat} {L L' : Nat → Int} (h : ∀ x, L x ≤ L' x) : ∀ n, (∀ j, j < n → tm j ≤ tm' j) → ∀ x, cp_in F T tm e n L x ≤ cp_in F T tm' e n L' x
  | 0, _ => h
  | j + 1, ht => cp_M_st (cp_M_in h j (fun i hi => ht i (by omega))) (ht j (by omega))
theorem cp_M_out {F T : Nat → Nat} {tm tm' : Nat → Int} {n : Nat} (ht : ∀ j, j < n → tm j ≤ tm' j) : ∀ e x, cp_out F T tm n e x ≤ cp_out F T tm' n e x
  | 0, _ => Int.le_refl _
  | e + 1, x => cp_M_in (cp_M_out ht e) n ht x
theorem cp_out_ext {F T : Nat → Nat} {tm tm' : Nat → Int} {n : Nat} (ht : ∀ j, j < n → tm j = tm' j) (e x : Nat) : cp_out F T tm n e x = cp_out F T tm' n e x :=
  Int.le_antisymm (cp_M_out (fun j hj => Int.le_of_eq (ht j hj)) e x) (cp_M_out (fun j hj => Int.le_of_eq (ht j hj).symm) e x)
theorem cp_in_skip {F T : Nat → Nat} {tm : Nat → Int} {e : Nat} {L : Nat → Int} (h : L e < 0) : ∀ n, cp_in F T tm e n L = L
  | 0 => rfl
  | j + 1 => by
    show cp_st F T tm e j (cp_in F T tm e j L) = L
    rw [cp_in_skip h j]
    funext x
    unfold cp_st
    exact if_neg (by omega)
theorem cp_in_pos {F T : Nat → Nat} {tm : Nat → Int} {e : Nat} {L : Nat → Int} (h : 0 ≤ L e) : ∀ n, 0 ≤ cp_in F T tm e n L e
  | 0 => h
  | j + 1 => by
    have ih := cp_in_pos (F := F) (T := T) (tm := tm) h j
    show 0 ≤ cp_st F T tm e j (cp_in F T tm e j L) e
    unfold cp_st
    split <;> omega
/-! the best so far: the least of what stands at deadlines below t, -1 where nothing stands -/
def cp_mn (a b : Int) : Int := if 0 ≤ b ∧ (a < 0 ∨ b < a) then b else a
def cp_B (G : Nat → Int) : Nat → Int
  | 0 => -1
  | t + 1 => cp_mn (cp_B G t) (G t)
theorem cp_mn_r {a b : Int} (ha : -1 ≤ a ∧ a ≤ 420) (hb : -1 ≤ b ∧ b ≤ 420) : -1 ≤ cp_mn a b ∧ cp_mn a b ≤ 420 := by
  unfold cp_mn
  split <;> omega
theorem cp_B_r {G : Nat → Int} (h : ∀ t, -1 ≤ G t ∧ G t ≤ 420) : ∀ t, -1 ≤ cp_B G t ∧ cp_B G t ≤ 420
  | 0 => by
    show -1 ≤ (-1 : Int) ∧ (-1 : Int) ≤ 420
    omega
  | t + 1 => cp_mn_r (cp_B_r h t) (h t)
theorem cp_B_le {G : Nat → Int} {s : Nat} (hs : 0 ≤ G s) : ∀ t, s < t → 0 ≤ cp_B G t ∧ cp_B G t ≤ G s
  | 0, h => by omega
  | t + 1, h => by
    show 0 ≤ cp_mn (cp_B G t) (G t) ∧ cp_mn (cp_B G t) (G t) ≤ G s
    unfold cp_mn
    by_cases e : s = t
    · subst e
      split <;> omega
    · have ih := cp_B_le hs t (by omega)
      split <;> omega
theorem cp_B_at {G : Nat → Int} : ∀ t, 0 ≤ cp_B G t → ∃ s, s < t ∧ 0 ≤ G s ∧ cp_B G t = G s
  | 0, h => by
    have h' : (0 : Int) ≤ -1 := h
    omega
  | t + 1, h => by
    have h' : 0 ≤ cp_mn (cp_B G t) (G t) := h
    show ∃ s, s < t + 1 ∧ 0 ≤ G s ∧ cp_mn (cp_B G t) (G t) = G s
    unfold cp_mn at h' ⊢
    by_cases c : 0 ≤ G t ∧ (cp_B G t < 0 ∨ G t < cp_B G t)
    · exact ⟨t, by omega, c.1, by rw [if_pos c]⟩
    · rw [if_neg c] at h'
      obtain ⟨s, h1, h2, h3⟩ := cp_B_at t h'
      exact ⟨s, by omega, h2, by rw [if_neg c]; exact h3⟩
theorem cp_B_flat {G : Nat → Int} {a : Nat} (h : ∀ t, a ≤ t → G t = -1) : ∀ d, cp_B G (a + d) = cp_B G a
  | 0 => rfl
  | d + 1 => by
    show cp_mn (cp_B G (a + d)) (G (a + d)) = cp_B G a
    rw [h (a + d) (by omega), cp_B_flat h d]
    unfold cp_mn
    exact if_neg (by omega)
/-! what stands at a deadline once N plans are through -/
def cp_lw (G : Nat → Int) (t : Nat) (c : Int) (x : Nat) : Int := if x = t ∧ (G x < 0 ∨ c < G x) then c else G x
def cp_G (ok : Nat → Bool) (ln cs : Nat → Nat) : Nat → Nat → Int
  | 0 => fun _ => -1
  | p + 1 => if ok p = true then cp_lw (cp_G ok ln cs p) (ln p) (cs p : Int) else cp_G ok ln cs p
theorem cp_G_t {ok : Nat → Bool} {ln cs : Nat → Nat} {p : Nat} (h : ok p = true) : cp_G ok ln cs (p + 1) = cp_lw (cp_G ok ln cs p) (ln p) (cs p : Int) := if_pos h
theorem cp_G_f {ok : Nat → Bool} {ln cs : Nat → Nat} {p : Nat} (h : ¬ ok p = true) : cp_G ok ln cs (p + 1) = cp_G ok ln cs p := if_neg h
theorem cp_G_lo (ok : Nat → Bool) (ln cs : Nat → Nat) : ∀ N t, -1 ≤ cp_G ok ln cs N t
  | 0, _ => by
    show (-1 : Int) ≤ -1
    omega
  | p + 1, t => by
    have ih := cp_G_lo ok ln cs p t
    by_cases h : ok p = true
    · rw [cp_G_t h]
      unfold cp_lw
      split <;> omega
    · rw [cp_G_f h]
      exact ih
theorem cp_G_at (ok : Nat → Bool) (ln cs : Nat → Nat) : ∀ N t, 0 ≤ cp_G ok ln cs N t → ∃ q, q < N ∧ ok q = true ∧ ln q = t ∧ cp_G ok ln cs N t = (cs q : Int)
  | 0, t, h => by
    have h' : (0 : Int) ≤ -1 := h
    omega
  | p + 1, t, h => by
    by_cases k : ok p = true
    · rw [cp_G_t k] at h ⊢
      unfold cp_lw at h ⊢
      by_cases c : t = ln p ∧ (cp_G ok ln cs p t < 0 ∨ (cs p : Int) < cp_G ok ln cs p t)
      · exact ⟨p, by omega, k, c.1.symm, by rw [if_pos c]⟩
      · rw [if_neg c] at h
        obtain ⟨q, h1, h2, h3, h4⟩ := cp_G_at ok ln cs p t h
        exact ⟨q, by omega, h2, h3, by rw [if_neg c]; exact h4⟩
    · rw [cp_G_f k] at h ⊢
      obtain ⟨q, h1, h2, h3, h4⟩ := cp_G_at ok ln cs p t h
      exact ⟨q, by omega, h2, h3, h4⟩
theorem cp_G_le (ok : Nat → Bool) (ln cs : Nat → Nat) {q : Nat} (hq : ok q = true) : ∀ N, q < N → 0 ≤ cp_G ok ln cs N (ln q) ∧ cp_G ok ln cs N (ln q) ≤ (cs q : Int)
  | 0, h => by omega
  | p + 1, h => by
    have lo := cp_G_lo ok ln cs p (ln q)
    by_cases k : ok p = true
    · rw [cp_G_t k]
      unfold cp_lw
      by_cases e : q = p
      · subst e
        split <;> omega
      · have ih := cp_G_le ok ln cs hq p (by omega)
        split <;> omega
    · rw [cp_G_f k]
      have e : q ≠ p := fun e => k (e ▸ hq)
      exact cp_G_le ok ln cs hq p (by omega)
/-! the jobs -/
def cp_H (n : Nat) (F T S A P : Nat → Nat) : Prop := ∀ j, j < n → F j < T j ∧ T j ≤ 5 ∧ A j ≤ S j ∧ S j ≤ 9 ∧ S j ≤ A j + 3 ∧ 1 ≤ P j ∧ P j ≤ 20
def cp_ok (S A : Nat → Nat) (n p : Nat) : Bool := decide (∀ j, j < n → cp_sv p j + A j ≤ S j)
theorem cp_okI {S A : Nat → Nat} {n p : Nat} : cp_ok S A n p = true ↔ ∀ j, j < n → cp_sv p j + A j ≤ S j := by
  unfold cp_ok
  exact decide_eq_true_iff
def cp_tm (S : Nat → Nat) (p j : Nat) : Int := (S j : Int) - (cp_sv p j : Int)
def cp_ln (F T S : Nat → Nat) (n p : Nat) : Nat := (cp_out F T (cp_tm S p) n 5 5).toNat
def cp_lf (F T A : Nat → Nat) (n : Nat) : Nat := (cp_out F T (fun j => (A j : Int)) n 5 5).toNat
def cp_cs (P : Nat → Nat) (p : Nat) : Nat → Nat
  | 0 => 0
  | j + 1 => cp_cs P p j + P j * cp_sv p j
def cp_GG (F T S A P : Nat → Nat) (n : Nat) : Nat → Int := cp_G (cp_ok S A n) (cp_ln F T S n) (fun p => cp_cs P p n) (2 ^ (2 * n))
def cp_CV (F T S A P : Nat → Nat) (n t : Nat) : Int := cp_B (cp_GG F T S A P n) (t + 1)
theorem cp_csb {P : Nat → Nat} (p : Nat) : ∀ n, (∀ j, j < n → P j ≤ 20) → cp_cs P p n ≤ 60 * n
  | 0, _ => Nat.le_refl _
  | n + 1, h => by
    have ih := cp_csb p n (fun j hj => h j (by omega))
    have k := Nat.mul_le_mul (h n (by omega)) (cp_sv3 p n)
    show cp_cs P p n + P n * cp_sv p n ≤ 60 * (n + 1)
    omega
theorem cp_cs0 (P : Nat → Nat) : ∀ n, cp_cs P 0 n = 0
  | 0 => rfl
  | n + 1 => by
    show cp_cs P 0 n + P n * cp_sv 0 n = 0
    rw [cp_cs0 P n, cp_sv0, Nat.mul_zero]
theorem cp_tmb {n p : Nat} {F T S A P : Nat → Nat} (H : cp_H n F T S A P) (ok : cp_ok S A n p = true) : ∀ j, j < n → F j < T j ∧ 0 ≤ cp_tm S p j ∧ cp_tm S p j ≤ 9 := by
  intro j hj
  have h := H j hj
  have k := cp_okI.mp ok j hj
  unfold cp_tm
  omega
theorem cp_ln45 {n p : Nat} {F T S A P : Nat → Nat} (H : cp_H n F T S A P) (ok : cp_ok S A n p = true) : cp_ln F T S n p ≤ 45 := by
  have k := cp_K_out (cp_tmb H ok) 5 5
  unfold cp_ln
  omega
theorem cp_cs420 {n : Nat} {F T S A P : Nat → Nat} (hn : n ≤ 7) (H : cp_H n F T S A P) (p : Nat) : cp_cs P p n ≤ 420 := by
  have b := cp_csb (P := P) p n (fun j hj => (H j hj).2.2.2.2.2.2)
  omega
theorem cp_lfle {n p : Nat} {F T S A P : Nat → Nat} (_ : cp_H n F T S A P) (ok : cp_ok S A n p = true) : cp_lf F T A n ≤ cp_ln F T S n p := by
  have k := cp_M_out (F := F) (T := T) (n := n) (tm := fun j => (A j : Int)) (tm' := cp_tm S p) (fun j hj => by
    have h := cp_okI.mp ok j hj
    show (A j : Int) ≤ (S j : Int) - (cp_sv p j : Int)
    omega) 5 5
  unfold cp_lf cp_ln
  omega
theorem cp_fast {n : Nat} {F T S A P : Nat → Nat} (H : cp_H n F T S A P) : ∃ q, q < 2 ^ (2 * n) ∧ cp_ok S A n q = true ∧ cp_ln F T S n q = cp_lf F T A n := by
  obtain ⟨q, hq, hd⟩ := cp_dig (fun j => S j - A j) n (fun j hj => by
    have h := H j hj
    show S j - A j < 4
    omega)
  have hd' : ∀ j, j < n → cp_sv q j = S j - A j := hd
  refine ⟨q, hq, cp_okI.mpr (fun j hj => ?_), ?_⟩
  · have h := H j hj
    rw [hd' j hj]
    omega
  · have e := cp_out_ext (F := F) (T := T) (n := n) (tm := cp_tm S q) (tm' := fun j => (A j : Int)) (fun j hj => by
      have h := H j hj
      have d := hd' j hj
      show (S j : Int) - (cp_sv q j : Int) = (A j : Int)
      omega) 5 5
    unfold cp_ln cp_lf
    rw [e]
theorem cp_ok0 {n : Nat} {F T S A P : Nat → Nat} (H : cp_H n F T S A P) : cp_ok S A n 0 = true := cp_okI.mpr (fun j hj => by
  have h := H j hj
  rw [cp_sv0]
  omega)
theorem cp_Gr {n : Nat} {F T S A P : Nat → Nat} (hn : n ≤ 7) (H : cp_H n F T S A P) (N t : Nat) : -1 ≤ cp_G (cp_ok S A n) (cp_ln F T S n) (fun p => cp_cs P p n) N t ∧ cp_G (cp_ok S A n) (cp_ln F T S n) (fun p => cp_cs P p n) N t ≤ 420 := by
  have lo := cp_G_lo (cp_ok S A n) (cp_ln F T S n) (fun p => cp_cs P p n) N t
  refine ⟨lo, ?_⟩
  by_cases h : 0 ≤ cp_G (cp_ok S A n) (cp_ln F T S n) (fun p => cp_cs P p n) N t
  · obtain ⟨q, h1, h2, h3, h4⟩ := cp_G_at (cp_ok S A n) (cp_ln F T S n) (fun p => cp_cs P p n) N t h
    have b := cp_cs420 hn H q
    have h5 : cp_G (cp_ok S A n) (cp_ln F T S n) (fun p => cp_cs P p n) N t = (cp_cs P q n : Int) := h4
    omega
  · omega
theorem cp_GGr {n : Nat} {F T S A P : Nat → Nat} (hn : n ≤ 7) (H : cp_H n F T S A P) : ∀ t, -1 ≤ cp_GG F T S A P n t ∧ cp_GG F T S A P n t ≤ 420 := cp_Gr hn H (2 ^ (2 * n))
theorem cp_GG46 {n : Nat} {F T S A P : Nat → Nat} (H : cp_H n F T S A P) : ∀ t, 46 ≤ t → cp_GG F T S A P n t = -1 := by
  intro t ht
  have lo : -1 ≤ cp_GG F T S A P n t := cp_G_lo _ _ _ _ _
  by_cases h : 0 ≤ cp_GG F T S A P n t
  · obtain ⟨q, h1, h2, h3, h4⟩ := cp_G_at (cp_ok S A n) (cp_ln F T S n) (fun p => cp_cs P p n) (2 ^ (2 * n)) t h
    have b := cp_ln45 H h2
    omega
  · omega
theorem cp_CVr {n : Nat} {F T S A P : Nat → Nat} (hn : n ≤ 7) (H : cp_H n F T S A P) (t : Nat) : -1 ≤ cp_CV F T S A P n t ∧ cp_CV F T S A P n t ≤ 420 := cp_B_r (cp_GGr hn H) (t + 1)
/-- the curve gives something from the fast plan's length on -/
theorem cp_CVf {n : Nat} {F T S A P : Nat → Nat} (H : cp_H n F T S A P) (t : Nat) : 0 ≤ cp_CV F T S A P n t ↔ cp_lf F T A n ≤ t := by
  constructor
  · intro h
    obtain ⟨s, h1, h2, h3⟩ := cp_B_at (G := cp_GG F T S A P n) (t + 1) h
    obtain ⟨q, k1, k2, k3, k4⟩ := cp_G_at (cp_ok S A n) (cp_ln F T S n) (fun p => cp_cs P p n) (2 ^ (2 * n)) s h2
    have b := cp_lfle H k2
    omega
  · intro h
    obtain ⟨q, k1, k2, k3⟩ := cp_fast H
    have g : 0 ≤ cp_GG F T S A P n (cp_ln F T S n q) := (cp_G_le (cp_ok S A n) (cp_ln F T S n) (fun p => cp_cs P p n) k2 (2 ^ (2 * n)) k1).1
    rw [k3] at g
    exact (cp_B_le (G := cp_GG F T S A P n) g (t + 1) (by omega)).1
theorem cp_lf45 {n : Nat} {F T S A P : Nat → Nat} (H : cp_H n F T S A P) : cp_lf F T A n ≤ 45 := Nat.le_trans (cp_lfle H (cp_ok0 H)) (cp_ln45 H (cp_ok0 H))
/-- from 45 on it gives 0: the slow plan -/
theorem cp_CV45 {n : Nat} {F T S A P : Nat → Nat} (H : cp_H n F T S A P) {t : Nat} (ht : 45 ≤ t) : cp_CV F T S A P n t = 0 := by
  have fl := cp_B_flat (G := cp_GG F T S A P n) (a := 46) (cp_GG46 H) (t - 45)
  have e : 46 + (t - 45) = t + 1 := by omega
  rw [e] at fl
  have g : 0 ≤ cp_GG F T S A P n (cp_ln F T S n 0) ∧ cp_GG F T S A P n (cp_ln F T S n 0) ≤ (cp_cs P 0 n : Int) := cp_G_le (cp_ok S A n) (cp_ln F T S n) (fun p => cp_cs P p n) (cp_ok0 H) (2 ^ (2 * n)) (Nat.two_pow_pos _)
  have c0 := cp_cs0 P n
  have l := cp_ln45 H (cp_ok0 H)
  have b := cp_B_le (G := cp_GG F T S A P n) g.1 46 (by omega)
  unfold cp_CV
  rw [fl]
  omega
