/-- the complement within the eight states -/
def fr_nt (x : Int32) : Int32 := 255 &&& (x ^^^ (-1))
theorem fr_nt_8 (x : Int32) : fr_sub (fr_nt x) 255 := fr_l _ _
/-- the value of one(q) over x, of two(q) over x and y, as the class reckons them -/
def fr_v1 (a d : Nat → Int32) (c : Nat) (q : Nat) (x : Int32) : Int32 :=
  if q = 1 then fr_bf a (x &&& fr_sa a d c 255)
  else if q = 2 then fr_un a 255 (x &&& fr_sa a d c 255)
  else if q = 3 then fr_sa a d c x
  else if q = 4 then fr_nt (fr_bf a (fr_nt x &&& fr_sa a d c 255))
  else if q = 5 then fr_nt (fr_sa a d c (fr_nt x))
  else if q = 6 then fr_nt (fr_un a 255 (fr_nt x &&& fr_sa a d c 255))
  else fr_nt x
def fr_v2 (a d : Nat → Int32) (c : Nat) (q : Nat) (x y : Int32) : Int32 :=
  if q = 1 then x ||| y
  else if q = 2 then fr_un a x (y &&& fr_sa a d c 255)
  else if q = 3 then fr_nt (fr_sa a d c (fr_nt y) ||| fr_un a (fr_nt y) (fr_nt y &&& (x ^^^ (-1)) &&& fr_sa a d c 255))
  else x &&& y
def fr_val (a mk d : Nat → Int32) (c : Nat) (k q : Nat) (x y : Int32) : Int32 :=
  if k = 0 then mk q else if k = 1 then fr_v1 a d c q x else fr_v2 a d c q x y
theorem fr_un_8 {a : Nat → Int32} {f g : Int32} (hg : fr_sub g 255) : fr_sub (fr_un a f g) 255 :=
  fr_un_le hg (fr_tr (fr_r _ _) (fr_bf_8 a _))
theorem fr_sa_8 {a d : Nat → Int32} {c : Nat} {f : Int32} (h : fr_sub f 255) : fr_sub (fr_sa a d c f) 255 := fr_tr (fr_sa_s a d c f) h
theorem fr_v1_8 {a d : Nat → Int32} {c q : Nat} {x : Int32} (h : fr_sub x 255) : fr_sub (fr_v1 a d c q x) 255 := by
  unfold fr_v1
  split
  · exact fr_bf_8 a _
  split
  · exact fr_un_8 (fr_tr (fr_l _ _) h)
  split
  · exact fr_sa_8 h
  split
  · exact fr_nt_8 _
  split
  · exact fr_nt_8 _
  split
  · exact fr_nt_8 _
  · exact fr_nt_8 _
theorem fr_v2_8 {a d : Nat → Int32} {c q : Nat} {x y : Int32} (h : fr_sub x 255) (g : fr_sub y 255) : fr_sub (fr_v2 a d c q x y) 255 := by
  unfold fr_v2
  split
  · exact fr_j h g
  split
  · exact fr_un_8 (fr_tr (fr_l _ _) g)
  split
  · exact fr_nt_8 _
  · exact fr_tr (fr_l _ _) h
/-- a formula's row is good: its kind k, its number q, its parts l and r -/
def fr_ok (i k q l r : Nat) : Prop := l < 20 ∧ r < 20 ∧ ((k = 0 ∧ q < 4) ∨ (k = 1 ∧ q < 7 ∧ l < i) ∨ (k = 2 ∧ q < 4 ∧ l < i ∧ r < i))
theorem fr_val_c {a mk d : Nat → Int32} {c i k q l r : Nat} (h : fr_ok i k q l r) {w w' : Nat → Int32} (e : ∀ t, t < i → w t = w' t) : fr_val a mk d c k q (w l) (w r) = fr_val a mk d c k q (w' l) (w' r) := by
  obtain ⟨_, _, h⟩ := h
  unfold fr_val
  rcases h with ⟨h, _⟩ | ⟨h, _, hl⟩ | ⟨h, _, hl, hr⟩
  · rw [if_pos h, if_pos h]
  · subst h
    rw [e l hl]
    rfl
  · rw [e l hl, e r hr]
/-- the first n values are what they must be -/
def fr_gd (a mk d : Nat → Int32) (c : Nat) (kd qq ll rr : Nat → Nat) (n : Nat) (w : Nat → Int32) : Prop :=
  ∀ i, i < n → w i = fr_val a mk d c (kd i) (qq i) (w (ll i)) (w (rr i))
theorem fr_gd_0 (a mk d : Nat → Int32) (c : Nat) (kd qq ll rr : Nat → Nat) (w : Nat → Int32) : fr_gd a mk d c kd qq ll rr 0 w := fun i h => absurd h (Nat.not_lt_zero i)
theorem fr_gd_s {a mk d : Nat → Int32} {c : Nat} {kd qq ll rr : Nat → Nat} {n : Nat} {w : Nat → Int32} {v : Int32} (ok : ∀ i, i < n + 1 → fr_ok i (kd i) (qq i) (ll i) (rr i)) (h : fr_gd a mk d c kd qq ll rr n w) (hv : v = fr_val a mk d c (kd n) (qq n) (w (ll n)) (w (rr n))) : fr_gd a mk d c kd qq ll rr (n + 1) (upd w n v) := by
  intro i hi
  have e : ∀ t, t < i → w t = upd w n v t := fun t ht => (pk_un (by omega)).symm
  rw [← fr_val_c (ok i hi) e]
  by_cases z : i = n
  · subst z
    rw [pk_us, hv]
  · rw [pk_un z]
    exact h i (by omega)
theorem fr_gd_u {a mk d : Nat → Int32} {c : Nat} {kd qq ll rr : Nat → Nat} {n : Nat} {w w' : Nat → Int32} (ok : ∀ i, i < n → fr_ok i (kd i) (qq i) (ll i) (rr i)) (h : fr_gd a mk d c kd qq ll rr n w) (h' : fr_gd a mk d c kd qq ll rr n w') : ∀ i, i < n → w i = w' i := by
  intro i
  induction i using Nat.strongRecOn with
  | _ i ih =>
    intro hi
    rw [h i hi, h' i hi]
    exact fr_val_c (ok i hi) fun t ht => ih t ht (by omega)
theorem fr_gd_8 {a mk d : Nat → Int32} {c : Nat} {kd qq ll rr : Nat → Nat} {n : Nat} {w : Nat → Int32} (hm : ∀ i, fr_sub (mk i) 255) (ok : ∀ i, i < n → fr_ok i (kd i) (qq i) (ll i) (rr i)) (h : fr_gd a mk d c kd qq ll rr n w) : ∀ i, i < n → fr_sub (w i) 255 := by
  intro i
  induction i using Nat.strongRecOn with
  | _ i ih =>
    intro hi
    rw [h i hi]
    obtain ⟨_, _, o⟩ := ok i hi
    unfold fr_val
    rcases o with ⟨o, _⟩ | ⟨o, _, hl⟩ | ⟨o, _, hl, hr⟩
    · rw [if_pos o]; exact hm _
    · rw [o, if_neg (by decide), if_pos rfl]
      exact fr_v1_8 (ih _ hl (by omega))
    · rw [o, if_neg (by decide), if_neg (by decide)]
      exact fr_v2_8 (ih _ hl (by omega)) (ih _ hr (by omega))
/-- the reference's way to write the last of two -/
theorem fr_y3a (x y : Int32) : fr_nt y &&& (255 &&& (x ^^^ (-1))) = fr_nt y &&& (x ^^^ (-1)) := by
  refine b_ext fun i hi => ?_
  unfold fr_nt
  simp only [b_and, b_xor, b_m1 i hi]
  cases bt 255 i <;> cases bt x i <;> cases bt y i <;> rfl
theorem fr_y3b (A B : Int32) : 255 &&& (B ^^^ (-1)) &&& (A ^^^ (-1)) = fr_nt (A ||| B) := by
  refine b_ext fun i hi => ?_
  unfold fr_nt
  simp only [b_and, b_xor, b_or, b_m1 i hi]
  cases bt 255 i <;> cases bt A i <;> cases bt B i <;> rfl
theorem fr_ac (x y : Int32) : x &&& y = y &&& x := b_ext fun i _ => by rw [b_and, b_and, Bool.and_comm]
/-- numbers of 0 to 255 are sets of states -/
theorem fr_set : ∀ n, n < 256 → ∀ i, i < 32 → bt (nI n) i = true → i < 8 := by decide +kernel
theorem fr_set8 {n : Nat} (h : n ≤ 255) : fr_sub (nI n) 255 := fr_255.mpr fun i p => by
  rcases Nat.lt_or_ge i 32 with hi | hi
  · exact fr_set n (by omega) i hi p
  · rw [b_big hi] at p; exact Bool.noConfusion p
theorem fr_set0 : fr_sub 0 255 := fun i p => by rw [b_0] at p; exact Bool.noConfusion p
theorem fr_pos {x : Int32} (h : fr_sub x 255) : ∃ n : Nat, n < 256 ∧ x = nI n := by
  have e : x = x &&& 255 := fr_anti (fr_i (fr_refl x) h) (fr_l _ _)
  refine ⟨x.toBitVec.toNat % 256, Nat.mod_lt _ (by decide), ?_⟩
  have hx : x = nI x.toBitVec.toNat := by
    apply Int32.toBitVec_inj.1
    show x.toBitVec = BitVec.ofNat 32 x.toBitVec.toNat
    simp
  apply Int32.toBitVec_inj.1
  apply BitVec.eq_of_toNat_eq
  have h1 : (x &&& 255).toBitVec.toNat = x.toBitVec.toNat % 256 := by
    rw [Int32.toBitVec_and, BitVec.toNat_and]
    exact Nat.and_two_pow_sub_one_eq_mod _ 8
  show x.toBitVec.toNat = (BitVec.ofNat 32 (x.toBitVec.toNat % 256)).toNat
  rw [BitVec.toNat_ofNat, ← h1, ← e]
  have := x.toBitVec.isLt
  omega
