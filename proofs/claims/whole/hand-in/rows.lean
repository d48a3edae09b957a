section
def bt (x : Int32) (i : Nat) : Bool := x.toBitVec.getLsbD i
theorem b_ext {x y : Int32} (h : ∀ i, i < 32 → bt x i = bt y i) : x = y := Int32.toBitVec_inj.mp (BitVec.eq_of_getLsbD_eq (fun i hi => h i hi))
theorem b_or (x y : Int32) (i : Nat) : bt (x ||| y) i = (bt x i || bt y i) := by unfold bt; rw [Int32.toBitVec_or, BitVec.getLsbD_or]
theorem b_and (x y : Int32) (i : Nat) : bt (x &&& y) i = (bt x i && bt y i) := by unfold bt; rw [Int32.toBitVec_and, BitVec.getLsbD_and]
theorem b_xor (x y : Int32) (i : Nat) : bt (x ^^^ y) i = (bt x i ^^ bt y i) := by unfold bt; rw [Int32.toBitVec_xor, BitVec.getLsbD_xor]
theorem b_big {x : Int32} {i : Nat} (h : 32 ≤ i) : bt x i = false := BitVec.getLsbD_of_ge _ _ h
theorem b_255 (i : Nat) : bt 255 i = decide (i < 8) := by
  rcases Nat.lt_or_ge i 32 with h | h
  · exact (by decide +kernel : ∀ i, i < 32 → bt 255 i = decide (i < 8)) i h
  · rw [b_big h, decide_eq_false (by omega)]
theorem b_65535 (i : Nat) : bt 65535 i = decide (i < 16) := by
  rcases Nat.lt_or_ge i 32 with h | h
  · exact (by decide +kernel : ∀ i, i < 32 → bt 65535 i = decide (i < 16)) i h
  · rw [b_big h, decide_eq_false (by omega)]
theorem b_m1 : ∀ i, i < 32 → bt (-1) i = true := by decide +kernel
theorem b_0 (i : Nat) : bt 0 i = false := BitVec.getLsbD_zero
theorem s_l : ∀ n, n < 32 → ((nI n &&& 31).toBitVec.smod 32).toNat = n := by decide +kernel
theorem s_u : ∀ n, n < 32 → (((nI n).toUInt32 &&& Int32.toUInt32 31).toBitVec % 32).toNat = n := by decide +kernel
theorem b_shl (n : Nat) (hn : n < 32) (x : Int32) {i : Nat} (hi : i < 32) : bt (x <<< (nI n &&& 31)) i = (decide (n ≤ i) && bt x (i - n)) := by
  unfold bt
  rw [Int32.toBitVec_shiftLeft]
  show (x.toBitVec <<< ((nI n &&& 31).toBitVec.smod 32).toNat).getLsbD i = _
  rw [s_l n hn, BitVec.getLsbD_shiftLeft]
  rcases Nat.lt_or_ge i n with h | h
  · simp [h, Nat.not_le.mpr h]
  · simp [hi, h, Nat.not_lt.mpr h]
theorem b_ushr (n : Nat) (hn : n < 32) (x : Int32) (i : Nat) : bt ((x.toUInt32 >>> ((nI n).toUInt32 &&& Int32.toUInt32 31)).toInt32) i = bt x (n + i) := by
  show (x.toUInt32 >>> ((nI n).toUInt32 &&& Int32.toUInt32 31)).toBitVec.getLsbD i = x.toUInt32.toBitVec.getLsbD (n + i)
  rw [UInt32.toBitVec_shiftRight]
  show (x.toUInt32.toBitVec >>> (((nI n).toUInt32 &&& Int32.toUInt32 31).toBitVec % 32).toNat).getLsbD i = _
  rw [s_u n hn, BitVec.getLsbD_ushiftRight]
theorem b_sshr (n : Nat) (hn : n < 32) (x : Int32) {i : Nat} (hi : i < 32) : bt (x >>> (nI n &&& 31)) i = if n + i < 32 then bt x (n + i) else bt x 31 := by
  unfold bt
  rw [Int32.toBitVec_shiftRight]
  show (x.toBitVec.sshiftRight ((nI n &&& 31).toBitVec.smod 32).toNat).getLsbD i = _
  rw [s_l n hn, BitVec.getLsbD_sshiftRight, BitVec.msb_eq_getLsbD_last]
  simp [hi]
theorem b_shl8 (x : Int32) {i : Nat} (hi : i < 32) : bt (x <<< ((8 : Int32) &&& 31)) i = (decide (8 ≤ i) && bt x (i - 8)) := b_shl 8 (by omega) x hi
theorem b_shl16 (x : Int32) {i : Nat} (hi : i < 32) : bt (x <<< ((16 : Int32) &&& 31)) i = (decide (16 ≤ i) && bt x (i - 16)) := b_shl 16 (by omega) x hi
theorem b_shl24 (x : Int32) {i : Nat} (hi : i < 32) : bt (x <<< ((24 : Int32) &&& 31)) i = (decide (24 ≤ i) && bt x (i - 24)) := b_shl 24 (by omega) x hi
theorem b_sshr8 (x : Int32) {i : Nat} (hi : i < 32) : bt (x >>> ((8 : Int32) &&& 31)) i = if 8 + i < 32 then bt x (8 + i) else bt x 31 := b_sshr 8 (by omega) x hi
theorem pk_us {f : Nat → Int32} {k : Nat} {x : Int32} : upd f k x k = x := if_pos rfl
theorem pk_un {f : Nat → Int32} {k j : Nat} {x : Int32} (h : j ≠ k) : upd f k x j = f j := if_neg h
theorem pk_sub {a b : Nat} (h : b ≤ a) : nI a - nI b = nI (a - b) := by
  obtain ⟨c, rfl⟩ : ∃ c, a = c + b := ⟨a - b, by omega⟩
  rw [← nI_add, Int32.add_sub_cancel, Nat.add_sub_cancel]
theorem pk_m1 (n : Nat) : nI (n + 1) + (-1) = nI n := by
  rw [← nI_1, Int32.add_assoc, show (1 : Int32) + (-1) = 0 from rfl, Int32.add_zero]
theorem pk_ix (x : Int32) {n : Nat} (hn : n < 2 ^ 31) : x < 0 ∨ nI n ≤ x ∨ ∃ j : Nat, j < n ∧ x = nI j := by
  by_cases h : x < 0
  · exact Or.inl h
  · obtain ⟨j, hj, rfl⟩ := nI_of h
    by_cases h2 : j < n
    · exact Or.inr (Or.inr ⟨j, h2, rfl⟩)
    · exact Or.inr (Or.inl (nI_le (by omega) hj))
theorem pk_le {x y : Int32} {A B : Prop} (a b : Nat) (f : a ≤ b → A) (g : b < a → B) (hx : x = nI a := by rfl) (hy : y = nI b := by rfl) (ha : a < 2 ^ 31 := by omega) (hb : b < 2 ^ 31 := by omega) : (x ≤ y → A) ∧ (¬ x ≤ y → B) := by
  subst hx hy
  rw [nI_leI ha hb]
  exact ⟨f, fun z => g (by omega)⟩
theorem pk_lt {x y : Int32} {A B : Prop} (a b : Nat) (f : a < b → A) (g : b ≤ a → B) (hx : x = nI a := by rfl) (hy : y = nI b := by rfl) (ha : a < 2 ^ 31 := by omega) (hb : b < 2 ^ 31 := by omega) : (x < y → A) ∧ (¬ x < y → B) := by
  subst hx hy
  rw [nI_ltI ha hb]
  exact ⟨f, fun z => g (by omega)⟩
theorem pk_eq {x y : Int32} {A B : Prop} (a b : Nat) (f : a = b → A) (g : a ≠ b → B) (hx : x = nI a := by rfl) (hy : y = nI b := by rfl) (ha : a < 2 ^ 31 := by omega) (hb : b < 2 ^ 31 := by omega) : (x = y → A) ∧ (¬ x = y → B) := by
  subst hx hy
  rw [nI_eq ha hb]
  exact ⟨f, g⟩
theorem pk_in {x : Int32} (n N : Nat) (h : n < N) (hx : x = nI n := by rfl) (hN : N < 2 ^ 31 := by omega) : vp_in x N := by
  subst hx
  exact vp_in_nI h hN
theorem pk_cl {x : Int32} (n : Nat) (hx : x = nI n := by rfl) (h : n < 2 ^ 31 := by omega) : x.toNatClampNeg = n := by
  subst hx
  exact nI_clamp h
theorem ek_if {c d A B : Prop} (e : c ↔ d) (f : d → A) (g : ¬ d → B) : (c → A) ∧ (¬ c → B) :=
  ⟨fun z => f (e.mp z), fun z => g (fun y => z (e.mpr y))⟩
theorem ek_v {α : Sort _} {P : α → Prop} {a b : α} (e : a = b) (h : P b) : P a := e ▸ h
theorem fr_1t : ∀ s, s < 8 → ∀ i, i < 32 → bt ((1 : Int32) <<< (nI s &&& 31)) i = decide (i = s) := by decide +kernel
theorem fr_1 {s : Nat} (hs : s < 8) (i : Nat) : bt ((1 : Int32) <<< (nI s &&& 31)) i = true ↔ i = s := by
  rcases Nat.lt_or_ge i 32 with h | h
  · rw [fr_1t s hs i h]; exact decide_eq_true_iff
  · rw [b_big h]; exact ⟨fun z => (nomatch z), fun z => by omega⟩
theorem fr_b1 : ∀ i, i < 32 → bt 1 i = decide (i = 0) := by decide +kernel
theorem fr_and {x y : Int32} {i : Nat} : bt (x &&& y) i = true ↔ bt x i = true ∧ bt y i = true := by rw [b_and]; simp
theorem fr_or {x y : Int32} {i : Nat} : bt (x ||| y) i = true ↔ bt x i = true ∨ bt y i = true := by rw [b_or]; simp
theorem fr_nz {x : Int32} : ¬ x = 0 ↔ ∃ i, bt x i = true := by
  constructor
  · intro h
    refine Classical.byContradiction fun n => h (b_ext fun i _ => ?_)
    rw [b_0]
    cases hb : bt x i
    · rfl
    · exact absurd ⟨i, hb⟩ n
  · intro ⟨i, hi⟩ e
    rw [e, b_0] at hi
    exact Bool.noConfusion hi
theorem fr_bit {S : Int32} {s : Nat} (hs : s < 8) : S &&& ((1 : Int32) <<< (nI s &&& 31)) = 0 ↔ bt S s = false := by
  constructor
  · intro h
    cases hb : bt S s
    · rfl
    · exact absurd h (fr_nz.mpr ⟨s, fr_and.mpr ⟨hb, (fr_1 hs s).mpr rfl⟩⟩)
  · intro h
    refine Classical.byContradiction fun n => ?_
    obtain ⟨i, hi⟩ := fr_nz.mp n
    have h2 := fr_and.mp hi
    have e := (fr_1 hs i).mp h2.2
    rw [e, h] at h2
    exact Bool.noConfusion h2.1
theorem fr_sh {S : Int32} {s : Nat} (hs : s < 8) : (S >>> (nI s &&& 31)) &&& 1 = 1 ↔ ¬ S &&& ((1 : Int32) <<< (nI s &&& 31)) = 0 := by
  have h0 : bt ((S >>> (nI s &&& 31)) &&& 1) 0 = bt S s := by
    rw [b_and, b_sshr s (by omega) S (by omega), fr_b1 0 (by omega), if_pos (by omega)]
    simp
  rw [fr_bit hs, ← h0]
  constructor
  · intro h
    rw [h]
    decide
  · intro h
    refine b_ext fun i hi => ?_
    rw [fr_b1 i hi]
    by_cases e : i = 0
    · rw [e]
      cases hb : bt ((S >>> (nI s &&& 31)) &&& 1) 0
      · exact absurd hb h
      · rfl
    · rw [b_and, fr_b1 i hi, decide_eq_false e]
      simp
end
section
def fr_sub (x y : Int32) : Prop := ∀ i, bt x i = true → bt y i = true
theorem fr_refl (x : Int32) : fr_sub x x := fun _ h => h
theorem fr_tr {x y z : Int32} (h : fr_sub x y) (g : fr_sub y z) : fr_sub x z := fun i p => g i (h i p)
theorem fr_anti {x y : Int32} (h : fr_sub x y) (g : fr_sub y x) : x = y := b_ext fun i _ => Bool.eq_iff_iff.mpr ⟨h i, g i⟩
theorem fr_l (x y : Int32) : fr_sub (x &&& y) x := fun _ h => (fr_and.mp h).1
theorem fr_r (x y : Int32) : fr_sub (x &&& y) y := fun _ h => (fr_and.mp h).2
theorem fr_i {x y z : Int32} (h : fr_sub x y) (g : fr_sub x z) : fr_sub x (y &&& z) := fun i p => fr_and.mpr ⟨h i p, g i p⟩
theorem fr_am {x y z w : Int32} (h : fr_sub x y) (g : fr_sub z w) : fr_sub (x &&& z) (y &&& w) := fr_i (fr_tr (fr_l x z) h) (fr_tr (fr_r x z) g)
theorem fr_j {x y z : Int32} (h : fr_sub x z) (g : fr_sub y z) : fr_sub (x ||| y) z := fun i p => (fr_or.mp p).elim (h i) (g i)
theorem fr_jl (x y : Int32) : fr_sub x (x ||| y) := fun _ p => fr_or.mpr (Or.inl p)
theorem fr_jr (x y : Int32) : fr_sub y (x ||| y) := fun _ p => fr_or.mpr (Or.inr p)
theorem fr_eqs {x y : Int32} (h : x = y) : fr_sub x y := h ▸ fr_refl x
/-- before: the states below n with an arc into S -/
def fr_bfN (a : Nat → Int32) (S : Int32) : Nat → Int32
  | 0 => 0
  | s + 1 => if a s &&& S = 0 then fr_bfN a S s else fr_bfN a S s ||| ((1 : Int32) <<< (nI s &&& 31))
def fr_bf (a : Nat → Int32) (S : Int32) : Int32 := fr_bfN a S 8
theorem fr_bfN_iff (a : Nat → Int32) (S : Int32) : ∀ n, n ≤ 8 → ∀ i, bt (fr_bfN a S n) i = true ↔ i < n ∧ ¬ a i &&& S = 0 := by
  intro n
  induction n with
  | zero =>
    intro _ i
    show bt 0 i = true ↔ _
    rw [b_0]
    exact ⟨fun z => (nomatch z), fun z => absurd z.1 (Nat.not_lt_zero i)⟩
  | succ n ih =>
    intro hn i
    have h := ih (by omega) i
    show bt (if a n &&& S = 0 then fr_bfN a S n else fr_bfN a S n ||| ((1 : Int32) <<< (nI n &&& 31))) i = true ↔ _
    by_cases z : a n &&& S = 0
    · rw [if_pos z, h]
      constructor
      · intro ⟨p, q⟩
        exact ⟨by omega, q⟩
      · intro ⟨p, q⟩
        refine ⟨?_, q⟩
        rcases Nat.lt_or_ge i n with l | l
        · exact l
        · have e : i = n := by omega
          rw [e] at q
          exact absurd z q
    · rw [if_neg z, fr_or, h, fr_1 (by omega) i]
      constructor
      · intro p
        rcases p with ⟨p, q⟩ | p
        · exact ⟨by omega, q⟩
        · rw [p]
          exact ⟨by omega, z⟩
      · intro ⟨p, q⟩
        by_cases e : i = n
        · exact Or.inr e
        · exact Or.inl ⟨by omega, q⟩
theorem fr_bf_iff {a : Nat → Int32} {S : Int32} {i : Nat} : bt (fr_bf a S) i = true ↔ i < 8 ∧ ∃ t, bt (a i) t = true ∧ bt S t = true := by
  rw [fr_bf, fr_bfN_iff a S 8 (by omega) i, fr_nz]
  constructor
  · intro ⟨p, t, ht⟩
    exact ⟨p, t, fr_and.mp ht⟩
  · intro ⟨p, t, ht⟩
    exact ⟨p, t, fr_and.mpr ht⟩
theorem fr_bf_m {a : Nat → Int32} {S T : Int32} (h : fr_sub S T) : fr_sub (fr_bf a S) (fr_bf a T) := by
  intro i p
  obtain ⟨q, t, r, s⟩ := fr_bf_iff.mp p
  exact fr_bf_iff.mpr ⟨q, t, r, h t s⟩
theorem fr_255 {x : Int32} : fr_sub x 255 ↔ ∀ i, bt x i = true → i < 8 := by
  constructor
  · intro h i p
    have q := h i p
    rw [b_255] at q
    exact of_decide_eq_true q
  · intro h i p
    rw [b_255]
    exact decide_eq_true (h i p)
theorem fr_bf_8 (a : Nat → Int32) (S : Int32) : fr_sub (fr_bf a S) 255 := fr_255.mpr fun _ p => (fr_bf_iff.mp p).1
/-- counting -/
def fr_cn (p : Nat → Bool) : Nat → Nat
  | 0 => 0
  | n + 1 => fr_cn p n + (if p n = true then 1 else 0)
theorem fr_cn_le (p : Nat → Bool) : ∀ n, fr_cn p n ≤ n := by
  intro n
  induction n with
  | zero => exact Nat.le_refl 0
  | succ n ih =>
    show fr_cn p n + (if p n = true then 1 else 0) ≤ n + 1
    split <;> omega
theorem fr_cn_m {p q : Nat → Bool} (h : ∀ i, p i = true → q i = true) : ∀ n, fr_cn p n ≤ fr_cn q n := by
  intro n
  induction n with
  | zero => exact Nat.le_refl 0
  | succ n ih =>
    show fr_cn p n + (if p n = true then 1 else 0) ≤ fr_cn q n + (if q n = true then 1 else 0)
    by_cases z : p n = true
    · rw [if_pos z, if_pos (h n z)]; omega
    · rw [if_neg z]; omega
theorem fr_cn_lt {p q : Nat → Bool} (h : ∀ i, p i = true → q i = true) {j : Nat} (hq : q j = true) (hp : ¬ p j = true) : ∀ n, j < n → fr_cn p n < fr_cn q n := by
  intro n
  induction n with
  | zero => intro z; exact absurd z (Nat.not_lt_zero j)
  | succ n ih =>
    intro z
    show fr_cn p n + (if p n = true then 1 else 0) < fr_cn q n + (if q n = true then 1 else 0)
    by_cases e : j = n
    · subst e
      rw [if_neg hp, if_pos hq]
      have := fr_cn_m h j
      omega
    · have := ih (by omega)
      by_cases z : p n = true
      · rw [if_pos z, if_pos (h n z)]; omega
      · rw [if_neg z]; omega
/-- iteration -/
def fr_it {α : Type} (F : α → α) : Nat → α → α
  | 0, x => x
  | n + 1, x => fr_it F n (F x)
theorem fr_it_ind {α : Type} {F : α → α} (P : α → Prop) (h : ∀ x, P x → P (F x)) : ∀ n x, P x → P (fr_it F n x) := by
  intro n
  induction n with
  | zero => exact fun x p => p
  | succ n ih => exact fun x p => ih (F x) (h x p)
theorem fr_it_c {α : Type} {F : α → α} {x : α} (h : F x = x) : ∀ n, fr_it F n x = x := by
  intro n
  induction n with
  | zero => rfl
  | succ n ih =>
    show fr_it F n (F x) = x
    rw [h, ih]
theorem fr_fix {α : Type} {F : α → α} (P : α → Prop) (μ : α → Nat) (hP : ∀ x, P x → P (F x)) (hm : ∀ x, P x → F x ≠ x → μ (F x) < μ x) : ∀ n x, P x → μ x ≤ n → F (fr_it F n x) = fr_it F n x := by
  intro n
  induction n with
  | zero =>
    intro x hx h
    show F x = x
    refine Classical.byContradiction fun z => ?_
    have := hm x hx z
    omega
  | succ n ih =>
    intro x hx h
    show F (fr_it F n (F x)) = fr_it F n (F x)
    by_cases e : F x = x
    · rw [e, fr_it_c e n, e]
    · have := hm x hx e
      exact ih (F x) (hP x hx) (by omega)
/-- a bit that two words differ in -/
theorem fr_ne {x y : Int32} (h : x ≠ y) (s : fr_sub x y) : ∃ i, bt y i = true ∧ ¬ bt x i = true := by
  refine Classical.byContradiction fun n => h (fr_anti s fun i p => ?_)
  refine Classical.byContradiction fun q => n ⟨i, p, q⟩
/-- until -/
def fr_un (a : Nat → Int32) (f g : Int32) : Int32 := fr_it (fun r => r ||| (f &&& fr_bf a r)) 8 g
theorem fr_un_ge (a : Nat → Int32) (f g : Int32) : fr_sub g (fr_un a f g) :=
  fr_it_ind (fun r => fr_sub g r) (fun r h => fr_tr h (fr_jl _ _)) 8 g (fr_refl g)
theorem fr_un_le {a : Nat → Int32} {f g W : Int32} (hg : fr_sub g W) (hc : fr_sub (f &&& fr_bf a W) W) : fr_sub (fr_un a f g) W :=
  fr_it_ind (fun r => fr_sub r W) (fun _ h => fr_j h (fr_tr (fr_am (fr_refl f) (fr_bf_m h)) hc)) 8 g hg
theorem fr_un_cl (a : Nat → Int32) (f g : Int32) : fr_sub (f &&& fr_bf a (fr_un a f g)) (fr_un a f g) := by
  have e := fr_fix (F := fun r => r ||| (f &&& fr_bf a r)) (fun _ => True) (fun r => fr_cn (fun i => !bt r i) 8) (fun _ _ => trivial) (fun r _ hne => ?_) 8 g trivial (fr_cn_le _ 8)
  · have e2 : fr_un a f g ||| (f &&& fr_bf a (fr_un a f g)) = fr_un a f g := e
    exact fr_tr (fr_jr _ _) (fr_eqs e2)
  · obtain ⟨i, p, q⟩ := fr_ne (x := r) (fun z => hne z.symm) (fr_jl r (f &&& fr_bf a r))
    have hi : i < 8 := by
      rcases fr_or.mp p with p | p
      · exact absurd p q
      · exact (fr_bf_iff.mp (fr_and.mp p).2).1
    refine fr_cn_lt (j := i) (fun j h => ?_) ?_ ?_ 8 hi
    · have h' : (!bt (r ||| (f &&& fr_bf a r)) j) = true := h
      rw [b_or] at h'
      show (!bt r j) = true
      cases hb : bt r j
      · rfl
      · rw [hb] at h'
        exact h'
    · show (!bt r i) = true
      cases hb : bt r i
      · rfl
      · exact absurd hb q
    · show ¬ (!bt (r ||| (f &&& fr_bf a r)) i) = true
      rw [p]
      decide
theorem fr_un_m {a : Nat → Int32} {f g f' g' : Int32} (hf : fr_sub f f') (hg : fr_sub g g') : fr_sub (fr_un a f g) (fr_un a f' g') :=
  fr_un_le (fr_tr hg (fr_un_ge a f' g')) (fr_tr (fr_am hf (fr_refl _)) (fr_un_cl a f' g'))
/-- the demands' part of a round: r of them left, the next one j; o k is what until may pass -/
def fr_dm (a d : Nat → Int32) (o : Int32 → Int32) : Nat → Nat → Int32 → Int32
  | 0, _, k => k
  | r + 1, j, k => fr_dm a d o r (j + 1) (k &&& fr_bf a (fr_un a (o k) (k &&& d j)))
def fr_rd (a d : Nat → Int32) (c : Nat) (o : Int32 → Int32) (k : Int32) : Int32 := fr_dm a d o c 0 (k &&& fr_bf a k)
theorem fr_dm_s (a d : Nat → Int32) (o : Int32 → Int32) : ∀ r j k, fr_sub (fr_dm a d o r j k) k := by
  intro r
  induction r with
  | zero => exact fun _ k => fr_refl k
  | succ r ih => exact fun j k => fr_tr (ih (j + 1) _) (fr_l _ _)
theorem fr_rd_s (a d : Nat → Int32) (c : Nat) (o : Int32 → Int32) (k : Int32) : fr_sub (fr_rd a d c o k) k := fr_tr (fr_dm_s a d o c 0 _) (fr_l _ _)
theorem fr_dm_f (a d : Nat → Int32) (o : Int32 → Int32) (K : Int32) : ∀ r j, fr_dm a d o r j K = K → ∀ i, j ≤ i → i < j + r → fr_sub K (fr_bf a (fr_un a (o K) (K &&& d i))) := by
  intro r
  induction r with
  | zero => intro j _ i h1 h2; omega
  | succ r ih =>
    intro j h i h1 h2
    have h' : fr_dm a d o r (j + 1) (K &&& fr_bf a (fr_un a (o K) (K &&& d j))) = K := h
    have s1 : fr_sub K (K &&& fr_bf a (fr_un a (o K) (K &&& d j))) := fr_tr (fr_eqs h'.symm) (fr_dm_s a d o r (j + 1) _)
    have e : K &&& fr_bf a (fr_un a (o K) (K &&& d j)) = K := fr_anti (fr_l _ _) s1
    by_cases z : i = j
    · subst z
      exact fr_tr s1 (fr_r _ _)
    · rw [e] at h'
      exact ih (j + 1) h' i (by omega) (by omega)
theorem fr_rd_f {a d : Nat → Int32} {c : Nat} {o : Int32 → Int32} {K : Int32} (h : fr_rd a d c o K = K) : fr_sub K (fr_bf a K) ∧ ∀ i, i < c → fr_sub K (fr_bf a (fr_un a (o K) (K &&& d i))) := by
  have h' : fr_dm a d o c 0 (K &&& fr_bf a K) = K := h
  have s1 : fr_sub K (K &&& fr_bf a K) := fr_tr (fr_eqs h'.symm) (fr_dm_s a d o c 0 _)
  have e : K &&& fr_bf a K = K := fr_anti (fr_l _ _) s1
  rw [e] at h'
  exact ⟨fr_tr s1 (fr_r _ _), fun i hi => fr_dm_f a d o K c 0 h' i (by omega) (by omega)⟩
theorem fr_dm_g {a d : Nat → Int32} {o : Int32 → Int32} (ho : ∀ x y, fr_sub x y → fr_sub (o x) (o y)) {W : Int32} : ∀ r j k, fr_sub W k → (∀ i, j ≤ i → i < j + r → fr_sub W (fr_bf a (fr_un a (o W) (W &&& d i)))) → fr_sub W (fr_dm a d o r j k) := by
  intro r
  induction r with
  | zero => exact fun _ _ h _ => h
  | succ r ih =>
    intro j k h g
    refine ih (j + 1) _ (fr_i h (fr_tr (g j (by omega) (by omega)) (fr_bf_m (fr_un_m (ho W k h) (fr_am h (fr_refl _)))))) fun i h1 h2 => g i (by omega) (by omega)
theorem fr_rd_g {a d : Nat → Int32} {c : Nat} {o : Int32 → Int32} (ho : ∀ x y, fr_sub x y → fr_sub (o x) (o y)) {W k : Int32} (h : fr_sub W k) (h1 : fr_sub W (fr_bf a W)) (h2 : ∀ i, i < c → fr_sub W (fr_bf a (fr_un a (o W) (W &&& d i)))) : fr_sub W (fr_rd a d c o k) :=
  fr_dm_g ho c 0 _ (fr_i h (fr_tr h1 (fr_bf_m h))) fun i _ hi => h2 i (by omega)
/-- someAlways, as the class walks it -/
def fr_sa (a d : Nat → Int32) (c : Nat) (f : Int32) : Int32 := fr_it (fr_rd a d c (fun _ => f)) 8 f
theorem fr_sa_s (a d : Nat → Int32) (c : Nat) (f : Int32) : fr_sub (fr_sa a d c f) f :=
  fr_it_ind (fun k => fr_sub k f) (fun k h => fr_tr (fr_rd_s a d c _ k) h) 8 f (fr_refl f)
theorem fr_sa_f {a d : Nat → Int32} {c : Nat} {f : Int32} (h : fr_sub f 255) : fr_rd a d c (fun _ => f) (fr_sa a d c f) = fr_sa a d c f := by
  refine fr_fix (fun k => fr_sub k 255) (fun k => fr_cn (bt k) 8) (fun k p => fr_tr (fr_rd_s a d c _ k) p) (fun k p hne => ?_) 8 f h (fr_cn_le _ 8)
  obtain ⟨i, q, r⟩ := fr_ne hne (fr_rd_s a d c (fun _ => f) k)
  exact fr_cn_lt (fr_rd_s a d c (fun _ => f) k) q r 8 (fr_255.mp p i q)
theorem fr_sa_g {a d : Nat → Int32} {c : Nat} {f W : Int32} (h : fr_sub W f) (h1 : fr_sub W (fr_bf a W)) (h2 : ∀ i, i < c → fr_sub W (fr_bf a (fr_un a f (W &&& d i)))) : fr_sub W (fr_sa a d c f) :=
  fr_it_ind (fun k => fr_sub W k) (fun _ p => fr_rd_g (o := fun _ => f) (fun _ _ _ => fr_refl f) p h1 h2) 8 f h
/-- what the class finds can be met without leaving it -/
theorem fr_sa_k {a d : Nat → Int32} {c : Nat} {f : Int32} (h : fr_sub f 255) : fr_sub (fr_sa a d c f) (fr_bf a (fr_sa a d c f)) ∧ ∀ i, i < c → fr_sub (fr_sa a d c f) (fr_bf a (fr_un a (fr_sa a d c f) (fr_sa a d c f &&& d i))) := by
  obtain ⟨k1, k2⟩ := fr_rd_f (fr_sa_f (a := a) (d := d) (c := c) h)
  have kf := fr_sa_s a d c f
  have kg : ∀ W, fr_sub W f → fr_sub W (fr_bf a W) → (∀ i, i < c → fr_sub W (fr_bf a (fr_un a f (W &&& d i)))) → fr_sub W (fr_sa a d c f) := fun W => fr_sa_g
  generalize fr_sa a d c f = K at k1 k2 kf kg
  refine ⟨k1, fun i hi => ?_⟩
  have uf : fr_sub (fr_un a f K) f := fr_un_le kf (fr_l _ _)
  have ku : fr_sub K (fr_un a f K) := fr_un_ge a f K
  have uc := fr_un_cl a f K
  have u1 : fr_sub (fr_un a f K) (fr_bf a (fr_un a f K)) := by
    refine fr_tr (fr_un_le (W := fr_un a f K &&& fr_bf a (fr_un a f K)) (fr_i ku (fr_tr k1 (fr_bf_m ku))) (fr_i ?_ ?_)) (fr_r _ _)
    · exact fr_tr (fr_am (fr_refl f) (fr_bf_m (fr_l _ _))) uc
    · exact fr_tr (fr_r _ _) (fr_bf_m (fr_l _ _))
  have u2 : ∀ j, j < c → fr_sub (fr_un a f K) (fr_bf a (fr_un a f (fr_un a f K &&& d j))) := by
    intro j hj
    have vc := fr_un_cl a f (K &&& d j)
    have s1 : fr_sub (fr_un a f K) (f &&& fr_bf a (fr_un a f (K &&& d j))) := by
      refine fr_un_le (fr_i kf (k2 j hj)) (fr_i (fr_l _ _) ?_)
      exact fr_tr (fr_r _ _) (fr_bf_m vc)
    exact fr_tr s1 (fr_tr (fr_r _ _) (fr_bf_m (fr_un_m (fr_refl f) (fr_am ku (fr_refl _)))))
  have uk := kg _ uf u1 u2
  have kc : fr_sub (f &&& fr_bf a K) K := fr_tr (fr_am (fr_refl f) (fr_bf_m ku)) (fr_tr uc uk)
  have vk : fr_sub (fr_un a K (K &&& d i)) K := fr_un_le (fr_l _ _) (fr_l _ _)
  refine fr_tr (k2 i hi) (fr_bf_m (fr_un_le (fr_un_ge _ _ _) ?_))
  refine fr_tr (fr_i (fr_tr (fr_am (fr_refl f) (fr_bf_m vk)) kc) (fr_r _ _)) (fr_un_cl a K (K &&& d i))
/-- a round of the reference keeps it -/
theorem fr_sa_y {a d : Nat → Int32} {c : Nat} {f k : Int32} (h : fr_sub f 255) (hk : fr_sub (fr_sa a d c f) k) : fr_sub (fr_sa a d c f) (fr_rd a d c (fun x => x) k) := by
  obtain ⟨k1, k2⟩ := fr_sa_k (a := a) (d := d) (c := c) h
  exact fr_rd_g (o := fun x => x) (fun _ _ p => p) hk k1 k2
/-- and where the reference rests it is it -/
theorem fr_sa_e {a d : Nat → Int32} {c : Nat} {f k : Int32} (hk : fr_sub (fr_sa a d c f) k) (kf : fr_sub k f) (e : fr_rd a d c (fun x => x) k = k) : k = fr_sa a d c f := by
  obtain ⟨k1, k2⟩ := fr_rd_f e
  exact fr_anti (fr_sa_g kf k1 fun i hi => fr_tr (k2 i hi) (fr_bf_m (fr_un_m kf (fr_refl _)))) hk
/-- after -/
def fr_afN (a : Nat → Int32) (S : Int32) : Nat → Int32
  | 0 => 0
  | s + 1 => if S &&& ((1 : Int32) <<< (nI s &&& 31)) = 0 then fr_afN a S s else fr_afN a S s ||| a s
def fr_af (a : Nat → Int32) (S : Int32) : Int32 := fr_afN a S 8
def fr_cl (a : Nat → Int32) (S : Int32) : Int32 := fr_it (fun r => r ||| fr_af a r) 8 S
theorem fr_afN_1 (a : Nat → Int32) {s : Nat} (hs : s < 8) : ∀ n, n ≤ 8 → fr_afN a ((1 : Int32) <<< (nI s &&& 31)) n = if s < n then a s else 0 := by
  intro n
  induction n with
  | zero => intro _; rw [if_neg (Nat.not_lt_zero s)]; rfl
  | succ n ih =>
    intro hn
    show (if _ then _ else _) = _
    rw [ih (by omega)]
    by_cases e : n = s
    · subst e
      have z : ¬ ((1 : Int32) <<< (nI n &&& 31)) &&& ((1 : Int32) <<< (nI n &&& 31)) = 0 := fun z => by
        have := (fr_bit hs).mp z
        rw [(fr_1 hs n).mpr rfl] at this
        exact Bool.noConfusion this
      rw [if_neg z, if_neg (Nat.lt_irrefl n), if_pos (Nat.lt_succ_self n)]
      refine b_ext fun i _ => ?_
      rw [b_or, b_0, Bool.false_or]
    · have z : ((1 : Int32) <<< (nI s &&& 31)) &&& ((1 : Int32) <<< (nI n &&& 31)) = 0 := by
        refine (fr_bit (by omega)).mpr ?_
        cases hb : bt ((1 : Int32) <<< (nI s &&& 31)) n
        · rfl
        · exact absurd ((fr_1 hs n).mp hb) e
      rw [if_pos z]
      by_cases l : s < n
      · rw [if_pos l, if_pos (by omega)]
      · rw [if_neg l, if_neg (by omega)]
theorem fr_af_1 (a : Nat → Int32) {s : Nat} (hs : s < 8) : fr_af a ((1 : Int32) <<< (nI s &&& 31)) = a s := by
  rw [fr_af, fr_afN_1 a hs 8 (by omega), if_pos hs]
end
section
/-- the complement within the eight states -/
def fr_nt (x : Int32) : Int32 := 255 &&& (x ^^^ (-1))
theorem fr_nt_8 (x : Int32) : fr_sub (fr_nt x) 255 := fr_l _ _
/-- the value of one(q) over x, of two(q) over x and y, as the class reckons them -/
def fr_v1 (a d : Nat → Int32) (c : Nat) (q : Nat) (x : Int32) : Int32 :=
  if q = 1 then fr_bf a (x &&& fr_sa a d c 255)
  else if q = 2 then fr_un a 255 (x &&& fr_sa a d c 255)
  else if q = 3 then fr_sa a d c x
  else if q = 4 then fr_nt (fr_bf a (fr_nt x &&& fr_sa a d c 255))
  else if q = 5 then fr_nt (fr_sa a d c (fr_nt x))
  else if q = 6 then fr_nt (fr_un a 255 (fr_nt x &&& fr_sa a d c 255))
  else fr_nt x
def fr_v2 (a d : Nat → Int32) (c : Nat) (q : Nat) (x y : Int32) : Int32 :=
  if q = 1 then x ||| y
  else if q = 2 then fr_un a x (y &&& fr_sa a d c 255)
  else if q = 3 then fr_nt (fr_sa a d c (fr_nt y) ||| fr_un a (fr_nt y) (fr_nt y &&& (x ^^^ (-1)) &&& fr_sa a d c 255))
  else x &&& y
def fr_val (a mk d : Nat → Int32) (c : Nat) (k q : Nat) (x y : Int32) : Int32 :=
  if k = 0 then mk q else if k = 1 then fr_v1 a d c q x else fr_v2 a d c q x y
theorem fr_un_8 {a : Nat → Int32} {f g : Int32} (hg : fr_sub g 255) : fr_sub (fr_un a f g) 255 :=
  fr_un_le hg (fr_tr (fr_r _ _) (fr_bf_8 a _))
theorem fr_sa_8 {a d : Nat → Int32} {c : Nat} {f : Int32} (h : fr_sub f 255) : fr_sub (fr_sa a d c f) 255 := fr_tr (fr_sa_s a d c f) h
theorem fr_v1_8 {a d : Nat → Int32} {c q : Nat} {x : Int32} (h : fr_sub x 255) : fr_sub (fr_v1 a d c q x) 255 := by
  unfold fr_v1
  split
  · exact fr_bf_8 a _
  split
  · exact fr_un_8 (fr_tr (fr_l _ _) h)
  split
  · exact fr_sa_8 h
  split
  · exact fr_nt_8 _
  split
  · exact fr_nt_8 _
  split
  · exact fr_nt_8 _
  · exact fr_nt_8 _
theorem fr_v2_8 {a d : Nat → Int32} {c q : Nat} {x y : Int32} (h : fr_sub x 255) (g : fr_sub y 255) : fr_sub (fr_v2 a d c q x y) 255 := by
  unfold fr_v2
  split
  · exact fr_j h g
  split
  · exact fr_un_8 (fr_tr (fr_l _ _) g)
  split
  · exact fr_nt_8 _
  · exact fr_tr (fr_l _ _) h
/-- a formula's row is good: its kind k, its number q, its parts l and r -/
def fr_ok (i k q l r : Nat) : Prop := l < 20 ∧ r < 20 ∧ ((k = 0 ∧ q < 4) ∨ (k = 1 ∧ q < 7 ∧ l < i) ∨ (k = 2 ∧ q < 4 ∧ l < i ∧ r < i))
theorem fr_val_c {a mk d : Nat → Int32} {c i k q l r : Nat} (h : fr_ok i k q l r) {w w' : Nat → Int32} (e : ∀ t, t < i → w t = w' t) : fr_val a mk d c k q (w l) (w r) = fr_val a mk d c k q (w' l) (w' r) := by
  obtain ⟨_, _, h⟩ := h
  unfold fr_val
  rcases h with ⟨h, _⟩ | ⟨h, _, hl⟩ | ⟨h, _, hl, hr⟩
  · rw [if_pos h, if_pos h]
  · subst h
    rw [e l hl]
    rfl
  · rw [e l hl, e r hr]
/-- the first n values are what they must be -/
def fr_gd (a mk d : Nat → Int32) (c : Nat) (kd qq ll rr : Nat → Nat) (n : Nat) (w : Nat → Int32) : Prop :=
  ∀ i, i < n → w i = fr_val a mk d c (kd i) (qq i) (w (ll i)) (w (rr i))
theorem fr_gd_0 (a mk d : Nat → Int32) (c : Nat) (kd qq ll rr : Nat → Nat) (w : Nat → Int32) : fr_gd a mk d c kd qq ll rr 0 w := fun i h => absurd h (Nat.not_lt_zero i)
theorem fr_gd_s {a mk d : Nat → Int32} {c : Nat} {kd qq ll rr : Nat → Nat} {n : Nat} {w : Nat → Int32} {v : Int32} (ok : ∀ i, i < n + 1 → fr_ok i (kd i) (qq i) (ll i) (rr i)) (h : fr_gd a mk d c kd qq ll rr n w) (hv : v = fr_val a mk d c (kd n) (qq n) (w (ll n)) (w (rr n))) : fr_gd a mk d c kd qq ll rr (n + 1) (upd w n v) := by
  intro i hi
  have e : ∀ t, t < i → w t = upd w n v t := fun t ht => (pk_un (by omega)).symm
  rw [← fr_val_c (ok i hi) e]
  by_cases z : i = n
  · subst z
    rw [pk_us, hv]
  · rw [pk_un z]
    exact h i (by omega)
theorem fr_gd_u {a mk d : Nat → Int32} {c : Nat} {kd qq ll rr : Nat → Nat} {n : Nat} {w w' : Nat → Int32} (ok : ∀ i, i < n → fr_ok i (kd i) (qq i) (ll i) (rr i)) (h : fr_gd a mk d c kd qq ll rr n w) (h' : fr_gd a mk d c kd qq ll rr n w') : ∀ i, i < n → w i = w' i := by
  intro i
  induction i using Nat.strongRecOn with
  | _ i ih =>
    intro hi
    rw [h i hi, h' i hi]
    exact fr_val_c (ok i hi) fun t ht => ih t ht (by omega)
theorem fr_gd_8 {a mk d : Nat → Int32} {c : Nat} {kd qq ll rr : Nat → Nat} {n : Nat} {w : Nat → Int32} (hm : ∀ i, fr_sub (mk i) 255) (ok : ∀ i, i < n → fr_ok i (kd i) (qq i) (ll i) (rr i)) (h : fr_gd a mk d c kd qq ll rr n w) : ∀ i, i < n → fr_sub (w i) 255 := by
  intro i
  induction i using Nat.strongRecOn with
  | _ i ih =>
    intro hi
    rw [h i hi]
    obtain ⟨_, _, o⟩ := ok i hi
    unfold fr_val
    rcases o with ⟨o, _⟩ | ⟨o, _, hl⟩ | ⟨o, _, hl, hr⟩
    · rw [if_pos o]; exact hm _
    · rw [o, if_neg (by decide), if_pos rfl]
      exact fr_v1_8 (ih _ hl (by omega))
    · rw [o, if_neg (by decide), if_neg (by decide)]
      exact fr_v2_8 (ih _ hl (by omega)) (ih _ hr (by omega))
/-- the reference's way to write the last of two -/
theorem fr_y3a (x y : Int32) : fr_nt y &&& (255 &&& (x ^^^ (-1))) = fr_nt y &&& (x ^^^ (-1)) := by
  refine b_ext fun i hi => ?_
  unfold fr_nt
  simp only [b_and, b_xor, b_m1 i hi]
  cases bt 255 i <;> cases bt x i <;> cases bt y i <;> rfl
theorem fr_y3b (A B : Int32) : 255 &&& (B ^^^ (-1)) &&& (A ^^^ (-1)) = fr_nt (A ||| B) := by
  refine b_ext fun i hi => ?_
  unfold fr_nt
  simp only [b_and, b_xor, b_or, b_m1 i hi]
  cases bt 255 i <;> cases bt A i <;> cases bt B i <;> rfl
theorem fr_ac (x y : Int32) : x &&& y = y &&& x := b_ext fun i _ => by rw [b_and, b_and, Bool.and_comm]
/-- numbers of 0 to 255 are sets of states -/
theorem fr_set : ∀ n, n < 256 → ∀ i, i < 32 → bt (nI n) i = true → i < 8 := by decide +kernel
theorem fr_set8 {n : Nat} (h : n ≤ 255) : fr_sub (nI n) 255 := fr_255.mpr fun i p => by
  rcases Nat.lt_or_ge i 32 with hi | hi
  · exact fr_set n (by omega) i hi p
  · rw [b_big hi] at p; exact Bool.noConfusion p
theorem fr_set0 : fr_sub 0 255 := fun i p => by rw [b_0] at p; exact Bool.noConfusion p
theorem fr_pos {x : Int32} (h : fr_sub x 255) : ∃ n : Nat, n < 256 ∧ x = nI n := by
  have e : x = x &&& 255 := fr_anti (fr_i (fr_refl x) h) (fr_l _ _)
  refine ⟨x.toBitVec.toNat % 256, Nat.mod_lt _ (by decide), ?_⟩
  have hx : x = nI x.toBitVec.toNat := by
    apply Int32.toBitVec_inj.1
    show x.toBitVec = BitVec.ofNat 32 x.toBitVec.toNat
    simp
  apply Int32.toBitVec_inj.1
  apply BitVec.eq_of_toNat_eq
  have h1 : (x &&& 255).toBitVec.toNat = x.toBitVec.toNat % 256 := by
    rw [Int32.toBitVec_and, BitVec.toNat_and]
    exact Nat.and_two_pow_sub_one_eq_mod _ 8
  show x.toBitVec.toNat = (BitVec.ofNat 32 (x.toBitVec.toNat % 256)).toNat
  rw [BitVec.toNat_ofNat, ← h1, ← e]
  have := x.toBitVec.isLt
  omega
end
section
theorem fr_8t : (8 : Int32) ≤ nI 8 := by decide
theorem fr_8f {i : Nat} (h : i < 8) : ¬ (8 : Int32) ≤ nI i := nI_ge (b := 8) h (by decide)
theorem fr_c8 {i : Nat} (h : i < 8) : (nI i).toNatClampNeg = i := nI_clamp (by omega)
/-! the class's walks that only read -/
theorem xb_loop {post : Int32 → Prop} {S : Int32} {fc fm fz : Int32} {a mk d ki op le ri va st : Nat → Int32} (hp : post (fr_bf a S)) : ∀ r i, i + r = 8 → wX_before_4 post S fc fm fz a mk d ki op le ri va st (r + 1) (fr_bfN a S i) (nI i) := by
  intro r
  induction r with
  | zero =>
    intro i hi
    have e : i = 8 := by omega
    subst e
    exact br_t fr_8t hp
  | succ r ih =>
    intro i hi
    have hv : vp_in (nI i) 8 := vp_in_nI (by omega) (by decide)
    have hc : (nI i).toNatClampNeg = i := fr_c8 (by omega)
    have hn := ih (i + 1) (by omega)
    by_cases z : a i &&& S = 0
    · have e : fr_bfN a S (i + 1) = fr_bfN a S i := if_pos z
      rw [e] at hn
      exact br_f (fr_8f (by omega)) ⟨hv, br_t (by rw [hc]; exact z) (nm_r (nI_1 i) hn)⟩
    · have e : fr_bfN a S (i + 1) = fr_bfN a S i ||| ((1 : Int32) <<< (nI i &&& 31)) := if_neg z
      rw [e] at hn
      exact br_f (fr_8f (by omega)) ⟨hv, br_f (by rw [hc]; exact z) (nm_e (nm_r (nI_1 i) hn))⟩
theorem xb_w {post : Int32 → Prop} {S S' : Int32} {fc fm fz : Int32} {a mk d ki op le ri va st : Nat → Int32} (e : S' = S) (hp : post (fr_bf a S)) : wpX_before post (fc, fm, fz, a, mk, d, ki, op, le, ri, va, st) S' := by
  subst e
  exact ⟨9, xb_loop hp 8 0 rfl⟩
theorem xu_loop {post : Int32 → Prop} {f : Int32} {fc fm fz : Int32} {a mk d ki op le ri va st : Nat → Int32} : ∀ r i g, i + r = 8 → post (fr_it (fun x => x ||| (f &&& fr_bf a x)) r g) → wX_until_5 post f fc fm fz a mk d ki op le ri va st (r + 1) g (nI i) := by
  intro r
  induction r with
  | zero =>
    intro i g hi hp
    have e : i = 8 := by omega
    subst e
    exact br_t fr_8t hp
  | succ r ih =>
    intro i g hi hp
    exact br_f (fr_8f (by omega)) (xb_w rfl (nm_e (nm_r (nI_1 i) (ih (i + 1) _ (by omega) hp))))
theorem xu_w {post : Int32 → Prop} {f g g' : Int32} {fc fm fz : Int32} {a mk d ki op le ri va st : Nat → Int32} (e : g' = g) (hp : post (fr_un a f g)) : wpX_until post (fc, fm, fz, a, mk, d, ki, op, le, ri, va, st) f g' := by
  subst e
  exact ⟨9, xu_loop 8 0 g' rfl hp⟩
theorem xs_in {post : Int32 → Prop} {J4 : Int32 → Int32 → Prop} {f x3 : Int32} {c : Nat} {fm fz : Int32} {a mk d ki op le ri va st : Nat → Int32} (hc : c ≤ 3) : ∀ r j k, j + r = c → J4 (fr_dm a d (fun _ => f) r j k) (x3 + 1) → wX_someAlways_21 post J4 f x3 (nI c) fm fz a mk d ki op le ri va st (r + 1) k (nI j) := by
  intro r
  induction r with
  | zero =>
    intro j k hj hp
    exact br_t (nI_le (by omega) (by omega)) (nm_e hp)
  | succ r ih =>
    intro j k hj hp
    exact br_f (nI_ge (by omega) (by omega)) ⟨vp_in_nI (by omega) (by decide), xu_w (by rw [nI_clamp (by omega)]) (xb_w rfl (nm_e (nm_r (nI_1 j) (ih (j + 1) _ (by omega) hp))))⟩
theorem xs_loop {post : Int32 → Prop} {f : Int32} {c : Nat} {fm fz : Int32} {a mk d ki op le ri va st : Nat → Int32} (hc : c ≤ 3) : ∀ r i k, i + r = 8 → post (fr_it (fr_rd a d c (fun _ => f)) r k) → wX_someAlways_4 post f (nI c) fm fz a mk d ki op le ri va st (r + 1) k (nI i) := by
  intro r
  induction r with
  | zero =>
    intro i k hi hp
    have e : i = 8 := by omega
    subst e
    exact br_t fr_8t hp
  | succ r ih =>
    intro i k hi hp
    have hn := ih (i + 1) _ (by omega) hp
    rw [← nI_1 i] at hn
    exact br_f (fr_8f (by omega)) (xb_w rfl (nm_e ⟨c + 1, xs_in hc c 0 _ (by omega) hn⟩))
theorem xs_w {post : Int32 → Prop} {f f' : Int32} {c : Nat} {fm fz : Int32} {a mk d ki op le ri va st : Nat → Int32} (hc : c ≤ 3) (e : f' = f) (hp : post (fr_sa a d c f)) : wpX_someAlways post (nI c, fm, fz, a, mk, d, ki, op, le, ri, va, st) f' := by
  subst e
  exact ⟨9, xs_loop hc 8 0 f' rfl hp⟩
theorem xa_loop {post : Int32 → Prop} {S : Int32} {fc fm fz : Int32} {a mk d ki op le ri va st : Nat → Int32} (hp : post (fr_af a S)) : ∀ r i, i + r = 8 → wX_after_4 post S fc fm fz a mk d ki op le ri va st (r + 1) (fr_afN a S i) (nI i) := by
  intro r
  induction r with
  | zero =>
    intro i hi
    have e : i = 8 := by omega
    subst e
    exact br_t fr_8t hp
  | succ r ih =>
    intro i hi
    have hv : vp_in (nI i) 8 := vp_in_nI (by omega) (by decide)
    have hc : (nI i).toNatClampNeg = i := fr_c8 (by omega)
    have hn := ih (i + 1) (by omega)
    by_cases z : S &&& ((1 : Int32) <<< (nI i &&& 31)) = 0
    · have e : fr_afN a S (i + 1) = fr_afN a S i := if_pos z
      rw [e] at hn
      exact br_f (fr_8f (by omega)) (br_t z (nm_r (nI_1 i) hn))
    · have e : fr_afN a S (i + 1) = fr_afN a S i ||| a i := if_neg z
      rw [e] at hn
      exact br_f (fr_8f (by omega)) (br_f z ⟨hv, nm_r (by rw [hc]) (nm_r (nI_1 i) hn)⟩)
theorem xa_w {post : Int32 → Prop} {S S' : Int32} {fc fm fz : Int32} {a mk d ki op le ri va st : Nat → Int32} (e : S' = S) (hp : post (fr_af a S)) : wpX_after post (fc, fm, fz, a, mk, d, ki, op, le, ri, va, st) S' := by
  subst e
  exact ⟨9, xa_loop hp 8 0 rfl⟩
theorem xc_loop {post : Int32 → Prop} {fc fm fz : Int32} {a mk d ki op le ri va st : Nat → Int32} : ∀ r i g, i + r = 8 → post (fr_it (fun x => x ||| fr_af a x) r g) → wX_closure_4 post fc fm fz a mk d ki op le ri va st (r + 1) g (nI i) := by
  intro r
  induction r with
  | zero =>
    intro i g hi hp
    have e : i = 8 := by omega
    subst e
    exact br_t fr_8t hp
  | succ r ih =>
    intro i g hi hp
    exact br_f (fr_8f (by omega)) (xa_w rfl (nm_e (nm_r (nI_1 i) (ih (i + 1) _ (by omega) hp))))
theorem xc_w {post : Int32 → Prop} {g g' : Int32} {fc fm fz : Int32} {a mk d ki op le ri va st : Nat → Int32} (e : g' = g) (hp : post (fr_cl a g)) : wpX_closure post (fc, fm, fz, a, mk, d, ki, op, le, ri, va, st) g' := by
  subst e
  exact ⟨9, xc_loop 8 0 g' rfl hp⟩
/-! the reference's -/
theorem yb_loop {post : Int32 → Prop} {S : Int32} {fc fm fz : Int32} {a mk d kn fi se sv st : Nat → Int32} (hp : post (fr_bf a S)) : ∀ r i, i + r = 8 → wY_before_4 post S fc fm fz a mk d kn fi se sv st (r + 1) (fr_bfN a S i) (nI i) := by
  intro r
  induction r with
  | zero =>
    intro i hi
    have e : i = 8 := by omega
    subst e
    exact br_t fr_8t hp
  | succ r ih =>
    intro i hi
    have hv : vp_in (nI i) 8 := vp_in_nI (by omega) (by decide)
    have hc : (nI i).toNatClampNeg = i := fr_c8 (by omega)
    have hn := ih (i + 1) (by omega)
    by_cases z : a i &&& S = 0
    · have e : fr_bfN a S (i + 1) = fr_bfN a S i := if_pos z
      rw [e] at hn
      exact br_f (fr_8f (by omega)) ⟨hv, br_t (by rw [hc]; exact z) (nm_r (nI_1 i) hn)⟩
    · have e : fr_bfN a S (i + 1) = fr_bfN a S i ||| ((1 : Int32) <<< (nI i &&& 31)) := if_neg z
      rw [e] at hn
      exact br_f (fr_8f (by omega)) ⟨hv, br_f (by rw [hc]; exact z) (nm_e (nm_r (nI_1 i) hn))⟩
theorem yb_w {post : Int32 → Prop} {S S' : Int32} {fc fm fz : Int32} {a mk d kn fi se sv st : Nat → Int32} (e : S' = S) (hp : post (fr_bf a S)) : wpY_before post (fc, fm, fz, a, mk, d, kn, fi, se, sv, st) S' := by
  subst e
  exact ⟨9, yb_loop hp 8 0 rfl⟩
theorem yu_loop {post : Int32 → Prop} {f : Int32} {fc fm fz : Int32} {a mk d kn fi se sv st : Nat → Int32} : ∀ r i g, i + r = 8 → post (fr_it (fun x => x ||| (f &&& fr_bf a x)) r g) → wY_coming_5 post f fc fm fz a mk d kn fi se sv st (r + 1) g (nI i) := by
  intro r
  induction r with
  | zero =>
    intro i g hi hp
    have e : i = 8 := by omega
    subst e
    exact br_t fr_8t hp
  | succ r ih =>
    intro i g hi hp
    exact br_f (fr_8f (by omega)) (yb_w rfl (nm_r (e' := g ||| (f &&& fr_bf a g)) (by rw [fr_ac]) (nm_r (nI_1 i) (ih (i + 1) _ (by omega) hp))))
theorem yu_w {post : Int32 → Prop} {f g g' : Int32} {fc fm fz : Int32} {a mk d kn fi se sv st : Nat → Int32} (e : g' = g) (hp : post (fr_un a f g)) : wpY_coming post (fc, fm, fz, a, mk, d, kn, fi, se, sv, st) f g' := by
  subst e
  exact ⟨9, yu_loop 8 0 g' rfl hp⟩
theorem ys_in {post : Int32 → Prop} {J4 : Int32 → Int32 → Prop} {x3 : Int32} {c : Nat} {fm fz : Int32} {a mk d kn fi se sv st : Nat → Int32} (hc : c ≤ 3) : ∀ r j k, j + r = c → J4 (fr_dm a d (fun x => x) r j k) x3 → wY_staying_22 post J4 x3 (nI c) fm fz a mk d kn fi se sv st (r + 1) k (nI j) := by
  intro r
  induction r with
  | zero =>
    intro j k hj hp
    exact br_t (nI_le (by omega) (by omega)) hp
  | succ r ih =>
    intro j k hj hp
    exact br_f (nI_ge (by omega) (by omega)) ⟨vp_in_nI (by omega) (by decide), yu_w (by rw [nI_clamp (by omega)]) (yb_w rfl (nm_e (nm_r (nI_1 j) (ih (j + 1) _ (by omega) hp))))⟩
theorem ys_loop {post : Int32 → Prop} {f : Int32} {c : Nat} {fm fz : Int32} {a mk d kn fi se sv st : Nat → Int32} (hc : c ≤ 3) (h8 : fr_sub f 255) (hp : post (fr_sa a d c f)) : ∀ n k old, fr_sub (fr_sa a d c f) k → fr_sub k f → (k = old → fr_rd a d c (fun x => x) k = k) → (k = old ∨ fr_cn (bt k) 8 < n) → wY_staying_4 post (nI c) fm fz a mk d kn fi se sv st (n + 1) k old := by
  intro n
  induction n with
  | zero =>
    intro k old hk kf hf hn
    have e : k = old := hn.elim id (fun z => absurd z (Nat.not_lt_zero _))
    have e2 := fr_sa_e hk kf (hf e)
    exact br_t e (by rw [e2]; exact hp)
  | succ n ih =>
    intro k old hk kf hf hn
    by_cases e : k = old
    · have e2 := fr_sa_e hk kf (hf e)
      exact br_t e (by rw [e2]; exact hp)
    · have hn' : fr_cn (bt k) 8 < n + 1 := hn.elim (fun z => absurd z e) id
      have hs := fr_rd_s a d c (fun x => x) k
      have hnx := ih (fr_rd a d c (fun x => x) k) k (fr_sa_y h8 hk) (fr_tr hs kf) (fun z => by rw [z]; exact z) (by
        by_cases z : fr_rd a d c (fun x => x) k = k
        · exact Or.inl z
        · obtain ⟨i, q, r⟩ := fr_ne z hs
          have := fr_cn_lt hs q r 8 (fr_255.mp (fr_tr kf h8) i q)
          exact Or.inr (by omega))
      exact br_f e (yb_w rfl (nm_e ⟨c + 1, ys_in hc c 0 _ (by omega) hnx⟩))
theorem fr_m1 {f : Int32} (h8 : fr_sub f 255) : ¬ f = -1 := fun e => by
  have h := fr_255.mp h8 31 (by rw [e]; exact b_m1 31 (by decide))
  omega
theorem ys_w {post : Int32 → Prop} {f f' : Int32} {c : Nat} {fm fz : Int32} {a mk d kn fi se sv st : Nat → Int32} (hc : c ≤ 3) (h8 : fr_sub f 255) (e : f' = f) (hp : post (fr_sa a d c f)) : wpY_staying post (nI c, fm, fz, a, mk, d, kn, fi, se, sv, st) f' := by
  subst e
  exact ⟨10, ys_loop hc h8 hp 9 f' (-1) (fr_sa_s a d c f') (fr_refl f') (fun z => absurd z (fr_m1 h8)) (Or.inr (Nat.lt_succ_of_le (fr_cn_le _ 8)))⟩
theorem ya_loop {post : Int32 → Prop} {S : Int32} {fc fm fz : Int32} {a mk d kn fi se sv st : Nat → Int32} (hp : post (fr_af a S)) : ∀ r i, i + r = 8 → wY_behind_4 post S fc fm fz a mk d kn fi se sv st (r + 1) (fr_afN a S i) (nI i) := by
  intro r
  induction r with
  | zero =>
    intro i hi
    have e : i = 8 := by omega
    subst e
    exact br_t fr_8t hp
  | succ r ih =>
    intro i hi
    have hv : vp_in (nI i) 8 := vp_in_nI (by omega) (by decide)
    have hc : (nI i).toNatClampNeg = i := fr_c8 (by omega)
    have hn := ih (i + 1) (by omega)
    by_cases z : S &&& ((1 : Int32) <<< (nI i &&& 31)) = 0
    · have e : fr_afN a S (i + 1) = fr_afN a S i := if_pos z
      rw [e] at hn
      exact br_f (fr_8f (by omega)) (br_f (fun w => (fr_sh (by omega)).mp w z) (nm_r (nI_1 i) hn))
    · have e : fr_afN a S (i + 1) = fr_afN a S i ||| a i := if_neg z
      rw [e] at hn
      exact br_f (fr_8f (by omega)) (br_t ((fr_sh (by omega)).mpr z) ⟨hv, nm_r (by rw [hc]) (nm_r (nI_1 i) hn)⟩)
theorem ya_w {post : Int32 → Prop} {S S' : Int32} {fc fm fz : Int32} {a mk d kn fi se sv st : Nat → Int32} (e : S' = S) (hp : post (fr_af a S)) : wpY_behind post (fc, fm, fz, a, mk, d, kn, fi, se, sv, st) S' := by
  subst e
  exact ⟨9, ya_loop hp 8 0 rfl⟩
end
section
/-! the value of one formula: the class, the reference -/
theorem xv_1 {post : Int32 → Prop} {c q : Nat} {x F p0 : Int32} {fm fz : Int32} {a mk d ki op le ri va st : Nat → Int32} (hc : c ≤ 3) (hq : q < 7) (e0 : p0 = nI q) (hF : F = fr_sa a d c 255) (hp : post (fr_v1 a d c q x)) : wpX_valueOfOne post (nI c, fm, fz, a, mk, d, ki, op, le, ri, va, st) p0 x F := by
  subst hF e0
  have h : q = 0 ∨ q = 1 ∨ q = 2 ∨ q = 3 ∨ q = 4 ∨ q = 5 ∨ q = 6 := by omega
  rcases h with h | h | h | h | h | h | h <;> subst h
  · exact nm_e (br_f (by decide) (br_f (by decide) (br_t (by decide) hp)))
  · exact nm_e (br_f (by decide) (br_f (by decide) (br_f (by decide) (br_t (by decide) (xb_w rfl hp)))))
  · exact nm_e (br_f (by decide) (br_f (by decide) (br_f (by decide) (br_f (by decide) (br_t (by decide) (xu_w rfl hp))))))
  · exact nm_e (br_f (by decide) (br_f (by decide) (br_f (by decide) (br_f (by decide) (br_f (by decide) (br_t (by decide) (xs_w hc rfl hp)))))))
  · exact nm_e (br_f (by decide) (br_f (by decide) (br_f (by decide) (br_f (by decide) (br_f (by decide) (br_f (by decide) (br_t (by decide) (xb_w rfl hp))))))))
  · exact nm_e (br_f (by decide) (br_f (by decide) (br_f (by decide) (br_f (by decide) (br_f (by decide) (br_f (by decide) (br_f (by decide) (br_t (by decide) (xs_w hc rfl hp)))))))))
  · exact nm_e (br_f (by decide) (br_f (by decide) (br_f (by decide) (br_f (by decide) (br_f (by decide) (br_f (by decide) (br_f (by decide) (br_f (by decide) (br_t (by decide) (xu_w rfl hp))))))))))
theorem xv_2 {post : Int32 → Prop} {c q : Nat} {x y F p0 : Int32} {fm fz : Int32} {a mk d ki op le ri va st : Nat → Int32} (hc : c ≤ 3) (hq : q < 4) (e0 : p0 = nI q) (hF : F = fr_sa a d c 255) (hp : post (fr_v2 a d c q x y)) : wpX_valueOfTwo post (nI c, fm, fz, a, mk, d, ki, op, le, ri, va, st) p0 x y F := by
  subst hF e0
  have h : q = 0 ∨ q = 1 ∨ q = 2 ∨ q = 3 := by omega
  rcases h with h | h | h | h <;> subst h
  · exact nm_e (br_f (by decide) (br_f (by decide) (br_t (by decide) hp)))
  · exact nm_e (br_f (by decide) (br_f (by decide) (br_f (by decide) (br_t (by decide) hp))))
  · exact nm_e (br_f (by decide) (br_f (by decide) (br_f (by decide) (br_f (by decide) (br_t (by decide) (xu_w rfl hp))))))
  · exact nm_e (br_f (by decide) (br_f (by decide) (br_f (by decide) (br_f (by decide) (br_f (by decide) (br_t (by decide) (xs_w hc rfl (xu_w rfl hp))))))))
theorem yv_1 {post : Int32 → Prop} {c q : Nat} {x p0 : Int32} {fm fz : Int32} {a mk d kn fi se sv st : Nat → Int32} (hc : c ≤ 3) (hq : q < 7) (e0 : p0 = nI q) (hx : fr_sub x 255) (hp : post (fr_v1 a d c q x)) : wpY_ofOne post (nI c, fm, fz, a, mk, d, kn, fi, se, sv, st) p0 x := by
  subst e0
  have h : q = 0 ∨ q = 1 ∨ q = 2 ∨ q = 3 ∨ q = 4 ∨ q = 5 ∨ q = 6 := by omega
  refine ys_w hc (fr_refl 255) rfl ?_
  rcases h with h | h | h | h | h | h | h <;> subst h
  · exact br_t (by decide) hp
  · exact br_f (by decide) (br_t (by decide) (yb_w rfl hp))
  · exact br_f (by decide) (br_f (by decide) (br_t (by decide) (yu_w rfl hp)))
  · exact br_f (by decide) (br_f (by decide) (br_f (by decide) (br_t (by decide) (ys_w hc hx rfl hp))))
  · exact br_f (by decide) (br_f (by decide) (br_f (by decide) (br_f (by decide) (br_t (by decide) (yb_w rfl hp)))))
  · exact br_f (by decide) (br_f (by decide) (br_f (by decide) (br_f (by decide) (br_f (by decide) (br_t (by decide) (ys_w hc (fr_nt_8 x) rfl hp))))))
  · exact br_f (by decide) (br_f (by decide) (br_f (by decide) (br_f (by decide) (br_f (by decide) (br_f (by decide) (yu_w rfl hp))))))
theorem yv_2 {post : Int32 → Prop} {c q : Nat} {x y p0 : Int32} {fm fz : Int32} {a mk d kn fi se sv st : Nat → Int32} (hc : c ≤ 3) (hq : q < 4) (e0 : p0 = nI q) (hp : post (fr_v2 a d c q x y)) : wpY_ofTwo post (nI c, fm, fz, a, mk, d, kn, fi, se, sv, st) p0 x y := by
  subst e0
  have h : q = 0 ∨ q = 1 ∨ q = 2 ∨ q = 3 := by omega
  rcases h with h | h | h | h <;> subst h
  · exact br_f (by decide) (br_t (by decide) hp)
  · exact br_f (by decide) (br_f (by decide) hp)
  · exact br_t (by decide) (ys_w hc (fr_refl 255) rfl (br_t (by decide) (yu_w rfl hp)))
  · refine br_t (by decide) (ys_w hc (fr_refl 255) rfl (br_f (by decide) ?_))
    have e : fr_v2 a d c 3 x y = (255 &&& (fr_un a (fr_nt y) (fr_nt y &&& (x ^^^ (-1)) &&& fr_sa a d c 255) ^^^ (-1))) &&& (fr_sa a d c (fr_nt y) ^^^ (-1)) := (fr_y3b _ _).symm
    rw [e] at hp
    exact yu_w (g := fr_nt y &&& (x ^^^ (-1)) &&& fr_sa a d c 255) (by rw [← fr_y3a]; rfl) (ys_w hc (fr_nt_8 y) rfl hp)
/-! all formulas -/
def fr_cd (k q : Nat) : Nat := if k = 0 then 20 + q else if k = 1 then q else 10 + q
theorem xw_loop {post : SX → Prop} {c m : Nat} {fz F : Int32} {a mk d ki op le ri st : Nat → Int32} {kd qq ll rr : Nat → Nat} (hc : c ≤ 3) (hm : m ≤ 20) (hF : F = fr_sa a d c 255) (ok : ∀ i, i < m → fr_ok i (kd i) (qq i) (ll i) (rr i)) (hk : ∀ i, i < m → ki i = nI (kd i) ∧ op i = nI (qq i) ∧ le i = nI (ll i) ∧ ri i = nI (rr i)) (hp : ∀ w, fr_gd a mk d c kd qq ll rr m w → post (nI c, nI m, fz, a, mk, d, ki, op, le, ri, w, st)) : ∀ r i w, i + r = m → fr_gd a mk d c kd qq ll rr i w → wX_workOutFormulas_10 post F (nI c) (nI m) fz (r + 1) (nI i) a mk d ki op le ri w st := by
  intro r
  induction r with
  | zero =>
    intro i w hi hg
    have e : i = m := by omega
    subst e
    exact br_t (nI_le (Nat.le_refl _) (by omega)) (hp w hg)
  | succ r ih =>
    intro i w hi hg
    have him : i < m := by omega
    have hv : vp_in (nI i) 20 := vp_in_nI (by omega) (by decide)
    have hcl : (nI i).toNatClampNeg = i := nI_clamp (by omega)
    obtain ⟨k1, k2, k3, k4⟩ := hk i him
    have o := ok i him
    have go : ∀ v, v = fr_val a mk d c (kd i) (qq i) (w (ll i)) (w (rr i)) → wX_workOutFormulas_10 post F (nI c) (nI m) fz (r + 1) (nI (i + 1)) a mk d ki op le ri (upd w i v) st := fun v hv => ih (i + 1) _ (by omega) (fr_gd_s (fun j hj => ok j (by omega)) hg hv)
    obtain ⟨ol, or, o⟩ := o
    have h3 : vp_in (le (nI i).toNatClampNeg) 20 := by rw [hcl, k3]; exact vp_in_nI ol (by decide)
    have h4 : vp_in (ri (nI i).toNatClampNeg) 20 := by rw [hcl, k4]; exact vp_in_nI or (by decide)
    have e3 : w (le (nI i).toNatClampNeg).toNatClampNeg = w (ll i) := by rw [hcl, k3, nI_clamp (by omega)]
    have e4 : w (ri (nI i).toNatClampNeg).toNatClampNeg = w (rr i) := by rw [hcl, k4, nI_clamp (by omega)]
    have e2 : op (nI i).toNatClampNeg = nI (qq i) := by rw [hcl, k2]
    have e1 : ki (nI i).toNatClampNeg = nI (kd i) := by rw [hcl, k1]
    refine br_f (nI_ge him (by omega)) ⟨hv, nm_r e2 ⟨hv, h3, nm_r e3 ⟨hv, h4, nm_r e4 ⟨hv, ?_⟩⟩⟩⟩
    rcases o with ⟨o, oq⟩ | ⟨o, oq, _⟩ | ⟨o, oq, _⟩
    · refine br_t (by rw [e1, o]; rfl) ⟨vp_in_nI oq (by decide), hv, nm_r (e' := upd w i (mk (qq i))) (by rw [hcl, nI_clamp (by omega)]) (nm_r (nI_1 i) (go _ ?_))⟩
      rw [o]; rfl
    · refine br_f (by rw [e1, o]; decide) ⟨hv, br_t (by rw [e1, o]; rfl) (xv_1 hc oq rfl hF ⟨hv, nm_r (e' := upd w i (fr_v1 a d c (qq i) (w (ll i)))) (by rw [hcl]) (nm_r (nI_1 i) (go _ ?_))⟩)⟩
      rw [o]; rfl
    · refine br_f (by rw [e1, o]; decide) ⟨hv, br_f (by rw [e1, o]; decide) (xv_2 hc oq rfl hF ⟨hv, nm_r (e' := upd w i (fr_v2 a d c (qq i) (w (ll i)) (w (rr i)))) (by rw [hcl]) (nm_r (nI_1 i) (go _ ?_))⟩)⟩
      rw [o]; rfl
theorem xw_w {post : SX → Prop} {c m : Nat} {fz : Int32} {a mk d ki op le ri va st : Nat → Int32} {kd qq ll rr : Nat → Nat} (hc : c ≤ 3) (hm : m ≤ 20) (ok : ∀ i, i < m → fr_ok i (kd i) (qq i) (ll i) (rr i)) (hk : ∀ i, i < m → ki i = nI (kd i) ∧ op i = nI (qq i) ∧ le i = nI (ll i) ∧ ri i = nI (rr i)) (hp : ∀ w, fr_gd a mk d c kd qq ll rr m w → post (nI c, nI m, fz, a, mk, d, ki, op, le, ri, w, st)) : wpX_workOutFormulas post (nI c, nI m, fz, a, mk, d, ki, op, le, ri, va, st) :=
  xs_w hc rfl ⟨m + 1, xw_loop hc hm rfl ok hk hp m 0 va (by omega) (fr_gd_0 a mk d c kd qq ll rr va)⟩
theorem yw_loop {post : SY → Prop} {c m : Nat} {fz : Int32} {a mk d kn fi se st : Nat → Int32} {kd qq ll rr : Nat → Nat} (hc : c ≤ 3) (hm : m ≤ 20) (h8 : ∀ i, fr_sub (mk i) 255) (ok : ∀ i, i < m → fr_ok i (kd i) (qq i) (ll i) (rr i)) (hk : ∀ i, i < m → kn i = nI (fr_cd (kd i) (qq i)) ∧ fi i = nI (ll i) ∧ se i = nI (rr i)) (hp : ∀ w, fr_gd a mk d c kd qq ll rr m w → post (nI c, nI m, fz, a, mk, d, kn, fi, se, w, st)) : ∀ r i w, i + r = m → fr_gd a mk d c kd qq ll rr i w → wY_findSets_2 post (nI c) (nI m) fz (r + 1) (nI i) a mk d kn fi se w st := by
  intro r
  induction r with
  | zero =>
    intro i w hi hg
    have e : i = m := by omega
    subst e
    exact br_t (nI_le (Nat.le_refl _) (by omega)) (hp w hg)
  | succ r ih =>
    intro i w hi hg
    have him : i < m := by omega
    have hv : vp_in (nI i) 20 := vp_in_nI (by omega) (by decide)
    have hcl : (nI i).toNatClampNeg = i := nI_clamp (by omega)
    obtain ⟨k1, k2, k3⟩ := hk i him
    have o := ok i him
    have go : ∀ v, v = fr_val a mk d c (kd i) (qq i) (w (ll i)) (w (rr i)) → wY_findSets_2 post (nI c) (nI m) fz (r + 1) (nI (i + 1)) a mk d kn fi se (upd w i v) st := fun v hv => ih (i + 1) _ (by omega) (fr_gd_s (fun j hj => ok j (by omega)) hg hv)
    have g8 := fr_gd_8 h8 (fun j hj => ok j (by omega)) hg
    obtain ⟨ol, or, o⟩ := o
    have h3 : vp_in (fi (nI i).toNatClampNeg) 20 := by rw [hcl, k2]; exact vp_in_nI ol (by decide)
    have h4 : vp_in (se (nI i).toNatClampNeg) 20 := by rw [hcl, k3]; exact vp_in_nI or (by decide)
    have e3 : w (fi (nI i).toNatClampNeg).toNatClampNeg = w (ll i) := by rw [hcl, k2, nI_clamp (by omega)]
    have e4 : w (se (nI i).toNatClampNeg).toNatClampNeg = w (rr i) := by rw [hcl, k3, nI_clamp (by omega)]
    have e1 : kn (nI i).toNatClampNeg = nI (fr_cd (kd i) (qq i)) := by rw [hcl, k1]
    rcases o with ⟨o, oq⟩ | ⟨o, oq, hl⟩ | ⟨o, oq, hl, hr⟩
    · have ec : fr_cd (kd i) (qq i) = 20 + qq i := if_pos o
      rw [ec] at e1
      have es : nI (20 + qq i) - 20 = nI (qq i) := (pk_sub (b := 20) (by omega)).trans (by rw [Nat.add_sub_cancel_left])
      refine br_f (nI_ge him (by omega)) ⟨hv, nm_r e1 (br_f (nI_ge (a := 19) (b := 20 + qq i) (by omega) (by omega)) ⟨?_, hv, nm_r (e' := upd w i (mk (qq i))) ?_ (nm_r (nI_1 i) (go _ ?_))⟩)⟩
      · rw [es]; exact vp_in_nI oq (by decide)
      · rw [hcl, es, nI_clamp (by omega)]
      · rw [o]; rfl
    · have ec : fr_cd (kd i) (qq i) = qq i := by rw [o]; rfl
      rw [ec] at e1
      refine br_f (nI_ge him (by omega)) ⟨hv, nm_r e1 (br_t (nI_le (b := 19) (by omega) (by decide)) (br_t (nI_le (b := 9) (by omega) (by decide)) ⟨hv, h3, ?_⟩))⟩
      rw [e3]
      refine yv_1 hc oq rfl (g8 _ hl) ⟨hv, nm_r (e' := upd w i (fr_v1 a d c (qq i) (w (ll i)))) (by rw [hcl]) (nm_r (nI_1 i) (go _ ?_))⟩
      rw [o]; rfl
    · have ec : fr_cd (kd i) (qq i) = 10 + qq i := by rw [o]; rfl
      rw [ec] at e1
      have es : nI (10 + qq i) - 10 = nI (qq i) := (pk_sub (b := 10) (by omega)).trans (by rw [Nat.add_sub_cancel_left])
      refine br_f (nI_ge him (by omega)) ⟨hv, nm_r e1 (br_t (nI_le (b := 19) (by omega) (by decide)) (br_f (nI_ge (a := 9) (b := 10 + qq i) (by omega) (by omega)) ⟨hv, h3, hv, h4, ?_⟩))⟩
      rw [e3, e4]
      refine yv_2 hc oq es ⟨hv, nm_r (e' := upd w i (fr_v2 a d c (qq i) (w (ll i)) (w (rr i)))) (by rw [hcl]) (nm_r (nI_1 i) (go _ ?_))⟩
      rw [o]; rfl
theorem yw_w {post : SY → Prop} {c m : Nat} {fz : Int32} {a mk d kn fi se sv st : Nat → Int32} {kd qq ll rr : Nat → Nat} (hc : c ≤ 3) (hm : m ≤ 20) (h8 : ∀ i, fr_sub (mk i) 255) (ok : ∀ i, i < m → fr_ok i (kd i) (qq i) (ll i) (rr i)) (hk : ∀ i, i < m → kn i = nI (fr_cd (kd i) (qq i)) ∧ fi i = nI (ll i) ∧ se i = nI (rr i)) (hp : ∀ w, fr_gd a mk d c kd qq ll rr m w → post (nI c, nI m, fz, a, mk, d, kn, fi, se, w, st)) : wpY_findSets post (nI c, nI m, fz, a, mk, d, kn, fi, se, sv, st) :=
  ⟨m + 1, yw_loop hc hm h8 ok hk hp m 0 sv (by omega) (fr_gd_0 a mk d c kd qq ll rr sv)⟩
end
section
theorem fr_nn {n : Nat} {v : Int32} (hn : n < 2 ^ 31) (h : nI n ≤ v) : ¬ v < 0 := fun g => nI_pos hn (Int32.lt_of_le_of_lt h g)
theorem fr_lt {n : Nat} {v : Int32} (hn : n + 1 < 2 ^ 31) (h : nI (n + 1) ≤ v) : nI n < v := Int32.lt_of_lt_of_le (nI_lt (Nat.lt_succ_self n) hn) h
theorem fr_nle {n : Nat} {v : Int32} (hn : n + 1 < 2 ^ 31) (h : nI (n + 1) ≤ v) : ¬ v ≤ nI n := Int32.not_le.mpr (fr_lt hn h)
theorem fr_nlt {n j : Nat} (hn : n < 2 ^ 31) (h : j ≤ n) : ¬ nI n < nI j := nI_nlt h hn
theorem fr_nq {i j : Nat} (h : i ≠ j) (hi : i < 2 ^ 31) (hj : j < 2 ^ 31) : ¬ nI i = nI j := fun e => h ((nI_eq hi hj).mp e)
theorem fr_m2 (n : Nat) : nI (n + 2) - 2 = nI n := (pk_sub (b := 2) (by omega)).trans (by rw [Nat.add_sub_cancel])
theorem fr_sp (x : Int32) {n : Nat} (hn : n < 2 ^ 31) : (x < 0 ∨ nI n ≤ x) ∨ ∃ j : Nat, j < n ∧ x = nI j := by
  rcases pk_ix x hn with h | h | h
  · exact Or.inl (Or.inl h)
  · exact Or.inl (Or.inr h)
  · exact Or.inr h
/-! the small tests -/
theorem xi_s0 {post : Int32 → Prop} {v : Int32} {fc fm fz : Int32} {a mk d ki op le ri va st : Nat → Int32} (h : v < 0 ∨ nI 8 ≤ v) (hp : post 0) : wpX_isState post (fc, fm, fz, a, mk, d, ki, op, le, ri, va, st) v := by
  rcases h with h | h
  · exact br_t h hp
  · exact br_f (fr_nn (by decide) h) (br_t h hp)
theorem xi_s1 {post : Int32 → Prop} {s : Nat} {fc fm fz : Int32} {a mk d ki op le ri va st : Nat → Int32} (h : s < 8) (hp : post 1) : wpX_isState post (fc, fm, fz, a, mk, d, ki, op, le, ri, va, st) (nI s) :=
  br_f (nI_pos (by omega)) (br_f (fr_8f h) hp)
theorem xi_e0 {post : Int32 → Prop} {v : Int32} {fc fm fz : Int32} {a mk d ki op le ri va st : Nat → Int32} (h : v < 0 ∨ nI 256 ≤ v) (hp : post 0) : wpX_isSet post (fc, fm, fz, a, mk, d, ki, op, le, ri, va, st) v := by
  rcases h with h | h
  · exact br_t h hp
  · exact br_f (fr_nn (by decide) h) (br_t (fr_lt (by decide) h) hp)
theorem xi_e1 {post : Int32 → Prop} {s : Nat} {fc fm fz : Int32} {a mk d ki op le ri va st : Nat → Int32} (h : s < 256) (hp : post 1) : wpX_isSet post (fc, fm, fz, a, mk, d, ki, op, le, ri, va, st) (nI s) :=
  br_f (nI_pos (by omega)) (br_f (nI_nlt (a := 255) (by omega) (by decide)) hp)
theorem xi_m0 {post : Int32 → Prop} {v : Int32} {fc fm fz : Int32} {a mk d ki op le ri va st : Nat → Int32} (h : v < 0 ∨ nI 4 ≤ v) (hp : post 0) : wpX_isMark post (fc, fm, fz, a, mk, d, ki, op, le, ri, va, st) v := by
  rcases h with h | h
  · exact br_t h hp
  · exact br_f (fr_nn (by decide) h) (br_t h hp)
theorem xi_m1 {post : Int32 → Prop} {s : Nat} {fc fm fz : Int32} {a mk d ki op le ri va st : Nat → Int32} (h : s < 4) (hp : post 1) : wpX_isMark post (fc, fm, fz, a, mk, d, ki, op, le, ri, va, st) (nI s) :=
  br_f (nI_pos (by omega)) (br_f (nI_ge (b := 4) h (by decide)) hp)
theorem yi_s0 {post : Int32 → Prop} {v : Int32} {fc fm fz : Int32} {a mk d kn fi se sv st : Nat → Int32} (h : v < 0 ∨ nI 8 ≤ v) (hp : post 0) : wpY_isState post (fc, fm, fz, a, mk, d, kn, fi, se, sv, st) v := by
  rcases h with h | h
  · exact br_t h hp
  · exact br_f (fr_nn (by decide) h) (br_t (fr_lt (by decide) h) hp)
theorem yi_s1 {post : Int32 → Prop} {s : Nat} {fc fm fz : Int32} {a mk d kn fi se sv st : Nat → Int32} (h : s < 8) (hp : post 1) : wpY_isState post (fc, fm, fz, a, mk, d, kn, fi, se, sv, st) (nI s) :=
  br_f (nI_pos (by omega)) (br_f (nI_nlt (a := 7) (by omega) (by decide)) hp)
theorem yi_e0 {post : Int32 → Prop} {v : Int32} {fc fm fz : Int32} {a mk d kn fi se sv st : Nat → Int32} (h : v < 0 ∨ nI 256 ≤ v) (hp : post 0) : wpY_isSet post (fc, fm, fz, a, mk, d, kn, fi, se, sv, st) v := by
  rcases h with h | h
  · exact br_t h hp
  · exact br_f (fr_nn (by decide) h) (br_t (fr_lt (by decide) h) hp)
theorem yi_e1 {post : Int32 → Prop} {s : Nat} {fc fm fz : Int32} {a mk d kn fi se sv st : Nat → Int32} (h : s < 256) (hp : post 1) : wpY_isSet post (fc, fm, fz, a, mk, d, kn, fi, se, sv, st) (nI s) :=
  br_f (nI_pos (by omega)) (br_f (nI_nlt (a := 255) (by omega) (by decide)) hp)
/-! a new formula -/
theorem xm_w {post : SX → Prop} {m z : Nat} {fc p0 p1 p2 p3 : Int32} {a mk d ki op le ri va st : Nat → Int32} (hm : m < 20) (hz : z < 6) (hp : post (fc, nI (m + 1), nI (z + 1), a, mk, d, upd ki m p0, upd op m p1, upd le m p2, upd ri m p3, va, upd st z (nI m))) : wpX_makeFormula post (fc, nI m, nI z, a, mk, d, ki, op, le, ri, va, st) p0 p1 p2 p3 := by
  have e1 : (nI m).toNatClampNeg = m := nI_clamp (by omega)
  have e2 : (nI z).toNatClampNeg = z := nI_clamp (by omega)
  have hv : vp_in (nI m) 20 := vp_in_nI hm (by decide)
  have hw : vp_in (nI z) 6 := vp_in_nI hz (by decide)
  exact ⟨hv, nm_r (e' := upd ki m p0) (by rw [e1]) ⟨hv, nm_r (e' := upd op m p1) (by rw [e1]) ⟨hv, nm_r (e' := upd le m p2) (by rw [e1]) ⟨hv, nm_r (e' := upd ri m p3) (by rw [e1]) ⟨hw, nm_r (e' := upd st z (nI m)) (by rw [e2]) (nm_r (nI_1 z) (nm_r (nI_1 m) hp))⟩⟩⟩⟩⟩
theorem yn_w {post : Int32 → SY → Prop} {m z : Nat} {fc p0 p1 p2 : Int32} {a mk d kn fi se sv st : Nat → Int32} (hm : m < 20) (hz : z < 6) (hp : post (nI (z + 1)) (fc, nI (m + 1), nI (z + 1), a, mk, d, upd kn m p0, upd fi m p1, upd se m p2, sv, upd st z (nI m))) : wpY_note post (fc, nI m, nI z, a, mk, d, kn, fi, se, sv, st) p0 p1 p2 := by
  have e1 : (nI m).toNatClampNeg = m := nI_clamp (by omega)
  have e2 : (nI z).toNatClampNeg = z := nI_clamp (by omega)
  have hv : vp_in (nI m) 20 := vp_in_nI hm (by decide)
  have hw : vp_in (nI z) 6 := vp_in_nI hz (by decide)
  exact ⟨hv, nm_r (e' := upd kn m p0) (by rw [e1]) ⟨hv, nm_r (e' := upd fi m p1) (by rw [e1]) ⟨hv, nm_r (e' := upd se m p2) (by rw [e1]) ⟨hw, nm_r (e' := upd st z (nI m)) (by rw [e2]) (nm_r (nI_1 m) (nm_r (nI_1 z) hp))⟩⟩⟩⟩
/-! reach, steps, knots -/
theorem yr_loop {post : Int32 → Prop} {fc fm fz : Int32} {a mk d kn fi se sv st : Nat → Int32} : ∀ r i g, i + r = 8 → post (fr_it (fun x => x ||| fr_af a x) r g) → wY_reach_16 post fc fm fz a mk d kn fi se sv st (r + 1) g (nI i) := by
  intro r
  induction r with
  | zero =>
    intro i g hi hp
    have e : i = 8 := by omega
    subst e
    exact br_t fr_8t hp
  | succ r ih =>
    intro i g hi hp
    exact br_f (fr_8f (by omega)) (ya_w rfl (nm_e (nm_r (nI_1 i) (ih (i + 1) _ (by omega) hp))))
def fr_st (a : Nat → Int32) (g : Int32) : Nat → Nat → Int32 → Int32
  | 0, _, _ => -4
  | r + 1, i, x => if x &&& g = 0 then fr_st a g r (i + 1) (x ||| fr_af a x) else nI i
theorem xt_loop {post : Int32 → SX → Prop} {g : Int32} {fc fm fz : Int32} {a mk d ki op le ri va st : Nat → Int32} : ∀ r i x, i + r = 8 → post (fr_st a g r i x) (fc, fm, fz, a, mk, d, ki, op, le, ri, va, st) → wX_steps_49 post g fc fm fz a mk d ki op le ri va st (r + 1) x (nI i) := by
  intro r
  induction r with
  | zero =>
    intro i x hi hp
    have e : i = 8 := by omega
    subst e
    exact br_t fr_8t hp
  | succ r ih =>
    intro i x hi hp
    by_cases z : x &&& g = 0
    · have e : fr_st a g (r + 1) i x = fr_st a g r (i + 1) (x ||| fr_af a x) := if_pos z
      rw [e] at hp
      exact br_f (fr_8f (by omega)) (br_t z (xa_w rfl (nm_e (nm_r (nI_1 i) (ih (i + 1) _ (by omega) hp)))))
    · have e : fr_st a g (r + 1) i x = nI i := if_neg z
      rw [e] at hp
      exact br_f (fr_8f (by omega)) (br_f z hp)
theorem yt_loop {post : Int32 → SY → Prop} {g : Int32} {fc fm fz : Int32} {a mk d kn fi se sv st : Nat → Int32} (hg : ¬ g < 0) : ∀ r i x, i + r = 8 → post (fr_st a g r i x) (fc, fm, fz, a, mk, d, kn, fi, se, sv, st) → wY_steps_22 post g fc fm fz a mk d kn fi se sv st (r + 1) x (nI i) := by
  intro r
  induction r with
  | zero =>
    intro i x hi hp
    have e : i = 8 := by omega
    subst e
    exact br_t fr_8t hp
  | succ r ih =>
    intro i x hi hp
    by_cases z : x &&& g = 0
    · have e : fr_st a g (r + 1) i x = fr_st a g r (i + 1) (x ||| fr_af a x) := if_pos z
      rw [e] at hp
      exact br_f (fr_8f (by omega)) (br_f hg (br_t z (ya_w rfl (nm_e (nm_r (nI_1 i) (ih (i + 1) _ (by omega) hp))))))
    · have e : fr_st a g (r + 1) i x = nI i := if_neg z
      rw [e] at hp
      exact br_f (fr_8f (by omega)) (br_f hg (br_f z hp))
def fr_k1 (a : Nat → Int32) (i : Nat) : Int32 := fr_cl a (a i) &&& fr_un a 255 ((1 : Int32) <<< (nI i &&& 31))
def fr_kn (a : Nat → Int32) : Nat → Nat → Int32 → Int32
  | 0, _, x => x
  | r + 1, i, x => fr_kn a r (i + 1) (if fr_k1 a i &&& ((1 : Int32) <<< (nI i &&& 31)) = 0 then x else if fr_k1 a i &&& (((1 : Int32) <<< (nI i &&& 31)) - 1) = 0 then x + 1 else x)
theorem xk_loop {post : Int32 → Prop} {fc fm fz : Int32} {a mk d ki op le ri va st : Nat → Int32} : ∀ r i x, i + r = 8 → post (fr_kn a r i x) → wX_knots_4 post fc fm fz a mk d ki op le ri va st (r + 1) x (nI i) := by
  intro r
  induction r with
  | zero =>
    intro i x hi hp
    have e : i = 8 := by omega
    subst e
    exact br_t fr_8t hp
  | succ r ih =>
    intro i x hi hp
    have hn := ih (i + 1) _ (by omega) hp
    refine br_f (fr_8f (by omega)) (nm_e ⟨vp_in_nI (by omega) (by decide), xc_w (g := a i) (by rw [fr_c8 (by omega)]) (xu_w rfl (nm_e ?_))⟩)
    by_cases z1 : fr_k1 a i &&& ((1 : Int32) <<< (nI i &&& 31)) = 0
    · rw [if_pos z1] at hn
      exact br_t z1 (nm_r (nI_1 i) hn)
    · rw [if_neg z1] at hn
      by_cases z2 : fr_k1 a i &&& (((1 : Int32) <<< (nI i &&& 31)) - 1) = 0
      · rw [if_pos z2] at hn
        exact br_f z1 (br_t z2 (nm_e (nm_r (nI_1 i) hn)))
      · rw [if_neg z2] at hn
        exact br_f z1 (br_f z2 (nm_r (nI_1 i) hn))
theorem yk_in {post : Int32 → Prop} {J4 : Int32 → Int32 → Prop} {x1 x2 : Int32} {fc fm fz : Int32} {a mk d kn fi se sv st : Nat → Int32} : ∀ r i g, i + r = 8 → wY_knots_24 post J4 x1 x2 fc fm fz a mk d kn fi se sv st 1 (fr_it (fun x => x ||| fr_af a x) r g) (nI 8) → wY_knots_24 post J4 x1 x2 fc fm fz a mk d kn fi se sv st (r + 1) g (nI i) := by
  intro r
  induction r with
  | zero =>
    intro i g hi hp
    have e : i = 8 := by omega
    subst e
    exact hp
  | succ r ih =>
    intro i g hi hp
    exact br_f (fr_8f (by omega)) (ya_w rfl (nm_e (nm_r (nI_1 i) (ih (i + 1) _ (by omega) hp))))
theorem yk_loop {post : Int32 → Prop} {fc fm fz : Int32} {a mk d kn fi se sv st : Nat → Int32} : ∀ r i x, i + r = 8 → post (fr_kn a r i x) → wY_knots_4 post fc fm fz a mk d kn fi se sv st (r + 1) x (nI i) := by
  intro r
  induction r with
  | zero =>
    intro i x hi hp
    have e : i = 8 := by omega
    subst e
    exact br_t fr_8t hp
  | succ r ih =>
    intro i x hi hp
    have hn := ih (i + 1) _ (by omega) hp
    refine br_f (fr_8f (by omega)) (ya_w rfl ⟨9, yk_in 8 0 _ rfl ?_⟩)
    rw [fr_af_1 a (by omega)]
    refine br_t fr_8t (yu_w rfl (nm_e ?_))
    by_cases z1 : fr_k1 a i &&& ((1 : Int32) <<< (nI i &&& 31)) = 0
    · rw [if_pos z1] at hn
      exact br_f (fun w => (fr_sh (by omega)).mp w z1) (nm_r (nI_1 i) hn)
    · rw [if_neg z1] at hn
      by_cases z2 : fr_k1 a i &&& (((1 : Int32) <<< (nI i &&& 31)) - 1) = 0
      · rw [if_pos z2] at hn
        exact br_t ((fr_sh (by omega)).mpr z1) (br_t z2 (nm_e (nm_r (nI_1 i) hn)))
      · rw [if_neg z2] at hn
        exact br_t ((fr_sh (by omega)).mpr z1) (br_f z2 (nm_r (nI_1 i) hn))
end
section
def fr_up (f : Nat → Nat) (m v : Nat) : Nat → Nat := fun i => if i = m then v else f i
theorem fr_ups {f : Nat → Nat} {m v : Nat} : fr_up f m v m = v := if_pos rfl
theorem fr_upn {f : Nat → Nat} {m v i : Nat} (h : i ≠ m) : fr_up f m v i = f i := if_neg h
/-- c demands, m formulas made, z of them on the stack; formula i is of kind kd i (0 a mark, 1 one, 2 two), has the number qq i and the parts ll i and rr i -/
def fr_Inv (c m z : Nat) (mk ki op le ri st kn fi se : Nat → Int32) (kd qq ll rr : Nat → Nat) : Prop :=
  c ≤ 3 ∧ m ≤ 20 ∧ z ≤ 6 ∧ (∀ i, fr_sub (mk i) 255) ∧ (∀ i, i < m → ki i = nI (kd i) ∧ op i = nI (qq i) ∧ le i = nI (ll i) ∧ ri i = nI (rr i)) ∧ (∀ i, i < m → kn i = nI (fr_cd (kd i) (qq i)) ∧ fi i = nI (ll i) ∧ se i = nI (rr i)) ∧ (∀ i, i < m → fr_ok i (kd i) (qq i) (ll i) (rr i)) ∧ (∀ j, j < z → ∃ q, q < m ∧ st j = nI q)
def i_Rel (_ : Nat) (u : SX) (v : SY) : Prop :=
  ∃ (c m z : Nat) (a mk d ki op le ri va st kn fi se sv : Nat → Int32) (kd qq ll rr : Nat → Nat), u = (nI c, nI m, nI z, a, mk, d, ki, op, le, ri, va, st) ∧ v = (nI c, nI m, nI z, a, mk, d, kn, fi, se, sv, st) ∧ fr_Inv c m z mk ki op le ri st kn fi se kd qq ll rr
theorem fr_rel {k c m z : Nat} {a mk d ki op le ri va st kn fi se sv : Nat → Int32} {kd qq ll rr : Nat → Nat} (I : fr_Inv c m z mk ki op le ri st kn fi se kd qq ll rr) : i_Rel k (nI c, nI m, nI z, a, mk, d, ki, op, le, ri, va, st) (nI c, nI m, nI z, a, mk, d, kn, fi, se, sv, st) :=
  ⟨c, m, z, a, mk, d, ki, op, le, ri, va, st, kn, fi, se, sv, kd, qq, ll, rr, rfl, rfl, I⟩
theorem fr_new {c m z z' : Nat} {mk ki op le ri st kn fi se : Nat → Int32} {kd qq ll rr : Nat → Nat} (I : fr_Inv c m z mk ki op le ri st kn fi se kd qq ll rr) (hm : m < 20) (hz : z' ≤ z) (h6 : z' < 6) {k q l r : Nat} (o : fr_ok m k q l r) {p0 p1 p2 p3 y0 y1 y2 : Int32} (h0 : p0 = nI k) (h1 : p1 = nI q) (h2 : p2 = nI l) (h3 : p3 = nI r) (g0 : y0 = nI (fr_cd k q)) (g1 : y1 = nI l) (g2 : y2 = nI r) : fr_Inv c (m + 1) (z' + 1) mk (upd ki m p0) (upd op m p1) (upd le m p2) (upd ri m p3) (upd st z' (nI m)) (upd kn m y0) (upd fi m y1) (upd se m y2) (fr_up kd m k) (fr_up qq m q) (fr_up ll m l) (fr_up rr m r) := by
  obtain ⟨i1, i2, i3, i4, i5, i6, i7, i8⟩ := I
  refine ⟨i1, by omega, by omega, i4, fun i hi => ?_, fun i hi => ?_, fun i hi => ?_, fun j hj => ?_⟩
  · by_cases e : i = m
    · subst e
      rw [pk_us, pk_us, pk_us, pk_us, fr_ups, fr_ups, fr_ups, fr_ups]
      exact ⟨h0, h1, h2, h3⟩
    · rw [pk_un e, pk_un e, pk_un e, pk_un e, fr_upn e, fr_upn e, fr_upn e, fr_upn e]
      exact i5 i (by omega)
  · by_cases e : i = m
    · subst e
      rw [pk_us, pk_us, pk_us, fr_ups, fr_ups, fr_ups, fr_ups]
      exact ⟨g0, g1, g2⟩
    · rw [pk_un e, pk_un e, pk_un e, fr_upn e, fr_upn e, fr_upn e, fr_upn e]
      exact i6 i (by omega)
  · by_cases e : i = m
    · subst e
      rw [fr_ups, fr_ups, fr_ups, fr_ups]
      exact o
    · rw [fr_upn e, fr_upn e, fr_upn e, fr_upn e]
      exact i7 i (by omega)
  · by_cases e : j = z'
    · subst e
      exact ⟨m, by omega, pk_us⟩
    · obtain ⟨q, hq, hs⟩ := i8 j (by omega)
      exact ⟨q, by omega, by rw [pk_un e]; exact hs⟩
theorem fr_mk8 {mk : Nat → Int32} {j n : Nat} (h : ∀ i, fr_sub (mk i) 255) (hn : n < 256) : ∀ i, fr_sub (upd mk j (nI n) i) 255 := by
  intro i
  by_cases e : i = j
  · rw [e, pk_us]; exact fr_set8 (by omega)
  · rw [pk_un e]; exact h i
/-! holds, as the reference walks it -/
theorem yh_0 {post : Int32 → SY → Prop} {c m : Nat} {a mk d kn fi se sv st : Nat → Int32} {kd qq ll rr : Nat → Nat} (hc : c ≤ 3) (hm : m ≤ 20) (h8 : ∀ i, fr_sub (mk i) 255) (ok : ∀ i, i < m → fr_ok i (kd i) (qq i) (ll i) (rr i)) (hk : ∀ i, i < m → kn i = nI (fr_cd (kd i) (qq i)) ∧ fi i = nI (ll i) ∧ se i = nI (rr i)) (hp : ∀ w, post (-4) (nI c, nI m, nI 0, a, mk, d, kn, fi, se, w, st)) : wpY_holds post (nI c, nI m, nI 0, a, mk, d, kn, fi, se, sv, st) :=
  yw_w hc hm h8 ok hk fun w _ => br_t rfl (hp w)
theorem yh_1 {post : Int32 → SY → Prop} {c m z q : Nat} {a mk d kn fi se sv st : Nat → Int32} {kd qq ll rr : Nat → Nat} (hc : c ≤ 3) (hm : m ≤ 20) (hz : z < 6) (h8 : ∀ i, fr_sub (mk i) 255) (ok : ∀ i, i < m → fr_ok i (kd i) (qq i) (ll i) (rr i)) (hk : ∀ i, i < m → kn i = nI (fr_cd (kd i) (qq i)) ∧ fi i = nI (ll i) ∧ se i = nI (rr i)) (hq : q < m) (hs : st z = nI q) (hp : ∀ w, fr_gd a mk d c kd qq ll rr m w → post (w q) (nI c, nI m, nI (z + 1), a, mk, d, kn, fi, se, w, st)) : wpY_holds post (nI c, nI m, nI (z + 1), a, mk, d, kn, fi, se, sv, st) := by
  refine yw_w hc hm h8 ok hk fun w hg => br_f (nI_ne0 (by omega) (by omega)) ⟨?_, ?_, ?_⟩
  · rw [nI_pred]; exact vp_in_nI hz (by decide)
  · rw [nI_pred, nI_clamp (by omega), hs]; exact vp_in_nI (by omega) (by decide)
  · rw [nI_pred, nI_clamp (by omega), hs, nI_clamp (by omega)]; exact hp w hg
end
section
theorem i_up {k : Nat} {u : SX} {v : SY} (h : i_Rel k u v) : i_Rel (k + 3) u v := h
theorem i_vc0 : wpX_init (fun u => wpY_init (fun v => i_Rel 0 u v)) :=
  fr_rel (k := 0) (c := 0) (m := 0) (z := 0) (kd := fun _ => 0) (qq := fun _ => 0) (ll := fun _ => 0) (rr := fun _ => 0) ⟨by decide, by decide, by decide, fun _ => fr_set0, fun i h => absurd h (Nat.not_lt_zero i), fun i h => absurd h (Nat.not_lt_zero i), fun i h => absurd h (Nat.not_lt_zero i), fun i h => absurd h (Nat.not_lt_zero i)⟩
theorem i_vc_arcs {k : Nat} {u : SX} {v : SY} (I : i_Rel k u v) (hk : k + 3 ≤ 1536) (v1 : Int32) (v2 : Int32) : wpX_arcs (fun r u' => wpY_arcs (fun r' v' => r' = r ∧ i_Rel (k + 3) u' v') v v1 v2) u v1 v2 := by
  obtain ⟨c, m, z, a, mk, d, ki, op, le, ri, va, st, kn, fi, se, sv, kd, qq, ll, rr, rfl, rfl, I⟩ := I
  unfold wpX_arcs wpY_arcs
  dsimp only
  rcases fr_sp v1 (n := 8) (by decide) with h | ⟨s, hs, rfl⟩
  · exact xi_s0 h (br_t rfl (yi_s0 h (br_t rfl ⟨rfl, fr_rel I⟩)))
  · rcases fr_sp v2 (n := 256) (by decide) with h | ⟨t, ht, rfl⟩
    · exact xi_s1 hs (br_f (by decide) (xi_e0 h (br_t rfl (yi_s1 hs (br_f (by decide) (yi_e0 h (br_t rfl ⟨rfl, fr_rel I⟩)))))))
    · have hv : vp_in (nI s) 8 := vp_in_nI hs (by decide)
      exact xi_s1 hs (br_f (by decide) (xi_e1 ht (br_f (by decide) ⟨hv, nm_e ⟨hv, nm_e (yi_s1 hs (br_f (by decide) (yi_e1 ht (br_f (by decide) ⟨hv, nm_e ⟨hv, nm_e ⟨rfl, fr_rel I⟩⟩⟩))))⟩⟩)))
theorem i_vc_mark {k : Nat} {u : SX} {v : SY} (I : i_Rel k u v) (hk : k + 3 ≤ 1536) (v1 : Int32) (v2 : Int32) : wpX_mark (fun r u' => wpY_mark (fun r' v' => r' = r ∧ i_Rel (k + 3) u' v') v v1 v2) u v1 v2 := by
  obtain ⟨c, m, z, a, mk, d, ki, op, le, ri, va, st, kn, fi, se, sv, kd, qq, ll, rr, rfl, rfl, I⟩ := I
  unfold wpX_mark wpY_mark
  dsimp only
  rcases fr_sp v1 (n := 4) (by decide) with h | ⟨s, hs, rfl⟩
  · refine xi_m0 h (br_t rfl ?_)
    rcases h with h | h
    · exact br_t h ⟨rfl, fr_rel I⟩
    · exact br_f (fr_nn (by decide) h) (br_t (fr_lt (by decide) h) ⟨rfl, fr_rel I⟩)
  · have h0 : ¬ nI s < 0 := nI_pos (by omega)
    have h3 : ¬ (3 : Int32) < nI s := nI_nlt (a := 3) (by omega) (by decide)
    rcases fr_sp v2 (n := 256) (by decide) with h | ⟨t, ht, rfl⟩
    · exact xi_m1 hs (br_f (by decide) (xi_e0 h (br_t rfl (br_f h0 (br_f h3 (yi_e0 h (br_t rfl ⟨rfl, fr_rel I⟩)))))))
    · have hv : vp_in (nI s) 4 := vp_in_nI hs (by decide)
      obtain ⟨i1, i2, i3, i4, i5⟩ := I
      have I' : fr_Inv c m z (upd mk (nI s).toNatClampNeg (nI t)) ki op le ri st kn fi se kd qq ll rr := ⟨i1, i2, i3, fr_mk8 i4 ht, i5⟩
      exact xi_m1 hs (br_f (by decide) (xi_e1 ht (br_f (by decide) ⟨hv, nm_e ⟨hv, nm_e (br_f h0 (br_f h3 (yi_e1 ht (br_f (by decide) ⟨hv, nm_e ⟨hv, nm_e ⟨rfl, fr_rel I'⟩⟩⟩))))⟩⟩)))
theorem i_vc_demand {k : Nat} {u : SX} {v : SY} (I : i_Rel k u v) (hk : k + 3 ≤ 1536) (v1 : Int32) : wpX_demand (fun r u' => wpY_demand (fun r' v' => r' = r ∧ i_Rel (k + 3) u' v') v v1) u v1 := by
  obtain ⟨c, m, z, a, mk, d, ki, op, le, ri, va, st, kn, fi, se, sv, kd, qq, ll, rr, rfl, rfl, I⟩ := I
  unfold wpX_demand wpY_demand
  dsimp only
  rcases fr_sp v1 (n := 256) (by decide) with h | ⟨t, ht, rfl⟩
  · exact xi_e0 h (br_t rfl (yi_e0 h (br_t rfl ⟨rfl, fr_rel I⟩)))
  · have hc := I.1
    by_cases e : c = 3
    · subst e
      exact xi_e1 ht (br_f (by decide) (br_f (by decide) (yi_e1 ht (br_f (by decide) (br_t rfl ⟨rfl, fr_rel I⟩)))))
    · have hv : vp_in (nI c) 3 := vp_in_nI (by omega) (by decide)
      have I' : fr_Inv (c + 1) m z mk ki op le ri st kn fi se kd qq ll rr := ⟨by omega, I.2⟩
      exact xi_e1 ht (br_f (by decide) (br_t (nI_lt (b := 3) (by omega) (by decide)) ⟨hv, nm_e (nm_r (nI_1 c) (yi_e1 ht (br_f (by decide) (br_f (fr_nq (j := 3) e (by omega) (by decide)) ⟨hv, nm_e (nm_r (nI_1 c) ⟨rfl, fr_rel I'⟩)⟩))))⟩))
theorem i_vc_undemand {k : Nat} {u : SX} {v : SY} (I : i_Rel k u v) (hk : k + 3 ≤ 1536) : wpX_undemand (fun r u' => wpY_undemand (fun r' v' => r' = r ∧ i_Rel (k + 3) u' v') v) u := by
  obtain ⟨c, m, z, a, mk, d, ki, op, le, ri, va, st, kn, fi, se, sv, kd, qq, ll, rr, rfl, rfl, I⟩ := I
  have hc := I.1
  cases c with
  | zero => exact br_f (by decide) (br_t rfl ⟨rfl, fr_rel I⟩)
  | succ c =>
    have hv : vp_in (nI c) 3 := vp_in_nI (by omega) (by decide)
    have I' : fr_Inv c m z mk ki op le ri st kn fi se kd qq ll rr := ⟨by omega, I.2⟩
    exact br_t (nI_le (a := 1) (by omega) (by omega)) (nm_r (nI_pred c) ⟨hv, br_f (nI_ne0 (by omega) (by omega)) (nm_r (nI_pred c) ⟨hv, rfl, fr_rel I'⟩)⟩)
theorem i_vc_push {k : Nat} {u : SX} {v : SY} (I : i_Rel k u v) (hk : k + 3 ≤ 1536) (v1 : Int32) : wpX_push (fun r u' => wpY_push (fun r' v' => r' = r ∧ i_Rel (k + 3) u' v') v v1) u v1 := by
  obtain ⟨c, m, z, a, mk, d, ki, op, le, ri, va, st, kn, fi, se, sv, kd, qq, ll, rr, rfl, rfl, I⟩ := I
  unfold wpX_push wpY_push
  dsimp only
  rcases fr_sp v1 (n := 4) (by decide) with h | ⟨s, hs, rfl⟩
  · refine xi_m0 h (br_t rfl ?_)
    rcases h with h | h
    · exact br_t h ⟨rfl, fr_rel I⟩
    · exact br_f (fr_nn (by decide) h) (br_f (fr_nle (n := 3) (by decide) h) ⟨rfl, fr_rel I⟩)
  · have h0 : ¬ nI s < 0 := nI_pos (by omega)
    have h3 : nI s ≤ (3 : Int32) := nI_le (b := 3) (by omega) (by decide)
    have hm := I.2.1
    have hz := I.2.2.1
    by_cases e : z = 6
    · subst e
      exact xi_m1 hs (br_f (by decide) (br_t (by decide) (br_f h0 (br_t h3 (br_t rfl ⟨rfl, fr_rel I⟩)))))
    · have e1 : ¬ (6 : Int32) ≤ nI z := nI_ge (b := 6) (by omega) (by decide)
      have e2 : ¬ nI z = (6 : Int32) := fr_nq (j := 6) e (by omega) (by decide)
      by_cases g : m = 20
      · subst g
        exact xi_m1 hs (br_f (by decide) (br_f e1 (br_f (by decide) (br_f h0 (br_t h3 (br_f e2 (br_t rfl ⟨rfl, fr_rel I⟩)))))))
      · have g1 : nI m < (20 : Int32) := nI_lt (b := 20) (by omega) (by decide)
        have g2 : ¬ nI m = (20 : Int32) := fr_nq (j := 20) g (by omega) (by decide)
        have I' := fr_new I (by omega) (Nat.le_refl z) (by omega) (k := 0) (q := s) (l := 0) (r := 0) ⟨by decide, by decide, Or.inl ⟨rfl, hs⟩⟩ (p0 := 0) (p1 := nI s) (p2 := 0) (p3 := 0) (y0 := 20 + nI s) (y1 := 0) (y2 := 0) rfl rfl rfl rfl (nI_add 20 s) rfl rfl
        exact xi_m1 hs (br_f (by decide) (br_f e1 (br_t g1 (xm_w (by omega) (by omega) (br_f h0 (br_t h3 (br_f e2 (br_f g2 (yn_w (by omega) (by omega) ⟨rfl, fr_rel I'⟩)))))))))
theorem i_vc_one {k : Nat} {u : SX} {v : SY} (I : i_Rel k u v) (hk : k + 3 ≤ 1536) (v1 : Int32) : wpX_one (fun r u' => wpY_one (fun r' v' => r' = r ∧ i_Rel (k + 3) u' v') v v1) u v1 := by
  obtain ⟨c, m, z, a, mk, d, ki, op, le, ri, va, st, kn, fi, se, sv, kd, qq, ll, rr, rfl, rfl, I⟩ := I
  rcases fr_sp v1 (n := 7) (by decide) with h | ⟨s, hs, rfl⟩
  · rcases h with h | h
    · exact br_t h (br_t h ⟨rfl, fr_rel I⟩)
    · have h0 := fr_nn (by decide) h
      have h6 : ¬ v1 ≤ 6 := fr_nle (n := 6) (by decide) h
      exact br_f h0 (br_f h6 (br_f h0 (br_f h6 ⟨rfl, fr_rel I⟩)))
  · have h0 : ¬ nI s < 0 := nI_pos (by omega)
    have h6 : nI s ≤ (6 : Int32) := nI_le (b := 6) (by omega) (by decide)
    have hm := I.2.1
    have hz := I.2.2.1
    cases z with
    | zero => exact br_f h0 (br_t h6 (br_f (by decide) (br_f h0 (br_t h6 (br_t rfl ⟨rfl, fr_rel I⟩)))))
    | succ z =>
      have e1 : (1 : Int32) ≤ nI (z + 1) := nI_le (a := 1) (by omega) (by omega)
      have e2 : ¬ nI (z + 1) = 0 := nI_ne0 (by omega) (by omega)
      by_cases g : m = 20
      · subst g
        exact br_f h0 (br_t h6 (br_t e1 (br_f (by decide) (br_f h0 (br_t h6 (br_f e2 (br_t rfl ⟨rfl, fr_rel I⟩)))))))
      · have g1 : nI m < (20 : Int32) := nI_lt (b := 20) (by omega) (by decide)
        have g2 : ¬ nI m = (20 : Int32) := fr_nq (j := 20) g (by omega) (by decide)
        have hv : vp_in (nI z) 6 := vp_in_nI (by omega) (by decide)
        obtain ⟨l, hl, hs1⟩ := I.2.2.2.2.2.2.2 z (by omega)
        have es : st (nI z).toNatClampNeg = nI l := by rw [nI_clamp (by omega), hs1]
        have I' := fr_new I (by omega) (Nat.le_succ z) (by omega) (k := 1) (q := s) (l := l) (r := 0) ⟨by omega, by decide, Or.inr (Or.inl ⟨rfl, hs, hl⟩)⟩ (p0 := 1) (p1 := nI s) (p2 := st (nI z).toNatClampNeg) (p3 := 0) (y0 := nI s) (y1 := st (nI z).toNatClampNeg) (y2 := 0) rfl rfl es rfl rfl es rfl
        exact br_f h0 (br_t h6 (br_t e1 (br_t g1 (nm_r (nI_pred z) ⟨hv, xm_w (by omega) (by omega) (br_f h0 (br_t h6 (br_f e2 (br_f g2 (nm_r (nI_pred z) ⟨hv, yn_w (by omega) (by omega) ⟨rfl, fr_rel I'⟩⟩)))))⟩))))
theorem i_vc_two {k : Nat} {u : SX} {v : SY} (I : i_Rel k u v) (hk : k + 3 ≤ 1536) (v1 : Int32) : wpX_two (fun r u' => wpY_two (fun r' v' => r' = r ∧ i_Rel (k + 3) u' v') v v1) u v1 := by
  obtain ⟨c, m, z, a, mk, d, ki, op, le, ri, va, st, kn, fi, se, sv, kd, qq, ll, rr, rfl, rfl, I⟩ := I
  rcases fr_sp v1 (n := 4) (by decide) with h | ⟨s, hs, rfl⟩
  · rcases h with h | h
    · exact br_t h (br_t h ⟨rfl, fr_rel I⟩)
    · have h0 := fr_nn (by decide) h
      have h6 : ¬ v1 ≤ 3 := fr_nle (n := 3) (by decide) h
      exact br_f h0 (br_f h6 (br_f h0 (br_f h6 ⟨rfl, fr_rel I⟩)))
  · have h0 : ¬ nI s < 0 := nI_pos (by omega)
    have h6 : nI s ≤ (3 : Int32) := nI_le (b := 3) (by omega) (by decide)
    have hm := I.2.1
    have hz := I.2.2.1
    by_cases z2 : z < 2
    · have e1 : ¬ (2 : Int32) ≤ nI z := nI_ge (b := 2) z2 (by decide)
      exact br_f h0 (br_t h6 (br_f e1 (br_f h0 (br_t h6 (br_f e1 ⟨rfl, fr_rel I⟩)))))
    · obtain ⟨y, rfl⟩ : ∃ y, z = y + 2 := ⟨z - 2, by omega⟩
      have e1 : (2 : Int32) ≤ nI (y + 2) := nI_le (a := 2) (by omega) (by omega)
      by_cases g : m = 20
      · subst g
        exact br_f h0 (br_t h6 (br_t e1 (br_f (by decide) (br_f h0 (br_t h6 (br_t e1 (br_t rfl ⟨rfl, fr_rel I⟩)))))))
      · have g1 : nI m < (20 : Int32) := nI_lt (b := 20) (by omega) (by decide)
        have g2 : ¬ nI m = (20 : Int32) := fr_nq (j := 20) g (by omega) (by decide)
        have hv : vp_in (nI y) 6 := vp_in_nI (by omega) (by decide)
        have hv' : vp_in (nI y + 1) 6 := by rw [nI_1]; exact vp_in_nI (by omega) (by decide)
        obtain ⟨l, hl, hs1⟩ := I.2.2.2.2.2.2.2 y (by omega)
        obtain ⟨r, hr, hs2⟩ := I.2.2.2.2.2.2.2 (y + 1) (by omega)
        have es : st (nI y).toNatClampNeg = nI l := by rw [nI_clamp (by omega), hs1]
        have es' : st (nI y + 1).toNatClampNeg = nI r := by rw [nI_1, nI_clamp (by omega), hs2]
        have I' := fr_new I (by omega) (by omega : y ≤ y + 2) (by omega) (k := 2) (q := s) (l := l) (r := r) ⟨by omega, by omega, Or.inr (Or.inr ⟨rfl, hs, hl, hr⟩)⟩ (p0 := 2) (p1 := nI s) (p2 := st (nI y).toNatClampNeg) (p3 := st (nI y + 1).toNatClampNeg) (y0 := 10 + nI s) (y1 := st (nI y).toNatClampNeg) (y2 := st (nI y + 1).toNatClampNeg) rfl rfl es es' (nI_add 10 s) es es'
        exact br_f h0 (br_t h6 (br_t e1 (br_t g1 (nm_r (fr_m2 y) ⟨hv, hv', xm_w (by omega) (by omega) (br_f h0 (br_t h6 (br_t e1 (br_f g2 (nm_r (fr_m2 y) ⟨hv, hv', yn_w (by omega) (by omega) ⟨rfl, fr_rel I'⟩⟩)))))⟩))))
theorem i_vc_discard {k : Nat} {u : SX} {v : SY} (I : i_Rel k u v) (hk : k + 3 ≤ 1536) : wpX_discard (fun u' => wpY_discard (fun v' => i_Rel (k + 3) u' v') v) u := by
  obtain ⟨c, m, z, a, mk, d, ki, op, le, ri, va, st, kn, fi, se, sv, kd, qq, ll, rr, rfl, rfl, I⟩ := I
  have I' : fr_Inv c 0 0 mk ki op le ri st kn fi se kd qq ll rr := ⟨I.1, by decide, by decide, I.2.2.2.1, fun i h => absurd h (Nat.not_lt_zero i), fun i h => absurd h (Nat.not_lt_zero i), fun i h => absurd h (Nat.not_lt_zero i), fun i h => absurd h (Nat.not_lt_zero i)⟩
  exact fr_rel (k := k + 3) I'
theorem i_vc_depth {k : Nat} {u : SX} {v : SY} (I : i_Rel k u v) (hk : k + 3 ≤ 1536) : wpX_depth (fun r => wpY_depth (fun r' => r' = r ∧ i_Rel (k + 3) u v) v) u := by
  obtain ⟨c, m, z, a, mk, d, ki, op, le, ri, va, st, kn, fi, se, sv, kd, qq, ll, rr, rfl, rfl, I⟩ := I
  exact ⟨rfl, fr_rel I⟩
theorem i_vc_holds {k : Nat} {u : SX} {v : SY} (I : i_Rel k u v) (hk : k + 3 ≤ 1536) : wpX_holds (fun r u' => wpY_holds (fun r' v' => r' = r ∧ i_Rel (k + 3) u' v') v) u := by
  obtain ⟨c, m, z, a, mk, d, ki, op, le, ri, va, st, kn, fi, se, sv, kd, qq, ll, rr, rfl, rfl, I⟩ := I
  have I' := I
  obtain ⟨i1, i2, i3, i4, i5, i6, i7, i8⟩ := I'
  cases z with
  | zero => exact br_f (by decide) (yh_0 i1 i2 i4 i7 i6 fun w => ⟨rfl, fr_rel I⟩)
  | succ z =>
    obtain ⟨q, hq, hs⟩ := i8 z (by omega)
    refine br_t (nI_le (a := 1) (by omega) (by omega)) (xw_w i1 i2 i7 i5 fun w hg => ⟨?_, ?_, ?_⟩)
    · show vp_in (nI (z + 1) - 1) 6
      rw [nI_pred]; exact vp_in_nI (by omega) (by decide)
    · show vp_in (st (nI (z + 1) - 1).toNatClampNeg) 20
      rw [nI_pred, nI_clamp (by omega), hs]; exact vp_in_nI (by omega) (by decide)
    · refine yh_1 i1 i2 (by omega) i4 i7 i6 hq hs fun w' hg' => ⟨?_, fr_rel I⟩
      show w' q = w (st (nI (z + 1) - 1).toNatClampNeg).toNatClampNeg
      rw [nI_pred, nI_clamp (by omega), hs, nI_clamp (by omega)]
      exact fr_gd_u i7 hg' hg q hq
theorem i_vc_alike {k : Nat} {u : SX} {v : SY} (I : i_Rel k u v) (hk : k + 3 ≤ 1536) : wpX_alike (fun r u' => wpY_alike (fun r' v' => r' = r ∧ i_Rel (k + 3) u' v') v) u := by
  obtain ⟨c, m, z, a, mk, d, ki, op, le, ri, va, st, kn, fi, se, sv, kd, qq, ll, rr, rfl, rfl, I⟩ := I
  unfold wpX_alike wpY_alike
  have I' := I
  obtain ⟨i1, i2, i3, i4, i5, i6, i7, i8⟩ := I'
  by_cases z2 : z < 2
  · exact br_f (nI_ge (b := 2) z2 (by decide)) (yw_w i1 i2 i4 i7 i6 fun w hg => br_t (nI_le (b := 1) (by omega) (by decide)) ⟨rfl, fr_rel I⟩)
  · obtain ⟨y, rfl⟩ : ∃ y, z = y + 2 := ⟨z - 2, by omega⟩
    obtain ⟨p, hp, hs⟩ := i8 (y + 1) (by omega)
    obtain ⟨q, hq, ht⟩ := i8 y (by omega)
    have n1 : (nI (y + 2) - 1).toNatClampNeg = y + 1 := by rw [nI_pred (y + 1), nI_clamp (by omega)]
    have n2 : (nI (y + 2) - 2).toNatClampNeg = y := by rw [fr_m2, nI_clamp (by omega)]
    have c1 : (st (nI (y + 2) - 1).toNatClampNeg).toNatClampNeg = p := by rw [n1, hs, nI_clamp (by omega)]
    have c2 : (st (nI (y + 2) - 2).toNatClampNeg).toNatClampNeg = q := by rw [n2, ht, nI_clamp (by omega)]
    have v1 : vp_in (nI (y + 2) - 1) 6 := by rw [nI_pred (y + 1)]; exact vp_in_nI (by omega) (by decide)
    have v2 : vp_in (st (nI (y + 2) - 1).toNatClampNeg) 20 := by rw [n1, hs]; exact vp_in_nI (by omega) (by decide)
    have v3 : vp_in (nI (y + 2) - 2) 6 := by rw [fr_m2]; exact vp_in_nI (by omega) (by decide)
    have v4 : vp_in (st (nI (y + 2) - 2).toNatClampNeg) 20 := by rw [n2, ht]; exact vp_in_nI (by omega) (by decide)
    refine br_t (nI_le (a := 2) (by omega) (by omega)) (xw_w i1 i2 i7 i5 fun w hg => ⟨v1, v2, v3, v4, ?_⟩)
    by_cases e : w p = w q
    · refine br_t (by rw [c1, c2]; exact e) (yw_w i1 i2 i4 i7 i6 fun w' hg' => br_f (nI_ge (a := 1) (b := y + 2) (by omega) (by omega)) ⟨v1, v2, v3, v4, br_t ?_ ⟨rfl, fr_rel I⟩⟩)
      rw [c1, c2, fr_gd_u i7 hg' hg p hp, fr_gd_u i7 hg' hg q hq]
      exact e
    · refine br_f (by rw [c1, c2]; exact e) (yw_w i1 i2 i4 i7 i6 fun w' hg' => br_f (nI_ge (a := 1) (b := y + 2) (by omega) (by omega)) ⟨v1, v2, v3, v4, br_f ?_ ⟨rfl, fr_rel I⟩⟩)
      rw [c1, c2, fr_gd_u i7 hg' hg p hp, fr_gd_u i7 hg' hg q hq]
      exact e
theorem i_vc_fair {k : Nat} {u : SX} {v : SY} (I : i_Rel k u v) (hk : k + 3 ≤ 1536) : wpX_fair (fun r => wpY_fair (fun r' => r' = r ∧ i_Rel (k + 3) u v) v) u := by
  obtain ⟨c, m, z, a, mk, d, ki, op, le, ri, va, st, kn, fi, se, sv, kd, qq, ll, rr, rfl, rfl, I⟩ := I
  unfold wpX_fair wpY_fair
  dsimp only
  exact xs_w I.1 rfl (ys_w I.1 (fr_refl 255) rfl ⟨rfl, fr_rel I⟩)
theorem i_vc_reach {k : Nat} {u : SX} {v : SY} (I : i_Rel k u v) (hk : k + 3 ≤ 1536) (v1 : Int32) : wpX_reach (fun r => wpY_reach (fun r' => r' = r ∧ i_Rel (k + 3) u v) v v1) u v1 := by
  obtain ⟨c, m, z, a, mk, d, ki, op, le, ri, va, st, kn, fi, se, sv, kd, qq, ll, rr, rfl, rfl, I⟩ := I
  unfold wpX_reach wpY_reach
  dsimp only
  rcases fr_sp v1 (n := 8) (by decide) with h | ⟨s, hs, rfl⟩
  · exact xi_s0 h (br_t rfl (yi_s0 h (br_t rfl ⟨rfl, fr_rel I⟩)))
  · exact xi_s1 hs (br_f (by decide) (xc_w rfl (yi_s1 hs (br_f (by decide) (nm_e ⟨9, yr_loop 8 0 _ rfl ⟨rfl, fr_rel I⟩⟩)))))
theorem i_vc_steps {k : Nat} {u : SX} {v : SY} (I : i_Rel k u v) (hk : k + 3 ≤ 1536) (v1 : Int32) : wpX_steps (fun r u' => wpY_steps (fun r' v' => r' = r ∧ i_Rel (k + 3) u' v') v v1) u v1 := by
  obtain ⟨c, m, z, a, mk, d, ki, op, le, ri, va, st, kn, fi, se, sv, kd, qq, ll, rr, rfl, rfl, I⟩ := I
  unfold wpX_steps wpY_steps
  have I' := I
  obtain ⟨i1, i2, i3, i4, i5, i6, i7, i8⟩ := I'
  rcases fr_sp v1 (n := 8) (by decide) with h | ⟨s, hs, rfl⟩
  · exact xi_s0 h (br_t rfl (yi_s0 h (br_t rfl ⟨rfl, fr_rel I⟩)))
  · cases z with
    | zero => exact xi_s1 hs (br_f (by decide) (br_f (by decide) (yi_s1 hs (br_f (by decide) (yh_0 i1 i2 i4 i7 i6 fun w => nm_e ⟨1, br_f (by decide) (br_t (by decide) ⟨rfl, fr_rel I⟩)⟩)))))
    | succ z =>
      obtain ⟨q, hq, hst⟩ := i8 z (by omega)
      refine xi_s1 hs (br_f (by decide) (br_t (nI_le (a := 1) (by omega) (by omega)) (xw_w i1 i2 i7 i5 fun w hg => ⟨?_, ?_, nm_r (e' := w q) ?_ (nm_e ⟨9, xt_loop 8 0 _ rfl ?_⟩)⟩)))
      · show vp_in (nI (z + 1) - 1) 6
        rw [nI_pred]; exact vp_in_nI (by omega) (by decide)
      · show vp_in (st (nI (z + 1) - 1).toNatClampNeg) 20
        rw [nI_pred, nI_clamp (by omega), hst]; exact vp_in_nI (by omega) (by decide)
      · show w (st (nI (z + 1) - 1).toNatClampNeg).toNatClampNeg = w q
        rw [nI_pred, nI_clamp (by omega), hst, nI_clamp (by omega)]
      · refine yi_s1 hs (br_f (by decide) (yh_1 i1 i2 (by omega) i4 i7 i6 hq hst fun w' hg' => ?_))
        obtain ⟨n, hn, en⟩ := fr_pos (fr_gd_8 i4 i7 hg' q hq)
        have hpos : ¬ w' q < 0 := by rw [en]; exact nI_pos (by omega)
        refine nm_e ⟨9, yt_loop hpos 8 0 _ rfl ⟨?_, fr_rel I⟩⟩
        rw [fr_gd_u i7 hg' hg q hq]
theorem i_vc_knots {k : Nat} {u : SX} {v : SY} (I : i_Rel k u v) (hk : k + 3 ≤ 1536) : wpX_knots (fun r => wpY_knots (fun r' => r' = r ∧ i_Rel (k + 3) u v) v) u := by
  obtain ⟨c, m, z, a, mk, d, ki, op, le, ri, va, st, kn, fi, se, sv, kd, qq, ll, rr, rfl, rfl, I⟩ := I
  exact ⟨9, xk_loop 8 0 0 rfl ⟨9, yk_loop 8 0 0 rfl ⟨rfl, fr_rel I⟩⟩⟩
end
