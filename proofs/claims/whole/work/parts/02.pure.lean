def fr_sub (x y : Int32) : Prop := ∀ i, bt x i = true → bt y i = true
theorem fr_refl (x : Int32) : fr_sub x x := fun _ h => h
theorem fr_tr {x y z : Int32} (h : fr_sub x y) (g : fr_sub y z) : fr_sub x z := fun i p => g i (h i p)
theorem fr_anti {x y : Int32} (h : fr_sub x y) (g : fr_sub y x) : x = y := b_ext fun i _ => Bool.eq_iff_iff.mpr ⟨h i, g i⟩
theorem fr_l (x y : Int32) : fr_sub (x &&& y) x := fun _ h => (fr_and.mp h).1
theorem fr_r (x y : Int32) : fr_sub (x &&& y) y := fun _ h => (fr_and.mp h).2
theorem fr_i {x y z : Int32} (h : fr_sub x y) (g : fr_sub x z) : fr_sub x (y &&& z) := fun i p => fr_and.mpr ⟨h i p, g i p⟩
theorem fr_am {x y z w : Int32} (h : fr_sub x y) (g : fr_sub z w) : fr_sub (x &&& z) (y &&& w) := fr_i (fr_tr (fr_l x z) h) (fr_tr (fr_r x z) g)
theorem fr_j {x y z : Int32} (h : fr_sub x z) (g : fr_sub y z) : fr_sub (x ||| y) z := fun i p => (fr_or.mp p).elim (h i) (g i)
theorem fr_jl (x y : Int32) : fr_sub x (x ||| y) := fun _ p => fr_or.mpr (Or.inl p)
theorem fr_jr (x y : Int32) : fr_sub y (x ||| y) := fun _ p => fr_or.mpr (Or.inr p)
theorem fr_eqs {x y : Int32} (h : x = y) : fr_sub x y := h ▸ fr_refl x
/-- before: the states below n with an arc into S -/
def fr_bfN (a : Nat → Int32) (S : Int32) : Nat → Int32
  | 0 => 0
  | s + 1 => if a s &&& S = 0 then fr_bfN a S s else fr_bfN a S s ||| ((1 : Int32) <<< (nI s &&& 31))
def fr_bf (a : Nat → Int32) (S : Int32) : Int32 := fr_bfN a S 8
theorem fr_bfN_iff (a : Nat → Int32) (S : Int32) : ∀ n, n ≤ 8 → ∀ i, bt (fr_bfN a S n) i = true ↔ i < n ∧ ¬ a i &&& S = 0 := by
  intro n
  induction n with
  | zero =>
    intro _ i
    show bt 0 i = true ↔ _
    rw [b_0]
    exact ⟨fun z => (nomatch z), fun z => absurd z.1 (Nat.not_lt_zero i)⟩
  | succ n ih =>
    intro hn i
    have h := ih (by omega) i
    show bt (if a n &&& S = 0 then fr_bfN a S n else fr_bfN a S n ||| ((1 : Int32) <<< (nI n &&& 31))) i = true ↔ _
    by_cases z : a n &&& S = 0
    · rw [if_pos z, h]
      constructor
      · intro ⟨p, q⟩
        exact ⟨by omega, q⟩
      · intro ⟨p, q⟩
        refine ⟨?_, q⟩
        rcases Nat.lt_or_ge i n with l | l
        · exact l
        · have e : i = n := by omega
          rw [e] at q
          exact absurd z q
    · rw [if_neg z, fr_or, h, fr_1 (by omega) i]
      constructor
      · intro p
        rcases p with ⟨p, q⟩ | p
        · exact ⟨by omega, q⟩
        · rw [p]
          exact ⟨by omega, z⟩
      · intro ⟨p, q⟩
        by_cases e : i = n
        · exact Or.inr e
        · exact Or.inl ⟨by omega, q⟩
theorem fr_bf_iff {a : Nat → Int32} {S : Int32} {i : Nat} : bt (fr_bf a S) i = true ↔ i < 8 ∧ ∃ t, bt (a i) t = true ∧ bt S t = true := by
  rw [fr_bf, fr_bfN_iff a S 8 (by omega) i, fr_nz]
  constructor
  · intro ⟨p, t, ht⟩
    exact ⟨p, t, fr_and.mp ht⟩
  · intro ⟨p, t, ht⟩
    exact ⟨p, t, fr_and.mpr ht⟩
theorem fr_bf_m {a : Nat → Int32} {S T : Int32} (h : fr_sub S T) : fr_sub (fr_bf a S) (fr_bf a T) := by
  intro i p
  obtain ⟨q, t, r, s⟩ := fr_bf_iff.mp p
  exact fr_bf_iff.mpr ⟨q, t, r, h t s⟩
theorem fr_255 {x : Int32} : fr_sub x 255 ↔ ∀ i, bt x i = true → i < 8 := by
  constructor
  · intro h i p
    have q := h i p
    rw [b_255] at q
    exact of_decide_eq_true q
  · intro h i p
    rw [b_255]
    exact decide_eq_true (h i p)
theorem fr_bf_8 (a : Nat → Int32) (S : Int32) : fr_sub (fr_bf a S) 255 := fr_255.mpr fun _ p => (fr_bf_iff.mp p).1
/-- counting -/
def fr_cn (p : Nat → Bool) : Nat → Nat
  | 0 => 0
  | n + 1 => fr_cn p n + (if p n = true then 1 else 0)
theorem fr_cn_le (p : Nat → Bool) : ∀ n, fr_cn p n ≤ n := by
  intro n
  induction n with
  | zero => exact Nat.le_refl 0
  | succ n ih =>
    show fr_cn p n + (if p n = true then 1 else 0) ≤ n + 1
    split <;> omega
theorem fr_cn_m {p q : Nat → Bool} (h : ∀ i, p i = true → q i = true) : ∀ n, fr_cn p n ≤ fr_cn q n := by
  intro n
  induction n with
  | zero => exact Nat.le_refl 0
  | succ n ih =>
    show fr_cn p n + (if p n = true then 1 else 0) ≤ fr_cn q n + (if q n = true then 1 else 0)
    by_cases z : p n = true
    · rw [if_pos z, if_pos (h n z)]; omega
    · rw [if_neg z]; omega
theorem fr_cn_lt {p q : Nat → Bool} (h : ∀ i, p i = true → q i = true) {j : Nat} (hq : q j = true) (hp : ¬ p j = true) : ∀ n, j < n → fr_cn p n < fr_cn q n := by
  intro n
  induction n with
  | zero => intro z; exact absurd z (Nat.not_lt_zero j)
  | succ n ih =>
    intro z
    show fr_cn p n + (if p n = true then 1 else 0) < fr_cn q n + (if q n = true then 1 else 0)
    by_cases e : j = n
    · subst e
      rw [if_neg hp, if_pos hq]
      have := fr_cn_m h j
      omega
    · have := ih (by omega)
      by_cases z : p n = true
      · rw [if_pos z, if_pos (h n z)]; omega
      · rw [if_neg z]; omega
/-- iteration -/
def fr_it {α : Type} (F : α → α) : Nat → α → α
  | 0, x => x
  | n + 1, x => fr_it F n (F x)
theorem fr_it_ind {α : Type} {F : α → α} (P : α → Prop) (h : ∀ x, P x → P (F x)) : ∀ n x, P x → P (fr_it F n x) := by
  intro n
  induction n with
  | zero => exact fun x p => p
  | succ n ih => exact fun x p => ih (F x) (h x p)
theorem fr_it_c {α : Type} {F : α → α} {x : α} (h : F x = x) : ∀ n, fr_it F n x = x := by
  intro n
  induction n with
  | zero => rfl
  | succ n ih =>
    show fr_it F n (F x) = x
    rw [h, ih]
theorem fr_fix {α : Type} {F : α → α} (P : α → Prop) (μ : α → Nat) (hP : ∀ x, P x → P (F x)) (hm : ∀ x, P x → F x ≠ x → μ (F x) < μ x) : ∀ n x, P x → μ x ≤ n → F (fr_it F n x) = fr_it F n x := by
  intro n
  induction n with
  | zero =>
    intro x hx h
    show F x = x
    refine Classical.byContradiction fun z => ?_
    have := hm x hx z
    omega
  | succ n ih =>
    intro x hx h
    show F (fr_it F n (F x)) = fr_it F n (F x)
    by_cases e : F x = x
    · rw [e, fr_it_c e n, e]
    · have := hm x hx e
      exact ih (F x) (hP x hx) (by omega)
/-- a bit that two words differ in -/
theorem fr_ne {x y : Int32} (h : x ≠ y) (s : fr_sub x y) : ∃ i, bt y i = true ∧ ¬ bt x i = true := by
  refine Classical.byContradiction fun n => h (fr_anti s fun i p => ?_)
  refine Classical.byContradiction fun q => n ⟨i, p, q⟩
/-- until -/
def fr_un (a : Nat → Int32) (f g : Int32) : Int32 := fr_it (fun r => r ||| (f &&& fr_bf a r)) 8 g
theorem fr_un_ge (a : Nat → Int32) (f g : Int32) : fr_sub g (fr_un a f g) :=
  fr_it_ind (fun r => fr_sub g r) (fun r h => fr_tr h (fr_jl _ _)) 8 g (fr_refl g)
theorem fr_un_le {a : Nat → Int32} {f g W : Int32} (hg : fr_sub g W) (hc : fr_sub (f &&& fr_bf a W) W) : fr_sub (fr_un a f g) W :=
  fr_it_ind (fun r => fr_sub r W) (fun _ h => fr_j h (fr_tr (fr_am (fr_refl f) (fr_bf_m h)) hc)) 8 g hg
theorem fr_un_cl (a : Nat → Int32) (f g : Int32) : fr_sub (f &&& fr_bf a (fr_un a f g)) (fr_un a f g) := by
  have e := fr_fix (F := fun r => r ||| (f &&& fr_bf a r)) (fun _ => True) (fun r => fr_cn (fun i => !bt r i) 8) (fun _ _ => trivial) (fun r _ hne => ?_) 8 g trivial (fr_cn_le _ 8)
  · have e2 : fr_un a f g ||| (f &&& fr_bf a (fr_un a f g)) = fr_un a f g := e
    exact fr_tr (fr_jr _ _) (fr_eqs e2)
  · obtain ⟨i, p, q⟩ := fr_ne (x := r) (fun z => hne z.symm) (fr_jl r (f &&& fr_bf a r))
    have hi : i < 8 := by
      rcases fr_or.mp p with p | p
      · exact absurd p q
      · exact (fr_bf_iff.mp (fr_and.mp p).2).1
    refine fr_cn_lt (j := i) (fun j h => ?_) ?_ ?_ 8 hi
    · have h' : (!bt (r ||| (f &&& fr_bf a r)) j) = true := h
      rw [b_or] at h'
      show (!bt r j) = true
      cases hb : bt r j
      · rfl
      · rw [hb] at h'
        exact h'
    · show (!bt r i) = true
      cases hb : bt r i
      · rfl
      · exact absurd hb q
    · show ¬ (!bt (r ||| (f &&& fr_bf a r)) i) = true
      rw [p]
      decide
theorem fr_un_m {a : Nat → Int32} {f g f' g' : Int32} (hf : fr_sub f f') (hg : fr_sub g g') : fr_sub (fr_un a f g) (fr_un a f' g') :=
  fr_un_le (fr_tr hg (fr_un_ge a f' g')) (fr_tr (fr_am hf (fr_refl _)) (fr_un_cl a f' g'))
/-- the demands' part of a round: r of them left, the next one j; o k is what until may pass -/
def fr_dm (a d : Nat → Int32) (o : Int32 → Int32) : Nat → Nat → Int32 → Int32
  | 0, _, k => k
  | r + 1, j, k => fr_dm a d o r (j + 1) (k &&& fr_bf a (fr_un a (o k) (k &&& d j)))
def fr_rd (a d : Nat → Int32) (c : Nat) (o : Int32 → Int32) (k : Int32) : Int32 := fr_dm a d o c 0 (k &&& fr_bf a k)
theorem fr_dm_s (a d : Nat → Int32) (o : Int32 → Int32) : ∀ r j k, fr_sub (fr_dm a d o r j k) k := by
  intro r
  induction r with
  | zero => exact fun _ k => fr_refl k
  | succ r ih => exact fun j k => fr_tr (ih (j + 1) _) (fr_l _ _)
theorem fr_rd_s (a d : Nat → Int32) (c : Nat) (o : Int32 → Int32) (k : Int32) : fr_sub (fr_rd a d c o k) k := fr_tr (fr_dm_s a d o c 0 _) (fr_l _ _)
theorem fr_dm_f (a d : Nat → Int32) (o : Int32 → Int32) (K : Int32) : ∀ r j, fr_dm a d o r j K = K → ∀ i, j ≤ i → i < j + r → fr_sub K (fr_bf a (fr_un a (o K) (K &&& d i))) := by
  intro r
  induction r with
  | zero => intro j _ i h1 h2; omega
  | succ r ih =>
    intro j h i h1 h2
    have h' : fr_dm a d o r (j + 1) (K &&& fr_bf a (fr_un a (o K) (K &&& d j))) = K := h
    have s1 : fr_sub K (K &&& fr_bf a (fr_un a (o K) (K &&& d j))) := fr_tr (fr_eqs h'.symm) (fr_dm_s a d o r (j + 1) _)
    have e : K &&& fr_bf a (fr_un a (o K) (K &&& d j)) = K := fr_anti (fr_l _ _) s1
    by_cases z : i = j
    · subst z
      exact fr_tr s1 (fr_r _ _)
    · rw [e] at h'
      exact ih (j + 1) h' i (by omega) (by omega)
theorem fr_rd_f {a d : Nat → Int32} {c : Nat} {o : Int32 → Int32} {K : Int32} (h : fr_rd a d c o K = K) : fr_sub K (fr_bf a K) ∧ ∀ i, i < c → fr_sub K (fr_bf a (fr_un a (o K) (K &&& d i))) := by
  have h' : fr_dm a d o c 0 (K &&& fr_bf a K) = K := h
  have s1 : fr_sub K (K &&& fr_bf a K) := fr_tr (fr_eqs h'.symm) (fr_dm_s a d o c 0 _)
  have e : K &&& fr_bf a K = K := fr_anti (fr_l _ _) s1
  rw [e] at h'
  exact ⟨fr_tr s1 (fr_r _ _), fun i hi => fr_dm_f a d o K c 0 h' i (by omega) (by omega)⟩
theorem fr_dm_g {a d : Nat → Int32} {o : Int32 → Int32} (ho : ∀ x y, fr_sub x y → fr_sub (o x) (o y)) {W : Int32} : ∀ r j k, fr_sub W k → (∀ i, j ≤ i → i < j + r → fr_sub W (fr_bf a (fr_un a (o W) (W &&& d i)))) → fr_sub W (fr_dm a d o r j k) := by
  intro r
  induction r with
  | zero => exact fun _ _ h _ => h
  | succ r ih =>
    intro j k h g
    refine ih (j + 1) _ (fr_i h (fr_tr (g j (by omega) (by omega)) (fr_bf_m (fr_un_m (ho W k h) (fr_am h (fr_refl _)))))) fun i h1 h2 => g i (by omega) (by omega)
theorem fr_rd_g {a d : Nat → Int32} {c : Nat} {o : Int32 → Int32} (ho : ∀ x y, fr_sub x y → fr_sub (o x) (o y)) {W k : Int32} (h : fr_sub W k) (h1 : fr_sub W (fr_bf a W)) (h2 : ∀ i, i < c → fr_sub W (fr_bf a (fr_un a (o W) (W &&& d i)))) : fr_sub W (fr_rd a d c o k) :=
  fr_dm_g ho c 0 _ (fr_i h (fr_tr h1 (fr_bf_m h))) fun i _ hi => h2 i (by omega)
/-- someAlways, as the class walks it -/
def fr_sa (a d : Nat → Int32) (c : Nat) (f : Int32) : Int32 := fr_it (fr_rd a d c (fun _ => f)) 8 f
theorem fr_sa_s (a d : Nat → Int32) (c : Nat) (f : Int32) : fr_sub (fr_sa a d c f) f :=
  fr_it_ind (fun k => fr_sub k f) (fun k h => fr_tr (fr_rd_s a d c _ k) h) 8 f (fr_refl f)
theorem fr_sa_f {a d : Nat → Int32} {c : Nat} {f : Int32} (h : fr_sub f 255) : fr_rd a d c (fun _ => f) (fr_sa a d c f) = fr_sa a d c f := by
  refine fr_fix (fun k => fr_sub k 255) (fun k => fr_cn (bt k) 8) (fun k p => fr_tr (fr_rd_s a d c _ k) p) (fun k p hne => ?_) 8 f h (fr_cn_le _ 8)
  obtain ⟨i, q, r⟩ := fr_ne hne (fr_rd_s a d c (fun _ => f) k)
  exact fr_cn_lt (fr_rd_s a d c (fun _ => f) k) q r 8 (fr_255.mp p i q)
theorem fr_sa_g {a d : Nat → Int32} {c : Nat} {f W : Int32} (h : fr_sub W f) (h1 : fr_sub W (fr_bf a W)) (h2 : ∀ i, i < c → fr_sub W (fr_bf a (fr_un a f (W &&& d i)))) : fr_sub W (fr_sa a d c f) :=
  fr_it_ind (fun k => fr_sub W k) (fun _ p => fr_rd_g (o := fun _ => f) (fun _ _ _ => fr_refl f) p h1 h2) 8 f h
/-- what the class finds can be met without leaving it -/
theorem fr_sa_k {a d : Nat → Int32} {c : Nat} {f : Int32} (h : fr_sub f 255) : fr_sub (fr_sa a d c f) (fr_bf a (fr_sa a d c f)) ∧ ∀ i, i < c → fr_sub (fr_sa a d c f) (fr_bf a (fr_un a (fr_sa a d c f) (fr_sa a d c f &&& d i))) := by
  obtain ⟨k1, k2⟩ := fr_rd_f (fr_sa_f (a := a) (d := d) (c := c) h)
  have kf := fr_sa_s a d c f
  have kg : ∀ W, fr_sub W f → fr_sub W (fr_bf a W) → (∀ i, i < c → fr_sub W (fr_bf a (fr_un a f (W &&& d i)))) → fr_sub W (fr_sa a d c f) := fun W => fr_sa_g
  generalize fr_sa a d c f = K at k1 k2 kf kg
  refine ⟨k1, fun i hi => ?_⟩
  have uf : fr_sub (fr_un a f K) f := fr_un_le kf (fr_l _ _)
  have ku : fr_sub K (fr_un a f K) := fr_un_ge a f K
  have uc := fr_un_cl a f K
  have u1 : fr_sub (fr_un a f K) (fr_bf a (fr_un a f K)) := by
    refine fr_tr (fr_un_le (W := fr_un a f K &&& fr_bf a (fr_un a f K)) (fr_i ku (fr_tr k1 (fr_bf_m ku))) (fr_i ?_ ?_)) (fr_r _ _)
    · exact fr_tr (fr_am (fr_refl f) (fr_bf_m (fr_l _ _))) uc
    · exact fr_tr (fr_r _ _) (fr_bf_m (fr_l _ _))
  have u2 : ∀ j, j < c → fr_sub (fr_un a f K) (fr_bf a (fr_un a f (fr_un a f K &&& d j))) := by
    intro j hj
    have vc := fr_un_cl a f (K &&& d j)
    have s1 : fr_sub (fr_un a f K) (f &&& fr_bf a (fr_un a f (K &&& d j))) := by
      refine fr_un_le (fr_i kf (k2 j hj)) (fr_i (fr_l _ _) ?_)
      exact fr_tr (fr_r _ _) (fr_bf_m vc)
    exact fr_tr s1 (fr_tr (fr_r _ _) (fr_bf_m (fr_un_m (fr_refl f) (fr_am ku (fr_refl _)))))
  have uk := kg _ uf u1 u2
  have kc : fr_sub (f &&& fr_bf a K) K := fr_tr (fr_am (fr_refl f) (fr_bf_m ku)) (fr_tr uc uk)
  have vk : fr_sub (fr_un a K (K &&& d i)) K := fr_un_le (fr_l _ _) (fr_l _ _)
  refine fr_tr (k2 i hi) (fr_bf_m (fr_un_le (fr_un_ge _ _ _) ?_))
  refine fr_tr (fr_i (fr_tr (fr_am (fr_refl f) (fr_bf_m vk)) kc) (fr_r _ _)) (fr_un_cl a K (K &&& d i))
/-- a round of the reference keeps it -/
theorem fr_sa_y {a d : Nat → Int32} {c : Nat} {f k : Int32} (h : fr_sub f 255) (hk : fr_sub (fr_sa a d c f) k) : fr_sub (fr_sa a d c f) (fr_rd a d c (fun x => x) k) := by
  obtain ⟨k1, k2⟩ := fr_sa_k (a := a) (d := d) (c := c) h
  exact fr_rd_g (o := fun x => x) (fun _ _ p => p) hk k1 k2
/-- and where the reference rests it is it -/
theorem fr_sa_e {a d : Nat → Int32} {c : Nat} {f k : Int32} (hk : fr_sub (fr_sa a d c f) k) (kf : fr_sub k f) (e : fr_rd a d c (fun x => x) k = k) : k = fr_sa a d c f := by
  obtain ⟨k1, k2⟩ := fr_rd_f e
  exact fr_anti (fr_sa_g kf k1 fun i hi => fr_tr (k2 i hi) (fr_bf_m (fr_un_m kf (fr_refl _)))) hk
/-- after -/
def fr_afN (a : Nat → Int32) (S : Int32) : Nat → Int32
  | 0 => 0
  | s + 1 => if S &&& ((1 : Int32) <<< (nI s &&& 31)) = 0 then fr_afN a S s else fr_afN a S s ||| a s
def fr_af (a : Nat → Int32) (S : Int32) : Int32 := fr_afN a S 8
def fr_cl (a : Nat → Int32) (S : Int32) : Int32 := fr_it (fun r => r ||| fr_af a r) 8 S
theorem fr_afN_1 (a : Nat → Int32) {s : Nat} (hs : s < 8) : ∀ n, n ≤ 8 → fr_afN a ((1 : Int32) <<< (nI s &&& 31)) n = if s < n then a s else 0 := by
  intro n
  induction n with
  | zero => intro _; rw [if_neg (Nat.not_lt_zero s)]; rfl
  | succ n ih =>
    intro hn
    show (if _ then _ else _) = _
    rw [ih (by omega)]
    by_cases e : n = s
    · subst e
      have z : ¬ ((1 : Int32) <<< (nI n &&& 31)) &&& ((1 : Int32) <<< (nI n &&& 31)) = 0 := fun z => by
        have := (fr_bit hs).mp z
        rw [(fr_1 hs n).mpr rfl] at this
        exact Bool.noConfusion this
      rw [if_neg z, if_neg (Nat.lt_irrefl n), if_pos (Nat.lt_succ_self n)]
      refine b_ext fun i _ => ?_
      rw [b_or, b_0, Bool.false_or]
    · have z : ((1 : Int32) <<< (nI s &&& 31)) &&& ((1 : Int32) <<< (nI n &&& 31)) = 0 := by
        refine (fr_bit (by omega)).mpr ?_
        cases hb : bt ((1 : Int32) <<< (nI s &&& 31)) n
        · rfl
        · exact absurd ((fr_1 hs n).mp hb) e
      rw [if_pos z]
      by_cases l : s < n
      · rw [if_pos l, if_pos (by omega)]
      · rw [if_neg l, if_neg (by omega)]
theorem fr_af_1 (a : Nat → Int32) {s : Nat} (hs : s < 8) : fr_af a ((1 : Int32) <<< (nI s &&& 31)) = a s := by
  rw [fr_af, fr_afN_1 a hs 8 (by omega), if_pos hs]
