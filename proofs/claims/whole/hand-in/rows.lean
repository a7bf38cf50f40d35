section
/-! counting below a bound -/
noncomputable def cn_c (p : Nat → Prop) : Nat → Nat
  | 0 => 0
  | n + 1 => cn_c p n + @ite Nat (p n) (Classical.propDecidable (p n)) 1 0
theorem cn_t {p : Nat → Prop} {n : Nat} (h : p n) : cn_c p (n + 1) = cn_c p n + 1 := by
  show cn_c p n + _ = _
  rw [if_pos h]
theorem cn_f {p : Nat → Prop} {n : Nat} (h : ¬ p n) : cn_c p (n + 1) = cn_c p n := by
  show cn_c p n + _ = _
  rw [if_neg h, Nat.add_zero]
theorem cn_le (p : Nat → Prop) (n : Nat) : cn_c p n ≤ n := by
  induction n with
  | zero => exact Nat.le_refl 0
  | succ n ih =>
    by_cases h : p n
    · rw [cn_t h]; omega
    · rw [cn_f h]; omega
theorem cn_cong {p q : Nat → Prop} {n : Nat} (h : ∀ v, v < n → (p v ↔ q v)) : cn_c p n = cn_c q n := by
  induction n with
  | zero => rfl
  | succ n ih =>
    have e := ih (fun v hv => h v (by omega))
    by_cases z : p n
    · rw [cn_t z, cn_t ((h n (by omega)).mp z), e]
    · rw [cn_f z, cn_f (fun y => z ((h n (by omega)).mpr y)), e]
theorem cn_mono {p q : Nat → Prop} {n : Nat} (h : ∀ v, v < n → p v → q v) : cn_c p n ≤ cn_c q n := by
  induction n with
  | zero => exact Nat.le_refl _
  | succ n ih =>
    have e := ih (fun v hv => h v (by omega))
    by_cases z : p n
    · rw [cn_t z, cn_t (h n (by omega) z)]; omega
    · rw [cn_f z]
      by_cases y : q n
      · rw [cn_t y]; omega
      · rw [cn_f y]; exact e
theorem cn_lt {p q : Nat → Prop} {n w : Nat} (h : ∀ v, v < n → p v → q v) (hw : w < n) (hp : ¬ p w) (hq : q w) : cn_c p n < cn_c q n := by
  induction n with
  | zero => omega
  | succ n ih =>
    by_cases e : w = n
    · subst e
      have m := cn_mono (p := p) (q := q) (n := w) (fun v hv => h v (by omega))
      rw [cn_f hp, cn_t hq]; omega
    · have m := ih (fun v hv => h v (by omega)) (by omega)
      by_cases z : p n
      · rw [cn_t z, cn_t (h n (by omega) z)]; omega
      · rw [cn_f z]
        by_cases y : q n
        · rw [cn_t y]; omega
        · rw [cn_f y]; exact m
theorem cn_none {p : Nat → Prop} {n : Nat} (h : ∀ v, v < n → ¬ p v) : cn_c p n = 0 := by
  induction n with
  | zero => rfl
  | succ n ih => rw [cn_f (h n (by omega))]; exact ih (fun v hv => h v (by omega))
theorem cn_add (p : Nat → Prop) (a b : Nat) : cn_c p (a + b) = cn_c p a + cn_c (fun v => p (a + v)) b := by
  induction b with
  | zero => rfl
  | succ b ih =>
    by_cases z : p (a + b)
    · rw [cn_t (p := fun v => p (a + v)) z, show a + (b + 1) = (a + b) + 1 from rfl, cn_t z, ih]; omega
    · rw [cn_f (p := fun v => p (a + v)) z, show a + (b + 1) = (a + b) + 1 from rfl, cn_f z, ih]
theorem cn_cut {p : Nat → Prop} {n m : Nat} (hm : n ≤ m) (h : ∀ v, p v → v < n) : cn_c p m = cn_c p n := by
  obtain ⟨d, rfl⟩ : ∃ d, m = n + d := ⟨m - n, by omega⟩
  have z : cn_c (fun v => p (n + v)) d = 0 := cn_none (fun v _ y => by have := h _ y; omega)
  rw [cn_add, z, Nat.add_zero]
/-- the sum of f below a bound -/
def cn_s (f : Nat → Nat) : Nat → Nat
  | 0 => 0
  | n + 1 => cn_s f n + f n
theorem cn_s_cong {f g : Nat → Nat} {n : Nat} (h : ∀ v, v < n → f v = g v) : cn_s f n = cn_s g n := by
  induction n with
  | zero => rfl
  | succ n ih =>
    show cn_s f n + f n = cn_s g n + g n
    rw [ih (fun v hv => h v (by omega)), h n (by omega)]
theorem cn_s_cut {f : Nat → Nat} {n m : Nat} (hm : n ≤ m) (h : ∀ v, n ≤ v → f v = 0) : cn_s f m = cn_s f n := by
  obtain ⟨d, rfl⟩ : ∃ d, m = n + d := ⟨m - n, by omega⟩
  clear hm
  induction d with
  | zero => rfl
  | succ d ih =>
    show cn_s f (n + d) + f (n + d) = _
    rw [ih, h (n + d) (by omega), Nat.add_zero]
theorem cn_rows (q : Nat → Nat → Prop) (m : Nat) : cn_c (fun x => q (x / 16) (x % 16)) (16 * m) = cn_s (fun u => cn_c (q u) 16) m := by
  induction m with
  | zero => rfl
  | succ m ih =>
    rw [show 16 * (m + 1) = 16 * m + 16 from by omega, cn_add, ih]
    show _ = cn_s (fun u => cn_c (q u) 16) m + cn_c (q m) 16
    congr 1
    apply cn_cong
    intro v hv
    show q ((16 * m + v) / 16) ((16 * m + v) % 16) ↔ q m v
    rw [show (16 * m + v) / 16 = m from by omega, show (16 * m + v) % 16 = v from by omega]
/-! walks -/
/-- a walk of k edges from u to v -/
def gr_W (E : Nat → Nat → Prop) (u : Nat) : Nat → Nat → Prop
  | 0, v => v = u
  | k + 1, v => ∃ w, gr_W E u k w ∧ E w v
def gr_R (E : Nat → Nat → Prop) (u v : Nat) : Prop := ∃ k, gr_W E u k v
def gr_T (E : Nat → Nat → Prop) (u v : Nat) : Prop := gr_R E u v ∧ gr_R E v u
def gr_In (E : Nat → Nat → Prop) (n : Nat) : Prop := ∀ a b, E a b → a < n ∧ b < n
section
variable {E : Nat → Nat → Prop} {n : Nat}
theorem gr_refl (E : Nat → Nat → Prop) (u : Nat) : gr_R E u u := ⟨0, rfl⟩
theorem gr_step {u w v : Nat} (h : gr_R E u w) (e : E w v) : gr_R E u v := by
  obtain ⟨k, hk⟩ := h
  exact ⟨k + 1, w, hk, e⟩
theorem gr_edge {u v : Nat} (e : E u v) : gr_R E u v := gr_step (gr_refl E u) e
theorem gr_trans {u v w : Nat} (h : gr_R E u v) (g : gr_R E v w) : gr_R E u w := by
  obtain ⟨k, hk⟩ := g
  induction k generalizing w with
  | zero =>
    have e : w = v := hk
    subst e
    exact h
  | succ k ih =>
    obtain ⟨x, hx, e⟩ := hk
    exact gr_step (ih hx) e
theorem gr_Tr (E : Nat → Nat → Prop) (u : Nat) : gr_T E u u := ⟨gr_refl E u, gr_refl E u⟩
theorem gr_Ts {u v : Nat} (h : gr_T E u v) : gr_T E v u := ⟨h.2, h.1⟩
theorem gr_Tt {u v w : Nat} (h : gr_T E u v) (g : gr_T E v w) : gr_T E u w := ⟨gr_trans h.1 g.1, gr_trans g.2 h.2⟩
theorem gr_Win (hE : gr_In E n) {u : Nat} (hu : u < n) : ∀ k v, gr_W E u k v → v < n
  | 0, v, h => by
    have e : v = u := h
    omega
  | _ + 1, _, h => by
    obtain ⟨w, _, e⟩ := h
    exact (hE _ _ e).2
theorem gr_Rin (hE : gr_In E n) {u v : Nat} (hu : u < n) (h : gr_R E u v) : v < n := by
  obtain ⟨k, hk⟩ := h
  exact gr_Win hE hu k v hk
/-- a set that holds u and is closed under edges holds what u reaches -/
theorem gr_least {u : Nat} {P : Nat → Prop} (h0 : P u) (hs : ∀ a b, P a → E a b → P b) {v : Nat} (h : gr_R E u v) : P v := by
  obtain ⟨k, hk⟩ := h
  induction k generalizing v with
  | zero =>
    have e : v = u := hk
    rw [e]; exact h0
  | succ k ih =>
    obtain ⟨x, hx, e⟩ := hk
    exact hs x v (ih hx) e
/-- reached by a walk of at most k edges -/
def gr_B (E : Nat → Nat → Prop) (u k v : Nat) : Prop := ∃ j, j ≤ k ∧ gr_W E u j v
theorem gr_B0 {k u : Nat} : gr_B E u k u := ⟨0, by omega, rfl⟩
theorem gr_Bm {k u v : Nat} (h : gr_B E u k v) : gr_B E u (k + 1) v := by
  obtain ⟨j, hj, w⟩ := h
  exact ⟨j, by omega, w⟩
theorem gr_Bs {k u w v : Nat} (h : gr_B E u k w) (e : E w v) : gr_B E u (k + 1) v := by
  obtain ⟨j, hj, x⟩ := h
  exact ⟨j + 1, by omega, w, x, e⟩
theorem gr_BR {k u v : Nat} (h : gr_B E u k v) : gr_R E u v := by
  obtain ⟨j, _, w⟩ := h
  exact ⟨j, w⟩
theorem gr_Bc {k u v : Nat} (h : gr_B E u (k + 1) v) : gr_B E u k v ∨ ∃ w, gr_B E u k w ∧ E w v := by
  obtain ⟨j, hj, x⟩ := h
  cases j with
  | zero => exact .inl ⟨0, by omega, x⟩
  | succ j =>
    obtain ⟨w, hw, e⟩ := x
    exact .inr ⟨w, ⟨j, by omega, hw⟩, e⟩
theorem gr_grow (hE : gr_In E n) {u : Nat} (hu : u < n) (k : Nat) : (∀ v, gr_R E u v → gr_B E u k v) ∨ k + 1 ≤ cn_c (gr_B E u k) n := by
  induction k with
  | zero =>
    right
    have h := cn_lt (p := fun _ => False) (q := gr_B E u 0) (n := n) (w := u) (fun _ _ z => z.elim) hu (fun z => z) gr_B0
    omega
  | succ k ih =>
    rcases ih with ih | ih
    · exact .inl (fun v hv => gr_Bm (ih v hv))
    · by_cases c : ∃ v, v < n ∧ gr_B E u (k + 1) v ∧ ¬ gr_B E u k v
      · obtain ⟨v, hv, h1, h2⟩ := c
        have h := cn_lt (p := gr_B E u k) (q := gr_B E u (k + 1)) (n := n) (w := v) (fun _ _ z => gr_Bm z) hv h2 h1
        right; omega
      · left
        intro v hv
        apply gr_Bm
        refine gr_least (P := gr_B E u k) gr_B0 (fun a b ha e => ?_) hv
        by_cases z : gr_B E u k b
        · exact z
        · exact absurd ⟨b, (hE a b e).2, gr_Bs ha e, z⟩ c
theorem gr_near (hE : gr_In E n) {u v : Nat} (hu : u < n) (h : gr_R E u v) : gr_B E u n v := by
  rcases gr_grow hE hu n with g | g
  · exact g v h
  · have := cn_le (gr_B E u n) n
    omega
/-! chains of components -/
/-- there is a chain of h steps to v, each from a vertex that is not reached back -/
def gr_C (E : Nat → Nat → Prop) (n : Nat) : Nat → Nat → Prop
  | 0, v => v < n
  | h + 1, v => ∃ u, u < n ∧ gr_C E n h u ∧ gr_R E u v ∧ ¬ gr_R E v u
theorem gr_Cin (hE : gr_In E n) : ∀ h v, gr_C E n h v → v < n
  | 0, _, h => h
  | _ + 1, _, h => by
    obtain ⟨u, hu, _, r, _⟩ := h
    exact gr_Rin hE hu r
theorem gr_Cdown (hE : gr_In E n) : ∀ h v, gr_C E n (h + 1) v → gr_C E n h v
  | 0, v, c => gr_Cin hE 1 v c
  | h + 1, v, c => by
    obtain ⟨u, hu, a, r, z⟩ := c
    exact ⟨u, hu, gr_Cdown hE h u a, r, z⟩
theorem gr_Cle (hE : gr_In E n) {j h v : Nat} (hj : j ≤ h) (c : gr_C E n h v) : gr_C E n j v := by
  obtain ⟨d, rfl⟩ : ∃ d, h = j + d := ⟨h - j, by omega⟩
  clear hj
  induction d with
  | zero => exact c
  | succ d ih => exact ih (gr_Cdown hE _ _ c)
theorem gr_Cup (hE : gr_In E n) {h u v : Nat} (c : gr_C E n h u) (r : gr_R E u v) : gr_C E n h v := by
  have hu := gr_Cin hE h u c
  cases h with
  | zero => exact gr_Rin hE hu r
  | succ h =>
    obtain ⟨x, hx, a, s, z⟩ := c
    exact ⟨x, hx, a, gr_trans s r, fun y => z (gr_trans r y)⟩
theorem gr_Ccn : ∀ h v, gr_C E n h v → h ≤ cn_c (fun x => gr_R E x v ∧ ¬ gr_R E v x) n
  | 0, _, _ => Nat.zero_le _
  | h + 1, v, c => by
    obtain ⟨u, hu, a, r, z⟩ := c
    have i := gr_Ccn h u a
    have l := cn_lt (p := fun x => gr_R E x u ∧ ¬ gr_R E u x) (q := fun x => gr_R E x v ∧ ¬ gr_R E v x) (n := n) (w := u)
      (fun x _ y => ⟨gr_trans y.1 r, fun t => y.2 (gr_trans r t)⟩) hu (fun y => y.2 (gr_refl E u)) ⟨r, z⟩
    omega
theorem gr_Cn (hE : gr_In E n) {h v : Nat} (c : gr_C E n h v) : h < n := by
  have hv := gr_Cin hE h v c
  have a := gr_Ccn h v c
  have l := cn_lt (p := fun x => gr_R E x v ∧ ¬ gr_R E v x) (q := fun _ => True) (n := n) (w := v) (fun _ _ _ => trivial) hv (fun y => y.2 (gr_refl E v)) trivial
  have m := cn_le (fun _ => True) n
  omega
theorem gr_Clast (hE : gr_In E n) {j v : Nat} (c : gr_C E n (j + 1) v) : ∃ w x, gr_C E n j w ∧ E w x ∧ ¬ gr_R E x w ∧ gr_T E x v := by
  obtain ⟨u, hu, a, ⟨k, hk⟩, z⟩ := c
  induction k generalizing v with
  | zero =>
    have e : v = u := hk
    rw [e] at z
    exact absurd (gr_refl E u) z
  | succ k ih =>
    obtain ⟨y, hy, e⟩ := hk
    by_cases r : gr_R E v y
    · obtain ⟨w, x, h1, h2, h3, h4⟩ := ih (fun t => z (gr_trans r t)) hy
      exact ⟨w, x, h1, h2, h3, gr_Tt h4 ⟨gr_edge e, r⟩⟩
    · exact ⟨y, v, gr_Cup hE a ⟨k, hy⟩, e, r, gr_Tr E v⟩
/-- one pass of Warshall's way point w -/
def gr_V (r : Nat → Nat → Prop) (w : Nat) (u v : Nat) : Prop := r u v ∨ (r u w ∧ r w v)
/-- r lies between the edges and reaching, and is closed over the way points below w -/
def gr_P (E : Nat → Nat → Prop) (n w : Nat) (r : Nat → Nat → Prop) : Prop :=
  (∀ u v, u < n → r u v → gr_R E u v) ∧ (∀ u, u < n → r u u) ∧ (∀ u v, E u v → r u v) ∧
  ∀ x u v, x < w → u < n → r u x → r x v → r u v
theorem gr_P0 : gr_P E n 0 (fun u v => E u v ∨ v = u) :=
  ⟨fun u v _ h => h.elim gr_edge (fun e => e ▸ gr_refl E u), fun _ _ => .inr rfl, fun _ _ e => .inl e, fun _ _ _ h => absurd h (Nat.not_lt_zero _)⟩
theorem gr_Ps {w : Nat} (hw : w < n) {r : Nat → Nat → Prop} (h : gr_P E n w r) : gr_P E n (w + 1) (gr_V r w) := by
  obtain ⟨h1, h2, h3, h4⟩ := h
  refine ⟨?_, fun u hu => .inl (h2 u hu), fun u v e => .inl (h3 u v e), ?_⟩
  · intro u v hu c
    rcases c with c | ⟨c, d⟩
    · exact h1 u v hu c
    · exact gr_trans (h1 u w hu c) (h1 w v hw d)
  · intro x u v hx hu a b
    by_cases e : x = w
    · subst e
      have a' : r u x := by
        rcases a with a | ⟨a, _⟩
        · exact a
        · exact a
      have b' : r x v := by
        rcases b with b | ⟨_, b⟩
        · exact b
        · exact b
      exact .inr ⟨a', b'⟩
    · have hx' : x < w := by omega
      rcases a with a | ⟨a, a2⟩ <;> rcases b with b | ⟨b, b2⟩
      · exact .inl (h4 x u v hx' hu a b)
      · exact .inr ⟨h4 x u w hx' hu a b, b2⟩
      · exact .inr ⟨a, h4 x w v hx' hw a2 b⟩
      · exact .inr ⟨a, b2⟩
theorem gr_Pn (hE : gr_In E n) {r : Nat → Nat → Prop} (h : gr_P E n n r) {u : Nat} (hu : u < n) (v : Nat) : r u v ↔ gr_R E u v := by
  obtain ⟨h1, h2, h3, h4⟩ := h
  refine ⟨h1 u v hu, fun g => ?_⟩
  exact gr_least (P := fun v => r u v) (h2 u hu) (fun a b ha e => h4 a u b (hE a b e).1 hu ha (h3 a b e)) g
/-! the answers, each one value at most -/
def gr_lead (E : Nat → Nat → Prop) (u : Nat) (r : Int32) : Prop := ∃ l, l ≤ u ∧ r = nI l ∧ gr_T E u l ∧ ∀ v, v < l → ¬ gr_T E u v
theorem gr_lead_u {u : Nat} {r s : Int32} (h : gr_lead E u r) (g : gr_lead E u s) : r = s := by
  obtain ⟨a, _, rfl, a1, a2⟩ := h
  obtain ⟨b, _, rfl, b1, b2⟩ := g
  rcases Nat.lt_trichotomy a b with z | z | z
  · exact absurd a1 (b2 a z)
  · rw [z]
  · exact absurd b1 (a2 b z)
def gr_own (E : Nat → Nat → Prop) (u : Nat) : Prop := ∀ v, v < u → ¬ gr_T E u v
theorem gr_lead_own {u : Nat} (hu : u < 2 ^ 31) {r : Int32} (h : gr_lead E u r) : r = nI u ↔ gr_own E u := by
  obtain ⟨a, ha, rfl, a1, a2⟩ := h
  rw [nI_eq (a := a) (b := u) (by omega) hu]
  constructor
  · intro e
    subst e
    exact a2
  · intro o
    rcases Nat.lt_or_ge a u with z | z
    · exact absurd a1 (o a z)
    · omega
def gr_cyc (E : Nat → Nat → Prop) (n u : Nat) (r : Int32) : Prop :=
  (∃ l, 1 ≤ l ∧ l ≤ n ∧ r = nI l ∧ gr_W E u l u ∧ ∀ j, 1 ≤ j → j < l → ¬ gr_W E u j u) ∨ (r = -2 ∧ ∀ j, 1 ≤ j → j ≤ n → ¬ gr_W E u j u)
theorem gr_cyc_u {u : Nat} {r s : Int32} (h : gr_cyc E n u r) (g : gr_cyc E n u s) : r = s := by
  rcases h with ⟨a, a0, an, rfl, a1, a2⟩ | ⟨rfl, h⟩ <;> rcases g with ⟨b, b0, bn, rfl, b1, b2⟩ | ⟨rfl, g⟩
  · rcases Nat.lt_trichotomy a b with z | z | z
    · exact absurd a1 (b2 a a0 z)
    · rw [z]
    · exact absurd b1 (a2 b b0 z)
  · exact absurd a1 (g a a0 an)
  · exact absurd b1 (h b b0 bn)
  · rfl
def gr_hgt (E : Nat → Nat → Prop) (n u : Nat) (r : Int32) : Prop := ∃ h, r = nI h ∧ gr_C E n h u ∧ ∀ j, gr_C E n j u → j ≤ h
theorem gr_hgt_u {u : Nat} {r s : Int32} (h : gr_hgt E n u r) (g : gr_hgt E n u s) : r = s := by
  obtain ⟨a, rfl, a1, a2⟩ := h
  obtain ⟨b, rfl, b1, b2⟩ := g
  have := a2 b b1
  have := b2 a a1
  rw [show a = b by omega]
def gr_line (E : Nat → Nat → Prop) (n : Nat) : Prop := ∀ u v, u < n → v < n → gr_R E u v ∨ gr_R E v u
/-- an outer edge -/
def gr_O (E : Nat → Nat → Prop) (u v : Nat) : Prop := E u v ∧ ¬ gr_T E u v
theorem gr_out (hE : gr_In E n) (hn : n ≤ 16) : cn_c (fun x => gr_O E (x / 16) (x % 16)) 256 = cn_s (fun u => cn_c (gr_O E u) n) n := by
  have c : cn_s (fun u => cn_c (gr_O E u) 16) 16 = cn_s (fun u => cn_c (gr_O E u) 16) n :=
    cn_s_cut hn (fun v hv => cn_none (p := gr_O E v) (fun w _ z => by have := (hE v w z.1).1; omega))
  rw [show (256 : Nat) = 16 * 16 from rfl, cn_rows (gr_O E) 16, c]
  exact cn_s_cong (fun v _ => cn_cut hn (fun w z => (hE v w z.1).2))
end
end
section
/-! pure rows to paste: stores, nI and lN arithmetic, masks, shifts, narrowing, branches by naturals (pk_le, pk_lt, pk_eq), loops (lp1 .. lp16: the measure of the state; rp1 ..: recursion), negatives. Take what you need -/
theorem pk_us {f : Nat → Int32} {k : Nat} {x : Int32} : upd f k x k = x := if_pos rfl
theorem pk_un {f : Nat → Int32} {k j : Nat} {x : Int32} (h : j ≠ k) : upd f k x j = f j := if_neg h
theorem pk_sub {a b : Nat} (h : b ≤ a) : nI a - nI b = nI (a - b) := by
  obtain ⟨c, rfl⟩ : ∃ c, a = c + b := ⟨a - b, by omega⟩
  rw [← nI_add, Int32.add_sub_cancel, Nat.add_sub_cancel]
theorem pk_m1 (n : Nat) : nI (n + 1) + (-1) = nI n := by
  rw [← nI_1, Int32.add_assoc, show (1 : Int32) + (-1) = 0 from rfl, Int32.add_zero]
theorem pk_mul (a b : Nat) : nI a * nI b = nI (a * b) := (Int32.ofNat_mul a b).symm
theorem pk_div {a d : Nat} (ha : a < 2 ^ 31) (h0 : 0 < d) (hd : d < 2 ^ 31) : nI a / nI d = nI (a / d) := by
  apply Int32.toInt_inj.mp
  rw [lg_idiv_nonneg (by rw [nI_toInt ha]; omega) (by rw [nI_toInt hd]; omega), nI_toInt ha, nI_toInt hd, nI_toInt (Nat.lt_of_le_of_lt (Nat.div_le_self a d) ha)]
  first | rfl | exact (Int.natCast_ediv _ _).symm
theorem pk_rem {a d : Nat} (ha : a < 2 ^ 31) (h0 : 0 < d) (hd : d < 2 ^ 31) : nI a - nI a / nI d * nI d = nI (a % d) := by
  rw [pk_div ha h0 hd, pk_mul, pk_sub (Nat.div_mul_le_self a d)]
  exact congrArg nI (by have := Nat.div_add_mod' a d; omega)
theorem pk_sub_toInt {a b : Nat} (ha : a < 2 ^ 30) (hb : b < 2 ^ 30) : (nI a - nI b).toInt = (a : Int) - b := by
  rw [Int32.toInt_sub, nI_toInt (by omega), nI_toInt (by omega)]
  exact Int.bmod_eq_of_le (by omega) (by omega)
theorem pk_sneg {a b : Nat} (hb : b < 2 ^ 30) (h : a < b) : nI a - nI b < 0 := by
  rw [Int32.lt_iff_toInt_lt, pk_sub_toInt (by omega) hb, show (0 : Int32).toInt = 0 from by decide]
  omega
theorem pk_ix (x : Int32) {n : Nat} (hn : n < 2 ^ 31) : x < 0 ∨ nI n ≤ x ∨ ∃ j : Nat, j < n ∧ x = nI j := by
  by_cases h : x < 0
  · exact Or.inl h
  · obtain ⟨j, hj, rfl⟩ := nI_of h
    by_cases h2 : j < n
    · exact Or.inr (Or.inr ⟨j, h2, rfl⟩)
    · exact Or.inr (Or.inl (nI_le (by omega) hj))
theorem pk_le {x y : Int32} {A B : Prop} (a b : Nat) (f : a ≤ b → A) (g : b < a → B) (hx : x = nI a := by rfl) (hy : y = nI b := by rfl) (ha : a < 2 ^ 31 := by omega) (hb : b < 2 ^ 31 := by omega) : (x ≤ y → A) ∧ (¬ x ≤ y → B) := by
  subst hx hy
  rw [nI_leI ha hb]
  exact ⟨f, fun z => g (by omega)⟩
theorem pk_lt {x y : Int32} {A B : Prop} (a b : Nat) (f : a < b → A) (g : b ≤ a → B) (hx : x = nI a := by rfl) (hy : y = nI b := by rfl) (ha : a < 2 ^ 31 := by omega) (hb : b < 2 ^ 31 := by omega) : (x < y → A) ∧ (¬ x < y → B) := by
  subst hx hy
  rw [nI_ltI ha hb]
  exact ⟨f, fun z => g (by omega)⟩
theorem pk_eq {x y : Int32} {A B : Prop} (a b : Nat) (f : a = b → A) (g : a ≠ b → B) (hx : x = nI a := by rfl) (hy : y = nI b := by rfl) (ha : a < 2 ^ 31 := by omega) (hb : b < 2 ^ 31 := by omega) : (x = y → A) ∧ (¬ x = y → B) := by
  subst hx hy
  rw [nI_eq ha hb]
  exact ⟨f, g⟩
theorem pk_in {x : Int32} (n N : Nat) (h : n < N) (hx : x = nI n := by rfl) (hN : N < 2 ^ 31 := by omega) : vp_in x N := by
  subst hx
  exact vp_in_nI h hN
theorem pk_cl {x : Int32} (n : Nat) (hx : x = nI n := by rfl) (h : n < 2 ^ 31 := by omega) : x.toNatClampNeg = n := by
  subst hx
  exact nI_clamp h
theorem pk_tn {n : Nat} (h : n < 2 ^ 32) : (nI n).toBitVec.toNat = n := Nat.mod_eq_of_lt h
theorem pk_and (x : Int32) {m : Int32} (k : Nat) (hm : m.toBitVec.toNat = 2 ^ k - 1) : x &&& m = nI (x.toBitVec.toNat % 2 ^ k) := by
  apply Int32.toBitVec_inj.mp
  apply BitVec.eq_of_toNat_eq
  rw [Int32.toBitVec_and, BitVec.toNat_and, hm, Nat.and_two_pow_sub_one_eq_mod]
  show _ = (BitVec.ofNat 32 _).toNat
  rw [BitVec.toNat_ofNat]
  exact (Nat.mod_eq_of_lt (Nat.lt_of_le_of_lt (Nat.mod_le _ _) x.toBitVec.isLt)).symm
theorem pk_andN {n : Nat} (h : n < 2 ^ 32) {m : Int32} (k : Nat) (hm : m.toBitVec.toNat = 2 ^ k - 1) : nI n &&& m = nI (n % 2 ^ k) := by
  rw [pk_and _ k hm, pk_tn h]
theorem pk_andE (x : Int32) {m : Int32} (k : Nat) (hm : m.toBitVec.toNat = 2 ^ k - 1) : ∃ j : Nat, j < 2 ^ k ∧ x &&& m = nI j := ⟨_, Nat.mod_lt _ (Nat.two_pow_pos k), pk_and x k hm⟩
theorem pk_andIn (x : Int32) {m : Int32} (k : Nat) (hm : m.toBitVec.toNat = 2 ^ k - 1) (hk : k ≤ 30) : vp_in (x &&& m) (2 ^ k) := by
  obtain ⟨j, hj, e⟩ := pk_andE x k hm
  rw [e]
  exact vp_in_nI hj (Nat.lt_of_le_of_lt (Nat.pow_le_pow_right (by decide) hk) (by decide))
theorem pk_shl (a s : Int32) (k : Nat) (hs : (s.toBitVec.smod 32).toNat = k) : (a <<< s).toBitVec.toNat = a.toBitVec.toNat * 2 ^ k % 2 ^ 32 := by
  show (a.toBitVec <<< (s.toBitVec.smod 32).toNat).toNat = _
  rw [hs, BitVec.toNat_shiftLeft, Nat.shiftLeft_eq]
theorem pk_shlN {n : Nat} (s : Int32) (k : Nat) (hs : (s.toBitVec.smod 32).toNat = k) (h : n * 2 ^ k < 2 ^ 32) : nI n <<< s = nI (n * 2 ^ k) := by
  apply Int32.toBitVec_inj.mp
  apply BitVec.eq_of_toNat_eq
  have hn : n < 2 ^ 32 := Nat.lt_of_le_of_lt (Nat.le_mul_of_pos_right n (Nat.two_pow_pos k)) h
  rw [pk_shl _ _ k hs, pk_tn hn, pk_tn h, Nat.mod_eq_of_lt h]
theorem pk_shr (a s : Int32) (k : Nat) (hs : (s.toBitVec.smod 32).toNat = k) : (a >>> s).toInt = a.toInt >>> k := by
  show (a.toBitVec.sshiftRight (s.toBitVec.smod 32).toNat).toInt = _
  rw [hs, BitVec.toInt_sshiftRight]
  rfl
theorem pk_shrN {n : Nat} (h : n < 2 ^ 31) (s : Int32) (k : Nat) (hs : (s.toBitVec.smod 32).toNat = k) : nI n >>> s = nI (n / 2 ^ k) := by
  apply Int32.toInt_inj.mp
  have h2 : n / 2 ^ k ≤ n := Nat.div_le_self _ _
  rw [pk_shr _ _ k hs, nI_toInt h, nI_toInt (by omega), Int.shiftRight_eq_div_pow]
  rfl
theorem pk_loop {σ : Type} (W : Nat → Nat → σ → Prop) (I : Nat → σ → Prop) (e i0 : Nat) (s : σ) (hi : i0 ≤ e) (h0 : I i0 s) (hx : ∀ n s, I e s → W (n + 1) e s)
    (hs : ∀ n i s, i < e → I i s → (∀ s', I (i + 1) s' → W n (i + 1) s') → W (n + 1) i s) : ∃ n, W n i0 s :=
  ⟨e + 1, loop_i W I e hx hs (e + 1) i0 s hi (by omega) h0⟩
theorem ek_if {c d A B : Prop} (e : c ↔ d) (f : d → A) (g : ¬ d → B) : (c → A) ∧ (¬ c → B) :=
  ⟨fun z => f (e.mp z), fun z => g (fun y => z (e.mpr y))⟩
theorem ek_v {α : Sort _} {P : α → Prop} {a b : α} (e : a = b) (h : P b) : P a := e ▸ h
/-! ===== Int32 by its bits: bt x i ===== -/
def bt (x : Int32) (i : Nat) : Bool := x.toBitVec.getLsbD i
theorem b_ext {x y : Int32} (h : ∀ i, i < 32 → bt x i = bt y i) : x = y := Int32.toBitVec_inj.mp (BitVec.eq_of_getLsbD_eq (fun i hi => h i hi))
theorem b_or (x y : Int32) (i : Nat) : bt (x ||| y) i = (bt x i || bt y i) := by unfold bt; rw [Int32.toBitVec_or, BitVec.getLsbD_or]
theorem b_and (x y : Int32) (i : Nat) : bt (x &&& y) i = (bt x i && bt y i) := by unfold bt; rw [Int32.toBitVec_and, BitVec.getLsbD_and]
theorem b_xor (x y : Int32) (i : Nat) : bt (x ^^^ y) i = (bt x i ^^ bt y i) := by unfold bt; rw [Int32.toBitVec_xor, BitVec.getLsbD_xor]
theorem b_big {x : Int32} {i : Nat} (h : 32 ≤ i) : bt x i = false := BitVec.getLsbD_of_ge _ _ h
theorem b_255 (i : Nat) : bt 255 i = decide (i < 8) := by
  rcases Nat.lt_or_ge i 32 with h | h
  · exact (by decide +kernel : ∀ i, i < 32 → bt 255 i = decide (i < 8)) i h
  · rw [b_big h, decide_eq_false (by omega)]
theorem b_65535 (i : Nat) : bt 65535 i = decide (i < 16) := by
  rcases Nat.lt_or_ge i 32 with h | h
  · exact (by decide +kernel : ∀ i, i < 32 → bt 65535 i = decide (i < 16)) i h
  · rw [b_big h, decide_eq_false (by omega)]
theorem b_m1 : ∀ i, i < 32 → bt (-1) i = true := by decide +kernel
theorem b_0 (i : Nat) : bt 0 i = false := BitVec.getLsbD_zero
theorem s_l : ∀ n, n < 32 → ((nI n &&& 31).toBitVec.smod 32).toNat = n := by decide +kernel
theorem s_u : ∀ n, n < 32 → (((nI n).toUInt32 &&& Int32.toUInt32 31).toBitVec % 32).toNat = n := by decide +kernel
theorem b_shl (n : Nat) (hn : n < 32) (x : Int32) {i : Nat} (hi : i < 32) : bt (x <<< (nI n &&& 31)) i = (decide (n ≤ i) && bt x (i - n)) := by
  unfold bt
  rw [Int32.toBitVec_shiftLeft]
  show (x.toBitVec <<< ((nI n &&& 31).toBitVec.smod 32).toNat).getLsbD i = _
  rw [s_l n hn, BitVec.getLsbD_shiftLeft]
  rcases Nat.lt_or_ge i n with h | h
  · simp [h, Nat.not_le.mpr h]
  · simp [hi, h, Nat.not_lt.mpr h]
theorem b_ushr (n : Nat) (hn : n < 32) (x : Int32) (i : Nat) : bt ((x.toUInt32 >>> ((nI n).toUInt32 &&& Int32.toUInt32 31)).toInt32) i = bt x (n + i) := by
  show (x.toUInt32 >>> ((nI n).toUInt32 &&& Int32.toUInt32 31)).toBitVec.getLsbD i = x.toUInt32.toBitVec.getLsbD (n + i)
  rw [UInt32.toBitVec_shiftRight]
  show (x.toUInt32.toBitVec >>> (((nI n).toUInt32 &&& Int32.toUInt32 31).toBitVec % 32).toNat).getLsbD i = _
  rw [s_u n hn, BitVec.getLsbD_ushiftRight]
theorem b_sshr (n : Nat) (hn : n < 32) (x : Int32) {i : Nat} (hi : i < 32) : bt (x >>> (nI n &&& 31)) i = if n + i < 32 then bt x (n + i) else bt x 31 := by
  unfold bt
  rw [Int32.toBitVec_shiftRight]
  show (x.toBitVec.sshiftRight ((nI n &&& 31).toBitVec.smod 32).toNat).getLsbD i = _
  rw [s_l n hn, BitVec.getLsbD_sshiftRight, BitVec.msb_eq_getLsbD_last]
  simp [hi]
theorem b_shl8 (x : Int32) {i : Nat} (hi : i < 32) : bt (x <<< ((8 : Int32) &&& 31)) i = (decide (8 ≤ i) && bt x (i - 8)) := b_shl 8 (by omega) x hi
theorem b_shl16 (x : Int32) {i : Nat} (hi : i < 32) : bt (x <<< ((16 : Int32) &&& 31)) i = (decide (16 ≤ i) && bt x (i - 16)) := b_shl 16 (by omega) x hi
theorem b_shl24 (x : Int32) {i : Nat} (hi : i < 32) : bt (x <<< ((24 : Int32) &&& 31)) i = (decide (24 ≤ i) && bt x (i - 24)) := b_shl 24 (by omega) x hi
theorem b_sshr8 (x : Int32) {i : Nat} (hi : i < 32) : bt (x >>> ((8 : Int32) &&& 31)) i = if 8 + i < 32 then bt x (8 + i) else bt x 31 := b_sshr 8 (by omega) x hi
/-! a set of bits as a predicate -/
def bb_S (x : Int32) (P : Nat → Prop) : Prop := ∀ i, i < 32 → (bt x i = true ↔ P i)
theorem bb_1 : ∀ i, i < 32 → bt 1 i = decide (i = 0) := by decide +kernel
theorem bb_a1 (x : Int32) : x &&& 1 = if bt x 0 = true then 1 else 0 := by
  apply b_ext
  intro i hi
  rw [b_and, bb_1 i hi]
  by_cases h : bt x 0 = true
  · rw [if_pos h, bb_1 i hi]
    by_cases z : i = 0
    · subst z
      rw [h]; rfl
    · rw [decide_eq_false z, Bool.and_false]
  · rw [if_neg h, b_0]
    by_cases z : i = 0
    · subst z
      rw [Bool.not_eq_true] at h
      rw [h]; rfl
    · rw [decide_eq_false z, Bool.and_false]
theorem bb_sh (x : Int32) {l : Nat} (hl : l < 32) : bt (x >>> (nI l &&& 31)) 0 = bt x l := by
  rw [b_sshr l hl x (by omega), if_pos (by omega), Nat.add_zero]
theorem bb_h0 {x : Int32} {P : Nat → Prop} (h : bb_S x P) {l : Nat} (hl : l < 32) : (x >>> (nI l &&& 31)) &&& 1 = 0 ↔ ¬ P l := by
  rw [bb_a1, bb_sh x hl, ← h l hl]
  by_cases z : bt x l = true
  · rw [if_pos z]
    exact ⟨fun y => absurd y (by decide), fun y => absurd z y⟩
  · rw [if_neg z]
    exact ⟨fun _ => z, fun _ => rfl⟩
theorem bb_h1 {x : Int32} {P : Nat → Prop} (h : bb_S x P) {l : Nat} (hl : l < 32) : (x >>> (nI l &&& 31)) &&& 1 = 1 ↔ P l := by
  rw [bb_a1, bb_sh x hl, ← h l hl]
  by_cases z : bt x l = true
  · rw [if_pos z]
    exact ⟨fun _ => z, fun _ => rfl⟩
  · rw [if_neg z]
    exact ⟨fun y => absurd y (by decide), fun y => absurd y z⟩
theorem bb_or {x y : Int32} {P Q : Nat → Prop} (h : bb_S x P) (g : bb_S y Q) : bb_S (x ||| y) (fun i => P i ∨ Q i) := by
  intro i hi
  show _ ↔ P i ∨ Q i
  rw [b_or, Bool.or_eq_true, h i hi, g i hi]
theorem bb_andn {x y : Int32} {P Q : Nat → Prop} (h : bb_S x P) (g : bb_S y Q) : bb_S (x &&& (y ^^^ (-1))) (fun i => P i ∧ ¬ Q i) := by
  intro i hi
  show _ ↔ P i ∧ ¬ Q i
  rw [b_and, b_xor, b_m1 i hi, Bool.and_eq_true, h i hi, Bool.xor_true, Bool.not_eq_true', ← g i hi, Bool.not_eq_true]
theorem bb_one {l : Nat} (hl : l < 32) : bb_S ((1 : Int32) <<< (nI l &&& 31)) (fun i => i = l) := by
  intro i hi
  show _ ↔ i = l
  rw [b_shl l hl 1 hi, Bool.and_eq_true, decide_eq_true_eq, bb_1 _ (by omega), decide_eq_true_eq]
  omega
theorem bb_0 : bb_S 0 (fun _ => False) := by
  intro i _
  show _ ↔ False
  rw [b_0]
  exact ⟨fun y => (nomatch y), fun y => y.elim⟩
theorem bb_c {x : Int32} {P Q : Nat → Prop} (h : bb_S x P) (e : ∀ i, i < 32 → (P i ↔ Q i)) : bb_S x Q := fun i hi => (h i hi).trans (e i hi)
theorem bb_allT : ∀ n, n < 17 → ∀ i, i < 32 → bt (((1 : Int32) <<< (nI n &&& 31)) - 1) i = decide (i < n) := by decide +kernel
theorem bb_all {n : Nat} (h : n ≤ 16) : bb_S (((1 : Int32) <<< (nI n &&& 31)) - 1) (fun i => i < n) := by
  intro i hi
  show _ ↔ i < n
  rw [bb_allT n (by omega) i hi, decide_eq_true_eq]
end
section
/-! matrices of 16 by 16 cells, rounds of the reference -/
/-- the cells of a tell r, over the rows and columns below n -/
def mx_M (n : Nat) (a : Nat → Int32) (r : Nat → Nat → Prop) : Prop := ∀ u v, u < n → v < n → (a (16 * u + v) = 1 ∧ r u v) ∨ (a (16 * u + v) = 0 ∧ ¬ r u v)
theorem mx_0 {n : Nat} {a : Nat → Int32} {r : Nat → Nat → Prop} (h : mx_M n a r) {u v : Nat} (hu : u < n) (hv : v < n) : a (16 * u + v) = 0 ↔ ¬ r u v := by
  rcases h u v hu hv with ⟨e, z⟩ | ⟨e, z⟩
  · rw [e]
    exact ⟨fun y => absurd y (by decide), fun y => absurd z y⟩
  · exact ⟨fun _ => z, fun _ => e⟩
theorem mx_c {n : Nat} {a : Nat → Int32} {r s : Nat → Nat → Prop} (h : mx_M n a r) (e : ∀ u v, u < n → v < n → (r u v ↔ s u v)) : mx_M n a s := by
  intro u v hu hv
  rcases h u v hu hv with ⟨z, y⟩ | ⟨z, y⟩
  · exact .inl ⟨z, (e u v hu hv).mp y⟩
  · exact .inr ⟨z, fun t => y ((e u v hu hv).mpr t)⟩
theorem mx_le {n m : Nat} (hn : n ≤ m) {a : Nat → Int32} {r : Nat → Nat → Prop} (h : mx_M m a r) : mx_M n a r := fun u v hu hv => h u v (by omega) (by omega)
theorem mx_set {n : Nat} (hn : n ≤ 16) {a : Nat → Int32} {r : Nat → Nat → Prop} (h : mx_M n a r) {u v : Nat} (hu : u < n) (hv : v < n) : mx_M n (upd a (16 * u + v) 1) (fun x y => r x y ∨ (x = u ∧ y = v)) := by
  intro x y hx hy
  by_cases e : 16 * x + y = 16 * u + v
  · have e1 : x = u := by omega
    have e2 : y = v := by omega
    subst e1 e2
    exact .inl ⟨pk_us, .inr ⟨rfl, rfl⟩⟩
  · rw [pk_un e]
    have e1 : ¬ (x = u ∧ y = v) := by omega
    rcases h x y hx hy with ⟨z, t⟩ | ⟨z, t⟩
    · exact .inl ⟨z, .inl t⟩
    · exact .inr ⟨z, fun q => q.elim t e1⟩
theorem mx_clr {n : Nat} (hn : n ≤ 16) {a : Nat → Int32} {r : Nat → Nat → Prop} (h : mx_M n a r) {u v : Nat} (hu : u < n) (hv : v < n) : mx_M n (upd a (16 * u + v) 0) (fun x y => r x y ∧ ¬ (x = u ∧ y = v)) := by
  intro x y hx hy
  by_cases e : 16 * x + y = 16 * u + v
  · have e1 : x = u := by omega
    have e2 : y = v := by omega
    subst e1 e2
    exact .inr ⟨pk_us, fun q => q.2 ⟨rfl, rfl⟩⟩
  · rw [pk_un e]
    have e1 : ¬ (x = u ∧ y = v) := by omega
    rcases h x y hx hy with ⟨z, t⟩ | ⟨z, t⟩
    · exact .inl ⟨z, t, e1⟩
    · exact .inr ⟨z, fun q => t q.1⟩
theorem mx_ix (u v : Nat) : (16 : Int32) * nI u + nI v = nI (16 * u + v) := by
  show nI 16 * nI u + nI v = _
  rw [pk_mul, nI_add]
section
variable {E : Nat → Nat → Prop} {n : Nat}
/-- what a walk of at most k edges reaches is in r -/
def rh_Q (E : Nat → Nat → Prop) (n k : Nat) (r : Nat → Nat → Prop) : Prop := ∀ u v, u < n → gr_B E u k v → r u v
theorem rh_0 {r : Nat → Nat → Prop} (h : ∀ u, u < n → r u u) : rh_Q E n 0 r := by
  intro u v hu b
  obtain ⟨j, hj, w⟩ := b
  have : j = 0 := by omega
  subst this
  have e : v = u := w
  rw [e]; exact h u hu
theorem rh_s (hE : gr_In E n) {k : Nat} {r s : Nat → Nat → Prop} (m : ∀ u v, u < n → v < n → r u v → s u v) (c : ∀ u v w, u < n → v < n → r u v → E v w → s u w) (q : rh_Q E n k r) : rh_Q E n (k + 1) s := by
  intro u v hu b
  rcases gr_Bc b with b | ⟨w, b, e⟩
  · exact m u v hu (gr_Rin hE hu (gr_BR b)) (q u v hu b)
  · exact c u w v hu (hE w v e).1 (q u w hu b) e
theorem rh_all (hE : gr_In E n) {r : Nat → Nat → Prop} (h : ∀ u, u < n → r u u) (c : ∀ u v w, u < n → v < n → r u v → E v w → r u w) : ∀ k, rh_Q E n k r
  | 0 => rh_0 h
  | k + 1 => rh_s hE (fun _ _ _ _ z => z) c (rh_all hE h c k)
theorem rh_end (hE : gr_In E n) {r : Nat → Nat → Prop} {k : Nat} (hk : n ≤ k) (s : ∀ u v, u < n → v < n → r u v → gr_R E u v) (q : rh_Q E n k r) {u v : Nat} (hu : u < n) (hv : v < n) : r u v ↔ gr_R E u v := by
  refine ⟨s u v hu hv, fun g => q u v hu ?_⟩
  obtain ⟨j, hj, w⟩ := gr_near hE hu g
  exact ⟨j, by omega, w⟩
/-- chains that k rounds of raising have told -/
def hg_Q (E : Nat → Nat → Prop) (n k : Nat) (h : Nat → Nat) : Prop :=
  (∀ j v, 2 * j ≤ k → gr_C E n j v → j ≤ h v) ∧ ∀ j w x, 2 * j + 1 ≤ k → gr_C E n j w → E w x → ¬ gr_R E x w → j + 1 ≤ h x
theorem hg_0 {h : Nat → Nat} : hg_Q E n 0 h := by
  refine ⟨fun j v hj _ => ?_, fun j w x hj => ?_⟩
  · omega
  · omega
theorem hg_s (hE : gr_In E n) {k : Nat} {h g : Nat → Nat} (m : ∀ v, v < n → h v ≤ g v) (t : ∀ u v, u < n → v < n → gr_T E u v → h u ≤ g v) (o : ∀ u v, u < n → v < n → gr_O E u v → h u + 1 ≤ g v) (q : hg_Q E n k h) : hg_Q E n (k + 1) g := by
  refine ⟨fun j v hj c => ?_, fun j w x hj c e z => ?_⟩
  · have hv := gr_Cin hE j v c
    rcases Nat.lt_or_ge k (2 * j) with y | y
    · obtain ⟨i, rfl⟩ : ∃ i, j = i + 1 := ⟨j - 1, by omega⟩
      obtain ⟨w, x, h1, h2, h3, h4⟩ := gr_Clast hE c
      have a := q.2 i w x (by omega) h1 h2 h3
      have b := t x v (hE w x h2).2 hv h4
      omega
    · have a := q.1 j v y c
      have b := m v hv
      omega
  · have hw := gr_Cin hE j w c
    have a := q.1 j w (by omega) c
    have b := o w x hw (hE w x e).2 ⟨e, fun y => z y.2⟩
    omega
theorem hg_all (hE : gr_In E n) {h : Nat → Nat} (t : ∀ u v, u < n → v < n → gr_T E u v → h u ≤ h v) (o : ∀ u v, u < n → v < n → gr_O E u v → h u + 1 ≤ h v) : ∀ k, hg_Q E n k h
  | 0 => hg_0
  | k + 1 => hg_s hE (fun _ _ => Nat.le_refl _) t o (hg_all hE t o k)
theorem hg_end (hE : gr_In E n) (hn : n ≤ 16) {k : Nat} (hk : 40 ≤ k) {h : Nat → Nat} (q : hg_Q E n k h) {v : Nat} (c : gr_C E n (h v) v) : gr_hgt E n v (nI (h v)) := by
  refine ⟨h v, rfl, c, fun j cj => q.1 j v ?_ cj⟩
  have := gr_Cn hE cj
  omega
end
end
section
/-! the class: a lemma a private method -/
theorem xh_10 : ¬ (1 : Int32) = 0 := by decide
theorem xh_h {set : Int32} {P : Nat → Prop} (h : bb_S set P) {l : Nat} (hl : l < 32) {post : Int32 → Prop} (t : P l → post 1) (f : ¬ P l → post 0) : wpX_holds post set (nI l) :=
  ek_if (bb_h0 h hl) f (fun z => t (Classical.byContradiction z))
theorem xh_b {set : Int32} {P : Nat → Prop} (h : bb_S set P) {l : Nat} (hl : l < 32) {A B : Prop} (t : P l → B) (f : ¬ P l → A) : wpX_holds (fun r => (r = 0 → A) ∧ (¬ r = 0 → B)) set (nI l) :=
  xh_h h hl (fun z => br_f xh_10 (t z)) (fun z => br_t rfl (f z))
/-- the first n cells of a hold the rows of r as sets of bits -/
def xs_B (n : Nat) (a : Nat → Int32) (r : Nat → Nat → Prop) : Prop := ∀ u, u < n → bb_S (a u) (r u)
theorem xs_up {i : Nat} {a : Nat → Int32} {r : Nat → Nat → Prop} {x : Int32} (h : xs_B i a r) (hx : bb_S x (r i)) : xs_B (i + 1) (upd a i x) r := by
  intro u hu
  by_cases e : u = i
  · subst e
    rw [pk_us]; exact hx
  · rw [pk_un e]; exact h u (by omega)
theorem xs_set {n i : Nat} {a : Nat → Int32} {r s : Nat → Nat → Prop} {x : Int32} (h : xs_B n a r) (hx : bb_S x (s i)) (e : ∀ u v, u < n → v < 32 → u ≠ i → (r u v ↔ s u v)) : xs_B n (upd a i x) s := by
  intro u hu
  by_cases z : u = i
  · subst z
    rw [pk_us]; exact hx
  · rw [pk_un z]; exact bb_c (h u hu) (fun v hv => e u v hu hv z)
section
variable {E : Nat → Nat → Prop} {n : Nat}
/-- row i of the pass of way point w is next -/
def xr_M (r : Nat → Nat → Prop) (w i u v : Nat) : Prop := r u v ∨ (u < i ∧ r u w ∧ r w v)
theorem xr_44 {r : Nat → Nat → Prop} {w : Nat} (hw : w < n) (hn : n ≤ 16) (post : SX → Prop) (J : Int32 → (Nat → Int32) → (Nat → Int32) → (Nat → Int32) → Prop) {cc : Int32} {eF co : Nat → Int32}
    (hJ : ∀ a, xs_B n a (gr_V r w) → J (nI (w + 1)) eF a co) :
    ∀ f i a, i ≤ n → n - i < f → xs_B n a (xr_M r w i) → wX_findReached_44 post J (nI w) (nI n) cc f (nI i) eF a co := by
  intro f
  induction f with
  | zero => intro i a _ h; omega
  | succ f ih =>
    intro i a hi hf hI
    refine pk_le n i (fun z => ?_) (fun z => ?_)
    · refine nm_r (nI_1 w) (hJ a ?_)
      have e : i = n := by omega
      subst e
      exact fun u hu => bb_c (hI u hu) (fun v _ => ⟨fun q => q.elim .inl (fun q => .inr q.2), fun q => q.elim .inl (fun q => .inr ⟨hu, q⟩)⟩)
    · have ci : (nI i).toNatClampNeg = i := nI_clamp (by omega)
      have cw : (nI w).toNatClampNeg = w := nI_clamp (by omega)
      have vi : vp_in (nI i) 16 := vp_in_nI (by omega) (by omega)
      have vw : vp_in (nI w) 16 := vp_in_nI (by omega) (by omega)
      rw [ci, cw]
      refine ⟨vi, xh_b (hI i z) (by omega) (fun t => ?_) (fun t => ?_)⟩
      · have t' : r i w := t.elim id (fun q => absurd q.1 (Nat.lt_irrefl i))
        refine ⟨vi, vw, vi, nm_e (nm_r (nI_1 i) (ih (i + 1) _ (by omega) (by omega) ?_))⟩
        refine xs_set hI (bb_c (bb_or (hI i z) (hI w hw)) (fun v _ => ?_)) (fun u v _ _ e => ?_)
        · constructor
          · intro q
            rcases q with (q | q) | (q | q)
            · exact .inl q
            · exact absurd q.1 (Nat.lt_irrefl i)
            · exact .inr ⟨Nat.lt_succ_self i, t', q⟩
            · exact .inr ⟨Nat.lt_succ_self i, t', q.2.2⟩
          · intro q
            rcases q with q | q
            · exact .inl (.inl q)
            · exact .inr (.inl q.2.2)
        · exact ⟨fun q => q.elim .inl (fun q => .inr ⟨Nat.lt_succ_of_lt q.1, q.2⟩), fun q => q.elim .inl (fun q => .inr ⟨Nat.lt_of_le_of_ne (Nat.le_of_lt_succ q.1) e, q.2⟩)⟩
      · refine nm_r (nI_1 i) (ih (i + 1) a (by omega) (by omega) (fun u hu => bb_c (hI u hu) (fun v _ => ?_)))
        constructor
        · exact fun q => q.elim .inl (fun q => .inr ⟨Nat.lt_succ_of_lt q.1, q.2⟩)
        · intro q
          rcases q with q | q
          · exact .inl q
          · by_cases e : u = i
            · subst e
              exact absurd (.inl q.2.1) t
            · exact .inr ⟨Nat.lt_of_le_of_ne (Nat.le_of_lt_succ q.1) e, q.2⟩
theorem xr_34 (hE : gr_In E n) (hn : n ≤ 16) (post : SX → Prop) {cc : Int32} {eF co : Nat → Int32} (hp : ∀ a, xs_B n a (gr_R E) → post (nI n, cc, eF, a, co)) :
    ∀ f w a r, w ≤ n → n - w < f → xs_B n a r → gr_P E n w r → wX_findReached_34 post (nI n) cc f (nI w) eF a co := by
  intro f
  induction f with
  | zero => intro w a r _ h; omega
  | succ f ih =>
    intro w a r hw hf hI hP
    refine pk_le n w (fun z => ?_) (fun z => ?_)
    · have e : w = n := by omega
      subst e
      exact hp a (fun u hu => bb_c (hI u hu) (fun v _ => gr_Pn hE hP hu v))
    · have h := xr_44 (cc := cc) (eF := eF) (co := co) z hn post (wX_findReached_34 post (nI n) cc f) (fun a' h' => ih (w + 1) a' _ (by omega) (by omega) h' (gr_Ps z hP)) (n + 1) 0 a (by omega) (by omega)
        (fun u hu => bb_c (hI u hu) (fun v _ => ⟨.inl, fun q => q.elim id (fun q => absurd q.1 (Nat.not_lt_zero u))⟩))
      exact ⟨n + 1, h⟩
theorem xr_2 (hE : gr_In E n) (hn : n ≤ 16) (post : SX → Prop) {cc : Int32} {eF co : Nat → Int32} (he : xs_B n eF E) (hp : ∀ a, xs_B n a (gr_R E) → post (nI n, cc, eF, a, co)) :
    ∀ f i a, i ≤ n → n - i < f → xs_B i a (fun u v => E u v ∨ v = u) → wX_findReached_2 post (nI n) cc f (nI i) eF a co := by
  intro f
  induction f with
  | zero => intro i a _ h; omega
  | succ f ih =>
    intro i a hi hf hI
    refine pk_le n i (fun z => ?_) (fun z => ?_)
    · have e : i = n := by omega
      subst e
      exact ⟨i + 1, xr_34 hE hn post hp (i + 1) 0 a _ (by omega) (by omega) hI gr_P0⟩
    · have ci : (nI i).toNatClampNeg = i := nI_clamp (by omega)
      have vi : vp_in (nI i) 16 := vp_in_nI (by omega) (by omega)
      rw [ci]
      exact ⟨vi, vi, nm_e (nm_r (nI_1 i) (ih (i + 1) _ (by omega) (by omega) (xs_up hI (bb_or (he i z) (bb_one (by omega))))))⟩
theorem xf_reach (hE : gr_In E n) (hn : n ≤ 16) {post : SX → Prop} {cc : Int32} {eF rF co : Nat → Int32} (he : xs_B n eF E) (hp : ∀ a, xs_B n a (gr_R E) → post (nI n, cc, eF, a, co)) : wpX_findReached post (nI n, cc, eF, rF, co) :=
  ⟨n + 1, xr_2 hE hn post he hp (n + 1) 0 rF (by omega) (by omega) (fun u hu => absurd hu (Nat.not_lt_zero u))⟩
theorem xc_14 (hE : gr_In E n) (hn : n ≤ 16) {u : Nat} (hu : u < n) (post : SX → Prop) (J : Int32 → (Nat → Int32) → (Nat → Int32) → (Nat → Int32) → Prop) {cc : Int32} {eF rF co : Nat → Int32} (hr : xs_B n rF (gr_R E))
    (hJ : ∀ x, bb_S x (gr_T E u) → J (nI (u + 1)) eF rF (upd co u x)) :
    ∀ f i x, i ≤ n → n - i < f → bb_S x (fun v => v < i ∧ gr_T E u v) → wX_findComponents_14 post J (nI u) (nI n) cc eF rF co f x (nI i) := by
  have cu : (nI u).toNatClampNeg = u := nI_clamp (by omega)
  have vu : vp_in (nI u) 16 := vp_in_nI (by omega) (by omega)
  intro f
  induction f with
  | zero => intro i x _ h; omega
  | succ f ih =>
    intro i x hi hf hI
    refine pk_le n i (fun z => ?_) (fun z => ?_)
    · rw [cu]
      refine ⟨vu, nm_e (nm_r (nI_1 u) (hJ x (bb_c hI (fun v _ => ⟨fun q => q.2, fun q => ⟨?_, q⟩⟩))))⟩
      have := gr_Rin hE hu q.1
      omega
    · have ci : (nI i).toNatClampNeg = i := nI_clamp (by omega)
      have vi : vp_in (nI i) 16 := vp_in_nI (by omega) (by omega)
      have sk : ¬ gr_T E u i → bb_S x (fun v => v < i + 1 ∧ gr_T E u v) := fun t => bb_c hI (fun v _ => ⟨fun q => ⟨Nat.lt_succ_of_lt q.1, q.2⟩, fun q => ⟨Nat.lt_of_le_of_ne (Nat.le_of_lt_succ q.1) (fun e => t (e ▸ q.2)), q.2⟩⟩)
      rw [ci, cu]
      refine ⟨vu, xh_b (hr u hu) (by omega) (fun t => ⟨vi, xh_b (hr i z) (by omega) (fun s => ?_) (fun s => ?_)⟩) (fun t => ?_)⟩
      · refine nm_e (nm_r (nI_1 i) (ih (i + 1) _ (by omega) (by omega) (bb_c (bb_or hI (bb_one (l := i) (by omega))) (fun v _ => ?_))))
        constructor
        · intro q
          rcases q with q | q
          · exact ⟨Nat.lt_succ_of_lt q.1, q.2⟩
          · subst q
            exact ⟨Nat.lt_succ_self v, t, s⟩
        · intro q
          rcases Nat.lt_or_ge v i with y | y
          · exact .inl ⟨y, q.2⟩
          · exact .inr (Nat.le_antisymm (Nat.le_of_lt_succ q.1) y)
      · exact nm_r (nI_1 i) (ih (i + 1) x (by omega) (by omega) (sk (fun q => s q.2)))
      · exact nm_r (nI_1 i) (ih (i + 1) x (by omega) (by omega) (sk (fun q => t q.1)))
theorem xc_2 (hE : gr_In E n) (hn : n ≤ 16) (post : SX → Prop) {cc : Int32} {eF rF : Nat → Int32} (hr : xs_B n rF (gr_R E)) (hp : ∀ c, xs_B n c (gr_T E) → post (nI n, cc, eF, rF, c)) :
    ∀ f i co, i ≤ n → n - i < f → xs_B i co (gr_T E) → wX_findComponents_2 post (nI n) cc f (nI i) eF rF co := by
  intro f
  induction f with
  | zero => intro i co _ h; omega
  | succ f ih =>
    intro i co hi hf hI
    refine pk_le n i (fun z => ?_) (fun z => ?_)
    · have e : i = n := by omega
      subst e
      exact hp co hI
    · have h := xc_14 (cc := cc) (eF := eF) (co := co) hE hn z post (wX_findComponents_2 post (nI n) cc f) hr (fun x hx => ih (i + 1) _ (by omega) (by omega) (xs_up hI hx)) (n + 1) 0 0 (by omega) (by omega)
        (bb_c bb_0 (fun v _ => ⟨fun q => q.elim, fun q => absurd q.1 (Nat.not_lt_zero v)⟩))
      exact ⟨n + 1, h⟩
theorem xf_comp (hE : gr_In E n) (hn : n ≤ 16) {post : SX → Prop} {cc : Int32} {eF rF co : Nat → Int32} (hr : xs_B n rF (gr_R E)) (hp : ∀ c, xs_B n c (gr_T E) → post (nI n, cc, eF, rF, c)) : wpX_findComponents post (nI n, cc, eF, rF, co) :=
  ⟨n + 1, xc_2 hE hn post hr hp (n + 1) 0 co (by omega) (by omega) (fun u hu => absurd hu (Nat.not_lt_zero u))⟩
theorem xm_2 (hn : n ≤ 16) {u : Nat} (hu : u < n) (post : Int32 → Prop) {fv cc : Int32} {eF rF co : Nat → Int32} (hc : xs_B n co (gr_T E)) (hp : ∀ r, gr_lead E u r → post r) :
    ∀ f i, i ≤ u → u - i < f → (∀ v, v < i → ¬ gr_T E u v) → wX_smallestWith_2 post (nI u) fv cc eF rF co f (nI i) := by
  have cu : (nI u).toNatClampNeg = u := nI_clamp (by omega)
  have vu : vp_in (nI u) 16 := vp_in_nI (by omega) (by omega)
  intro f
  induction f with
  | zero => intro i _ h; omega
  | succ f ih =>
    intro i hi hf hI
    refine pk_le u i (fun z => ?_) (fun z => ?_)
    · have e : i = u := by omega
      subst e
      exact hp _ ⟨i, Nat.le_refl i, rfl, gr_Tr E i, hI⟩
    · rw [cu]
      refine ⟨vu, xh_b (hc u hu) (by omega) (fun t => hp _ ⟨i, hi, rfl, t, hI⟩) (fun t => nm_r (nI_1 i) (ih (i + 1) (by omega) (by omega) (fun v hv => ?_)))⟩
      by_cases e : v = i
      · rw [e]; exact t
      · exact hI v (by omega)
theorem xf_small (hn : n ≤ 16) {u : Nat} (hu : u < n) {post : Int32 → Prop} {fv cc : Int32} {eF rF co : Nat → Int32} (hc : xs_B n co (gr_T E)) (hp : ∀ r, gr_lead E u r → post r) : wpX_smallestWith post (fv, cc, eF, rF, co) (nI u) :=
  ⟨u + 1, xm_2 hn hu post hc hp (u + 1) 0 (by omega) (by omega) (fun v hv => absurd hv (Nat.not_lt_zero v))⟩
theorem xn_7 (hn : n ≤ 16) (post : SX → Prop) {eF rF co : Nat → Int32} (hc : xs_B n co (gr_T E)) (hp : post (nI n, nI (cn_c (gr_own E) n), eF, rF, co)) :
    ∀ f i, i ≤ n → n - i < f → wX_countComponents_7 post (nI n) eF rF co f (nI i) (nI (cn_c (gr_own E) i)) := by
  intro f
  induction f with
  | zero => intro i _ h; omega
  | succ f ih =>
    intro i hi hf
    refine pk_le n i (fun z => ?_) (fun z => ?_)
    · have e : i = n := by omega
      subst e
      exact hp
    · refine xf_small hn z hc (fun r hr => ek_if (gr_lead_own (by omega) hr) (fun o => ?_) (fun o => ?_))
      · have h := ih (i + 1) (by omega) (by omega)
        rw [cn_t o] at h
        exact nm_r (nI_1 _) (nm_r (nI_1 i) h)
      · have h := ih (i + 1) (by omega) (by omega)
        rw [cn_f o] at h
        exact nm_r (nI_1 i) h
theorem xf_count (hn : n ≤ 16) {post : SX → Prop} {cc : Int32} {eF rF co : Nat → Int32} (hc : xs_B n co (gr_T E)) (hp : post (nI n, nI (cn_c (gr_own E) n), eF, rF, co)) : wpX_countComponents post (nI n, cc, eF, rF, co) :=
  ⟨n + 1, xn_7 hn post hc hp (n + 1) 0 (by omega) (by omega)⟩
theorem xf_all (hE : gr_In E n) (hn : n ≤ 16) {post : SX → Prop} {cc : Int32} {eF rF co : Nat → Int32} (he : xs_B n eF E)
    (hp : ∀ a c, xs_B n a (gr_R E) → xs_B n c (gr_T E) → post (nI n, nI (cn_c (gr_own E) n), eF, a, c)) : wpX_rebuild post (nI n, cc, eF, rF, co) := by
  unfold wpX_rebuild
  dsimp only
  refine xf_reach hE hn he (fun a ha => ?_)
  dsimp only
  refine xf_comp hE hn ha (fun c hc => ?_)
  dsimp only
  exact xf_count hn hc (hp a c ha hc)
end
end
section
/-! the reference: a lemma a private method -/
theorem yb_1 : vp_nar .boolean 1 = 1 := rfl
theorem yb_0 : vp_nar .boolean 0 = 0 := rfl
theorem yb_g {g : Int32} {A : Prop} (h : g = 1 ∨ (g = 0 ∧ A)) : narrow .boolean (.int g) = .int g := by
  rcases h with rfl | ⟨rfl, -⟩ <;> rfl
theorem yb_4 {x : Nat} (h : x < 256) : nI x >>> ((4 : Int32) &&& 31) = nI (x / 16) := pk_shrN (by omega) _ 4 (by decide)
theorem yb_15 {x : Nat} (h : x < 256) : nI x &&& 15 = nI (x % 16) := pk_andN (by omega) 4 (by decide)
theorem yb_c {u v : Nat} (hu : u < 16) (hv : v < 16) : ((16 : Int32) * nI u + nI v).toNatClampNeg = 16 * u + v := by
  rw [mx_ix]; exact nI_clamp (by omega)
theorem yb_v {u v : Nat} (hu : u < 16) (hv : v < 16) : vp_in ((16 : Int32) * nI u + nI v) 256 := by
  rw [mx_ix]; exact vp_in_nI (by omega) (by omega)
theorem yb_x (x : Nat) : 16 * (x / 16) + x % 16 = x := by omega
section
variable {E : Nat → Nat → Prop} {n : Nat}
theorem yt_h (hn : n ≤ 16) {fn : Int32} {ed re hi : Nat → Int32} (h : mx_M n re (gr_R E)) {u v : Nat} (hu : u < n) (hv : v < n) {post : Int32 → Prop} (t : gr_T E u v → post 1) (f : ¬ gr_T E u v → post 0) : wpY_together post (fn, ed, re, hi) (nI u) (nI v) := by
  unfold wpY_together
  dsimp only
  rw [yb_c (show u < 16 by omega) (show v < 16 by omega), yb_c (show v < 16 by omega) (show u < 16 by omega)]
  exact ⟨yb_v (by omega) (by omega), ek_if (mx_0 h hu hv) (fun z => f (fun q => z q.1)) (fun z => ⟨yb_v (by omega) (by omega), ek_if (mx_0 h hv hu) (fun y => f (fun q => y q.2)) (fun y => t ⟨Classical.byContradiction z, Classical.byContradiction y⟩)⟩)⟩
theorem yt_b (hn : n ≤ 16) {fn : Int32} {ed re hi : Nat → Int32} (h : mx_M n re (gr_R E)) {u v : Nat} (hu : u < n) (hv : v < n) {A B : Prop} (t : gr_T E u v → B) (f : ¬ gr_T E u v → A) : wpY_together (fun r => (r = 0 → A) ∧ (¬ r = 0 → B)) (fn, ed, re, hi) (nI u) (nI v) :=
  yt_h hn h hu hv (fun z => br_f xh_10 (t z)) (fun z => br_t rfl (f z))
/-- where a round of lengthening stands: cell x, way i -/
def ln_I (E : Nat → Nat → Prop) (n : Nat) (a0 : Nat → Int32) (r0 : Nat → Nat → Prop) (x i : Nat) (g : Int32) (a : Nat → Int32) : Prop :=
  ∃ r, mx_M 16 a r ∧ (∀ u v, u < 16 → v < 16 → r0 u v → r u v) ∧ (∀ u v, u < 16 → v < 16 → r u v → gr_R E u v) ∧
  (∀ u v w, u < 16 → v < 16 → w < n → (16 * u + v < x ∨ (16 * u + v = x ∧ w < i)) → r0 u v → E v w → r u w) ∧ (g = 1 ∨ (g = 0 ∧ a = a0))
theorem yl_24 (hn : n ≤ 16) {ed hi a0 : Nat → Int32} {r0 : Nat → Nat → Prop} (hed : mx_M 16 ed E) {x : Nat} (hx : x < 256) (post : Int32 → SY → Prop) (J : Int32 → Int32 → (Nat → Int32) → (Nat → Int32) → (Nat → Int32) → Prop)
    (hJ : ∀ g a, ln_I E n a0 r0 (x + 1) 0 g a → J g (nI (x + 1)) ed a hi) :
    ∀ f i g a, i ≤ n → n - i < f → ln_I E n a0 r0 x i g a → wY_lengthen_24 post J (nI x) (nI (x / 16)) (nI (x % 16)) (nI n) f g (nI i) ed a hi := by
  have hu : x / 16 < 16 := by omega
  have hv : x % 16 < 16 := by omega
  have cx : (nI x).toNatClampNeg = x := nI_clamp (by omega)
  have vx : vp_in (nI x) 256 := vp_in_nI hx (by omega)
  intro f
  induction f with
  | zero => intro i g a _ h; omega
  | succ f ih =>
    intro i g a him hf hI
    obtain ⟨r, hM, h0, hR, hP, hg⟩ := hI
    refine pk_le n i (fun z => ?_) (fun z => ?_)
    · refine nm_r (nI_1 x) (hJ g a ⟨r, hM, h0, hR, fun u v w a1 a2 a3 c => hP u v w a1 a2 a3 ?_, hg⟩)
      omega
    · have hi16 : i < 16 := by omega
      have sk : (r0 (x / 16) (x % 16) → E (x % 16) i → r (x / 16) i) → wY_lengthen_24 post J (nI x) (nI (x / 16)) (nI (x % 16)) (nI n) f g (nI (i + 1)) ed a hi := by
        intro q
        refine ih (i + 1) g a (by omega) (by omega) ⟨r, hM, h0, hR, fun u v w a1 a2 a3 c b e => ?_, hg⟩
        by_cases y : 16 * u + v = x ∧ w = i
        · have e1 : u = x / 16 := by omega
          have e2 : v = x % 16 := by omega
          have e3 : w = i := y.2
          subst e1 e2 e3
          exact q b e
        · exact hP u v w a1 a2 a3 (by omega) b e
      rw [cx, yb_c hv hi16, yb_c hu hi16]
      have mx : a x = 0 ↔ ¬ r (x / 16) (x % 16) := by
        have := mx_0 hM hu hv
        rw [yb_x] at this
        exact this
      refine ⟨vx, ek_if mx (fun y => nm_r (nI_1 i) (sk (fun b => absurd (h0 _ _ hu hv b) y))) (fun y => ?_)⟩
      have y' : r (x / 16) (x % 16) := Classical.byContradiction y
      refine ⟨yb_v hv hi16, ek_if (mx_0 hed hv hi16) (fun t => nm_r (nI_1 i) (sk (fun _ e => absurd e t))) (fun t => ?_)⟩
      have t' : E (x % 16) i := Classical.byContradiction t
      refine ⟨yb_v hu hi16, ek_if (mx_0 hM hu hi16) (fun s => ?_) (fun s => nm_r (nI_1 i) (sk (fun _ _ => Classical.byContradiction s)))⟩
      refine ⟨yb_v hu hi16, nm_r (by rw [yb_1]) (nm_r (nI_1 i) (ih (i + 1) 1 _ (by omega) (by omega) ⟨_, mx_set (Nat.le_refl 16) hM hu hi16, fun u v a1 a2 b => .inl (h0 u v a1 a2 b), ?_, ?_, .inl rfl⟩))⟩
      · intro u v a1 a2 b
        rcases b with b | ⟨rfl, rfl⟩
        · exact hR u v a1 a2 b
        · exact gr_step (hR _ _ hu hv y') t'
      · intro u v w a1 a2 a3 c b e
        by_cases y : 16 * u + v = x ∧ w = i
        · have e1 : u = x / 16 := by omega
          exact .inr ⟨e1, y.2⟩
        · exact .inl (hP u v w a1 a2 a3 (by omega) b e)
theorem yl_4 (hn : n ≤ 16) {ed hi a0 : Nat → Int32} {r0 : Nat → Nat → Prop} (hed : mx_M 16 ed E) (post : Int32 → SY → Prop)
    (hp : ∀ g a, ln_I E n a0 r0 256 0 g a → post g (nI n, ed, a, hi)) :
    ∀ f x g a, x ≤ 256 → 256 - x < f → ln_I E n a0 r0 x 0 g a → wY_lengthen_4 post (nI n) f g (nI x) ed a hi := by
  intro f
  induction f with
  | zero => intro x g a _ h; omega
  | succ f ih =>
    intro x g a hx hf hI
    refine pk_le 256 x (fun z => ?_) (fun z => ?_)
    · have e : x = 256 := by omega
      subst e
      have hI' := hI
      obtain ⟨r, _, _, _, _, hg⟩ := hI'
      exact ⟨yb_g hg, hp g a hI⟩
    · refine nm_r (yb_4 z) (nm_r (yb_15 z) ⟨n + 1, ?_⟩)
      exact yl_24 hn hed z post (wY_lengthen_4 post (nI n) f) (fun g' a' h' => ih (x + 1) g' a' (by omega) (by omega) h') (n + 1) 0 g a (by omega) (by omega) hI
theorem yl_h (hn : n ≤ 16) {ed re hi : Nat → Int32} {r0 : Nat → Nat → Prop} (hed : mx_M 16 ed E) (hM : mx_M 16 re r0) (hR : ∀ u v, u < 16 → v < 16 → r0 u v → gr_R E u v) {post : Int32 → SY → Prop}
    (hp : ∀ g a, ln_I E n re r0 256 0 g a → post g (nI n, ed, a, hi)) : wpY_lengthen post (nI n, ed, re, hi) :=
  ⟨257, yl_4 hn hed post hp 257 0 0 re (by omega) (by omega) ⟨r0, hM, fun _ _ _ _ b => b, hR, fun u v w _ _ _ c => absurd c (by omega), .inr ⟨rfl, rfl⟩⟩⟩
/-- where the rounds of lengthening stand -/
def fr_I (E : Nat → Nat → Prop) (n k : Nat) (g : Int32) (a : Nat → Int32) : Prop :=
  ∃ r, mx_M 16 a r ∧ (∀ u v, u < 16 → v < 16 → r u v → gr_R E u v) ∧ (∀ u, u < n → r u u) ∧ rh_Q E n k r ∧ (g = 1 ∨ (g = 0 ∧ ∀ j, rh_Q E n j r))
theorem yf_end (hE : gr_In E n) (hn : n ≤ 16) {k : Nat} {a : Nat → Int32} {r : Nat → Nat → Prop} (hM : mx_M 16 a r) (hR : ∀ u v, u < 16 → v < 16 → r u v → gr_R E u v) (hk : n ≤ k) (q : rh_Q E n k r) : mx_M n a (gr_R E) :=
  mx_c (mx_le hn hM) (fun u v hu hv => rh_end hE hk (fun u v hu hv => hR u v (by omega) (by omega)) q hu hv)
theorem yf_40 (hE : gr_In E n) (hn : n ≤ 16) {ed hi : Nat → Int32} (hed : mx_M 16 ed E) (post : SY → Prop) (hp : ∀ a, mx_M n a (gr_R E) → post (nI n, ed, a, hi)) :
    ∀ f k g a, k ≤ 17 → 17 - k < f → fr_I E n k g a → wY_findReach_40 post f g (nI k) (nI n) ed a hi := by
  intro f
  induction f with
  | zero => intro k g a _ h; omega
  | succ f ih =>
    intro k g a hk hf hI
    obtain ⟨r, hM, hR, hr, hQ, hg⟩ := hI
    refine pk_le 17 k (fun z => ?_) (fun z => ?_)
    · exact hp a (yf_end hE hn hM hR (by omega) hQ)
    · rcases hg with rfl | ⟨rfl, hj⟩
      · refine br_f xh_10 (yl_h hn hed hM hR (fun g a' h => ?_))
        dsimp only
        obtain ⟨r', hM', h0, hR', hP, hg'⟩ := h
        have hr' : ∀ u, u < n → r' u u := fun u hu => h0 u u (by omega) (by omega) (hr u hu)
        have st : ∀ u v w, u < n → v < n → r u v → E v w → r' u w := fun u v w a1 a2 b e => hP u v w (by omega) (by omega) (hE v w e).2 (by omega) b e
        refine nm_r (nI_1 k) (ih (k + 1) g a' (by omega) (by omega) ⟨r', hM', hR', hr', rh_s hE (fun u v a1 a2 b => h0 u v (by omega) (by omega) b) st hQ, ?_⟩)
        rcases hg' with y | ⟨y, rfl⟩
        · exact .inl y
        · refine .inr ⟨y, rh_all hE hr' (fun u v w a1 a2 b e => st u v w a1 a2 ?_ e)⟩
          have c1 := mx_0 hM (u := u) (v := v) (by omega) (by omega)
          have c2 := mx_0 hM' (u := u) (v := v) (by omega) (by omega)
          exact Classical.byContradiction (fun t => (c2.mp (c1.mpr t)) b)
      · exact br_t rfl (hp a (yf_end hE hn hM hR (Nat.le_refl n) (hj n)))
theorem yf_2 (hE : gr_In E n) (hn : n ≤ 16) {ed hi : Nat → Int32} (hed : mx_M 16 ed E) (post : SY → Prop) (hp : ∀ a, mx_M n a (gr_R E) → post (nI n, ed, a, hi)) :
    ∀ f x a, x ≤ 256 → 256 - x < f → (∀ y, y < x → (a y = 1 ∧ y / 16 = y % 16) ∨ (a y = 0 ∧ ¬ y / 16 = y % 16)) → wY_findReach_2 post (nI n) f (nI x) ed a hi := by
  intro f
  induction f with
  | zero => intro x a _ h; omega
  | succ f ih =>
    intro x a hx hf hI
    refine pk_le 256 x (fun z => ?_) (fun z => ?_)
    · have hM : mx_M 16 a (fun u v => u = v) := by
        intro u v hu hv
        have e1 : (16 * u + v) / 16 = u := by omega
        have e2 : (16 * u + v) % 16 = v := by omega
        have := hI (16 * u + v) (by omega)
        rw [e1, e2] at this
        exact this
      exact ⟨18, yf_40 hE hn hed post hp 18 0 1 a (by omega) (by omega) ⟨_, hM, fun u v _ _ e => e ▸ gr_refl E u, fun _ _ => rfl, rh_0 (fun _ _ => rfl), .inl rfl⟩⟩
    · have cx : (nI x).toNatClampNeg = x := nI_clamp (by omega)
      have vx : vp_in (nI x) 256 := vp_in_nI z (by omega)
      have up : ∀ b : Int32, ((b = 1 ∧ x / 16 = x % 16) ∨ (b = 0 ∧ ¬ x / 16 = x % 16)) → wY_findReach_2 post (nI n) f (nI (x + 1)) ed (upd a x b) hi := by
        intro b hb
        refine ih (x + 1) _ (by omega) (by omega) (fun y hy => ?_)
        by_cases e : y = x
        · subst e
          rw [pk_us]; exact hb
        · rw [pk_un e]; exact hI y (by omega)
      rw [cx, yb_4 z, yb_15 z, yb_1, yb_0]
      exact pk_eq (x / 16) (x % 16) (fun e => ⟨vx, nm_e (nm_r (nI_1 x) (up 1 (.inl ⟨rfl, e⟩)))⟩) (fun e => ⟨vx, nm_e (nm_r (nI_1 x) (up 0 (.inr ⟨rfl, e⟩)))⟩)
theorem yf_h (hE : gr_In E n) (hn : n ≤ 16) {ed re hi : Nat → Int32} (hed : mx_M 16 ed E) {post : SY → Prop} (hp : ∀ a, mx_M n a (gr_R E) → post (nI n, ed, a, hi)) : wpY_findReach post (nI n, ed, re, hi) :=
  ⟨257, yf_2 hE hn hed post hp 257 0 re (by omega) (by omega) (fun y hy => absurd hy (Nat.not_lt_zero y))⟩
theorem yd_2 (hn : n ≤ 16) {u : Nat} (hu : u < n) (post : Int32 → Prop) {fn : Int32} {ed re hi : Nat → Int32} (h : mx_M n re (gr_R E)) (hp : ∀ r, gr_lead E u r → post r) :
    ∀ f i, i ≤ u → u - i < f → (∀ v, v < i → ¬ gr_T E u v) → wY_leaderOf_2 post (nI u) fn ed re hi f (nI i) := by
  intro f
  induction f with
  | zero => intro i _ h; omega
  | succ f ih =>
    intro i hi hf hI
    refine pk_le u i (fun z => ?_) (fun z => ?_)
    · have e : i = u := by omega
      subst e
      exact hp _ ⟨i, Nat.le_refl i, rfl, gr_Tr E i, hI⟩
    · refine yt_b hn h hu (by omega) (fun t => hp _ ⟨i, hi, rfl, t, hI⟩) (fun t => nm_r (nI_1 i) (ih (i + 1) (by omega) (by omega) (fun v hv => ?_)))
      by_cases e : v = i
      · rw [e]; exact t
      · exact hI v (by omega)
theorem yd_h (hn : n ≤ 16) {u : Nat} (hu : u < n) {post : Int32 → Prop} {fn : Int32} {ed re hi : Nat → Int32} (h : mx_M n re (gr_R E)) (hp : ∀ r, gr_lead E u r → post r) : wpY_leaderOf post (fn, ed, re, hi) (nI u) :=
  ⟨u + 1, yd_2 hn hu post h hp (u + 1) 0 (by omega) (by omega) (fun v hv => absurd hv (Nat.not_lt_zero v))⟩
theorem yc_8 (hn : n ≤ 16) (post : Int32 → SY → Prop) {ed re hi : Nat → Int32} (h : mx_M n re (gr_R E)) (hp : post (nI (cn_c (gr_own E) n)) (nI n, ed, re, hi)) :
    ∀ f i, i ≤ n → n - i < f → wY_components_8 post (nI n) ed re hi f (nI (cn_c (gr_own E) i)) (nI i) := by
  intro f
  induction f with
  | zero => intro i _ h; omega
  | succ f ih =>
    intro i hi hf
    refine pk_le n i (fun z => ?_) (fun z => ?_)
    · have e : i = n := by omega
      subst e
      exact hp
    · refine yd_h hn z h (fun r hr => ek_if (gr_lead_own (by omega) hr) (fun o => ?_) (fun o => ?_))
      · have h := ih (i + 1) (by omega) (by omega)
        rw [cn_t o] at h
        exact nm_r (nI_1 _) (nm_r (nI_1 i) h)
      · have h := ih (i + 1) (by omega) (by omega)
        rw [cn_f o] at h
        exact nm_r (nI_1 i) h
theorem yc_h (hE : gr_In E n) (hn : n ≤ 16) {ed re hi : Nat → Int32} (hed : mx_M 16 ed E) {post : Int32 → SY → Prop} (hp : ∀ a, mx_M n a (gr_R E) → post (nI (cn_c (gr_own E) n)) (nI n, ed, a, hi)) : wpY_components post (nI n, ed, re, hi) := by
  unfold wpY_components
  dsimp only
  refine yf_h hE hn hed (fun a ha => ?_)
  dsimp only
  exact ⟨n + 1, yc_8 hn post ha (hp a ha) (n + 1) 0 (by omega) (by omega)⟩
end
end
section
/-! the class: the questions -/
section
variable {E : Nat → Nat → Prop} {n : Nat}
theorem xz_4 (hn : n ≤ 16) (post : Int32 → Prop) {s cc : Int32} {eF rF co : Nat → Int32} {P : Nat → Prop} (hs : bb_S s P) (hp : post (nI (cn_c P n))) :
    ∀ f i, i ≤ n → n - i < f → wX_sizeOf_4 post s (nI n) cc eF rF co f (nI (cn_c P i)) (nI i) := by
  intro f
  induction f with
  | zero => intro i _ h; omega
  | succ f ih =>
    intro i hi hf
    refine pk_le n i (fun z => ?_) (fun z => ?_)
    · have e : i = n := by omega
      subst e
      exact hp
    · have h := ih (i + 1) (by omega) (by omega)
      refine xh_b hs (by omega) (fun t => ?_) (fun t => ?_)
      · rw [cn_t t] at h
        exact nm_r (nI_1 _) (nm_r (nI_1 i) h)
      · rw [cn_f t] at h
        exact nm_r (nI_1 i) h
theorem xz_h (hn : n ≤ 16) {post : Int32 → Prop} {s cc : Int32} {eF rF co : Nat → Int32} {P : Nat → Prop} (hs : bb_S s P) (hp : post (nI (cn_c P n))) : wpX_sizeOf post (nI n, cc, eF, rF, co) s :=
  ⟨n + 1, xz_4 hn post hs hp (n + 1) 0 (by omega) (by omega)⟩
/-- the union of the rows of q below i that P names -/
def xu_U (P : Nat → Prop) (q : Nat → Nat → Prop) (i v : Nat) : Prop := ∃ w, w < i ∧ P w ∧ q w v
theorem xu_0 {P : Nat → Prop} {q : Nat → Nat → Prop} : bb_S 0 (xu_U P q 0) := bb_c bb_0 (fun _ _ => ⟨fun z => z.elim, fun ⟨_, z, _⟩ => absurd z (Nat.not_lt_zero _)⟩)
theorem xu_t {P : Nat → Prop} {q : Nat → Nat → Prop} {i : Nat} {x y : Int32} (t : P i) (h : bb_S x (xu_U P q i)) (g : bb_S y (q i)) : bb_S (x ||| y) (xu_U P q (i + 1)) := by
  refine bb_c (bb_or h g) (fun v _ => ⟨fun z => ?_, fun z => ?_⟩)
  · rcases z with ⟨w, a, b, c⟩ | z
    · exact ⟨w, by omega, b, c⟩
    · exact ⟨i, by omega, t, z⟩
  · obtain ⟨w, a, b, c⟩ := z
    by_cases e : w = i
    · subst e
      exact .inr c
    · exact .inl ⟨w, by omega, b, c⟩
theorem xu_f {P : Nat → Prop} {q : Nat → Nat → Prop} {i : Nat} {x : Int32} (t : ¬ P i) (h : bb_S x (xu_U P q i)) : bb_S x (xu_U P q (i + 1)) := by
  refine bb_c h (fun v _ => ⟨fun z => ?_, fun z => ?_⟩)
  · obtain ⟨w, a, b, c⟩ := z
    exact ⟨w, by omega, b, c⟩
  · obtain ⟨w, a, b, c⟩ := z
    by_cases e : w = i
    · subst e
      exact absurd b t
    · exact ⟨w, by omega, b, c⟩
theorem xo_4 (hn : n ≤ 16) (post : Int32 → Prop) {s cc : Int32} {eF rF co : Nat → Int32} {P : Nat → Prop} (hs : bb_S s P) (hr : xs_B n rF (gr_R E)) (hc : xs_B n co (gr_T E)) (hp : ∀ y, bb_S y (xu_U P (fun w v => gr_R E w v ∧ ¬ gr_T E w v) n) → post y) :
    ∀ f i y, i ≤ n → n - i < f → bb_S y (xu_U P (fun w v => gr_R E w v ∧ ¬ gr_T E w v) i) → wX_reachedFromOtherComponents_4 post s (nI n) cc eF rF co f y (nI i) := by
  intro f
  induction f with
  | zero => intro i y _ h; omega
  | succ f ih =>
    intro i y hi hf hI
    refine pk_le n i (fun z => ?_) (fun z => ?_)
    · have e : i = n := by omega
      subst e
      exact hp y hI
    · have ci : (nI i).toNatClampNeg = i := nI_clamp (by omega)
      have vi : vp_in (nI i) 16 := vp_in_nI (by omega) (by omega)
      rw [ci]
      refine xh_b hs (by omega) (fun t => ?_) (fun t => ?_)
      · exact ⟨vi, vi, nm_e (nm_r (nI_1 i) (ih (i + 1) _ (by omega) (by omega) (xu_t t hI (bb_andn (hr i z) (hc i z)))))⟩
      · exact nm_r (nI_1 i) (ih (i + 1) y (by omega) (by omega) (xu_f t hI))
theorem xo_h (hn : n ≤ 16) {post : Int32 → Prop} {s cc : Int32} {eF rF co : Nat → Int32} {P : Nat → Prop} (hs : bb_S s P) (hr : xs_B n rF (gr_R E)) (hc : xs_B n co (gr_T E)) (hp : ∀ y, bb_S y (xu_U P (fun w v => gr_R E w v ∧ ¬ gr_T E w v) n) → post y) : wpX_reachedFromOtherComponents post (nI n, cc, eF, rF, co) s :=
  ⟨n + 1, xo_4 hn post hs hr hc hp (n + 1) 0 0 (by omega) (by omega) xu_0⟩
theorem xg_20 (hE : gr_In E n) (hn : n ≤ 16) {u : Nat} (hu : u < n) (post : Int32 → Prop) {cc : Int32} {eF rF co : Nat → Int32} (hr : xs_B n rF (gr_R E)) (hc : xs_B n co (gr_T E)) (hp : ∀ r, gr_hgt E n u r → post r) :
    ∀ f m h x, m + 1 ≤ n → n - (m + 1) < f → bb_S x (gr_C E n m) → gr_C E n h u → (∀ j, j ≤ m → gr_C E n j u → j ≤ h) → wX_height_20 post (nI u) (nI n) cc eF rF co f (nI h) x (nI (m + 1)) := by
  intro f
  induction f with
  | zero => intro m h x _ z; omega
  | succ f ih =>
    intro m h x hm hf hx ch hj
    refine pk_le n (m + 1) (fun z => ?_) (fun z => ?_)
    · refine hp _ ⟨h, rfl, ch, fun j cj => hj j ?_ cj⟩
      have := gr_Cn hE cj
      omega
    · refine xo_h hn hx hr hc (fun y hy => ?_)
      have hy' : bb_S y (gr_C E n (m + 1)) := bb_c hy (fun v _ => ⟨fun ⟨w, a, b, c, d⟩ => ⟨w, a, b, c, fun t => d ⟨c, t⟩⟩, fun ⟨w, a, b, c, d⟩ => ⟨w, a, b, c, fun t => d t.2⟩⟩)
      refine xh_b hy' (by omega) (fun t => ?_) (fun t => ?_)
      · exact nm_r (nI_1 (m + 1)) (ih (m + 1) (m + 1) y (by omega) (by omega) hy' t (fun j a _ => a))
      · refine nm_r (nI_1 (m + 1)) (ih (m + 1) h y (by omega) (by omega) hy' ch (fun j a b => ?_))
        by_cases e : j = m + 1
        · subst e
          exact absurd b t
        · exact hj j (by omega) b
theorem xe_4 (hn : n ≤ 16) (post : Int32 → Prop) {s cc : Int32} {eF rF co : Nat → Int32} {P : Nat → Prop} (hs : bb_S s P) (he : xs_B n eF E) (hp : ∀ y, bb_S y (xu_U P E n) → post y) :
    ∀ f i y, i ≤ n → n - i < f → bb_S y (xu_U P E i) → wX_oneEdgeFurther_4 post s (nI n) cc eF rF co f y (nI i) := by
  intro f
  induction f with
  | zero => intro i y _ h; omega
  | succ f ih =>
    intro i y hi hf hI
    refine pk_le n i (fun z => ?_) (fun z => ?_)
    · have e : i = n := by omega
      subst e
      exact hp y hI
    · have ci : (nI i).toNatClampNeg = i := nI_clamp (by omega)
      have vi : vp_in (nI i) 16 := vp_in_nI (by omega) (by omega)
      rw [ci]
      refine xh_b hs (by omega) (fun t => ?_) (fun t => ?_)
      · exact ⟨vi, nm_e (nm_r (nI_1 i) (ih (i + 1) _ (by omega) (by omega) (xu_t t hI (he i z))))⟩
      · exact nm_r (nI_1 i) (ih (i + 1) y (by omega) (by omega) (xu_f t hI))
theorem xe_h (hn : n ≤ 16) {post : Int32 → Prop} {s cc : Int32} {eF rF co : Nat → Int32} {P : Nat → Prop} (hs : bb_S s P) (he : xs_B n eF E) (hp : ∀ y, bb_S y (xu_U P E n) → post y) : wpX_oneEdgeFurther post (nI n, cc, eF, rF, co) s :=
  ⟨n + 1, xe_4 hn post hs he hp (n + 1) 0 0 (by omega) (by omega) xu_0⟩
theorem xy_19 (hE : gr_In E n) (hn : n ≤ 16) {u : Nat} (hu : u < n) (post : Int32 → Prop) {cc : Int32} {eF rF co : Nat → Int32} (he : xs_B n eF E) (hp : ∀ r, gr_cyc E n u r → post r) :
    ∀ f l x, 1 ≤ l → l ≤ n + 1 → n + 1 - l < f → bb_S x (gr_W E u l) → (∀ j, 1 ≤ j → j < l → ¬ gr_W E u j u) → wX_cycle_19 post (nI u) (nI n) cc eF rF co f x (nI l) := by
  intro f
  induction f with
  | zero => intro l x _ _ z; omega
  | succ f ih =>
    intro l x h1 hl hf hx hj
    refine pk_lt n l (fun z => ?_) (fun z => ?_)
    · exact hp _ (.inr ⟨rfl, fun j a b => hj j a (by omega)⟩)
    · refine xh_b hx (by omega) (fun t => hp _ (.inl ⟨l, h1, z, rfl, t, hj⟩)) (fun t => xe_h hn hx he (fun y hy => nm_r (nI_1 l) (ih (l + 1) y (by omega) (by omega) (by omega) ?_ ?_)))
      · exact bb_c hy (fun v _ => ⟨fun ⟨w, _, b, c⟩ => ⟨w, b, c⟩, fun ⟨w, b, c⟩ => ⟨w, (hE w v c).1, b, c⟩⟩)
      · intro j a b
        by_cases e : j = l
        · rw [e]; exact t
        · exact hj j a (by omega)
theorem xw_4 (hn : n ≤ 16) (post : Int32 → Prop) {cc : Int32} {eF rF co : Nat → Int32} (he : xs_B n eF E) (hc : xs_B n co (gr_T E)) (hp : post (nI (cn_s (fun u => cn_c (gr_O E u) n) n))) :
    ∀ f i, i ≤ n → n - i < f → wX_outerEdges_4 post (nI n) cc eF rF co f (nI (cn_s (fun u => cn_c (gr_O E u) n) i)) (nI i) := by
  intro f
  induction f with
  | zero => intro i _ h; omega
  | succ f ih =>
    intro i hi hf
    refine pk_le n i (fun z => ?_) (fun z => ?_)
    · have e : i = n := by omega
      subst e
      exact hp
    · have ci : (nI i).toNatClampNeg = i := nI_clamp (by omega)
      have vi : vp_in (nI i) 16 := vp_in_nI (by omega) (by omega)
      rw [ci]
      exact ⟨vi, vi, xz_h hn (P := gr_O E i) (bb_andn (he i z) (hc i z)) (nm_r (nI_add _ _) (nm_r (nI_1 i) (ih (i + 1) (by omega) (by omega))))⟩
/-- all pairs ahead of (u, i) are comparable -/
def xl_I (E : Nat → Nat → Prop) (u i : Nat) : Prop := ∀ x y, (x < u ∧ y < x) ∨ (x = u ∧ y < i) → gr_R E x y ∨ gr_R E y x
theorem xl_12 (hn : n ≤ 16) {u : Nat} (hu : u < n) (post : Int32 → Prop) (J : Int32 → Prop) {cc : Int32} {eF rF co : Nat → Int32} (hr : xs_B n rF (gr_R E)) (h0 : ¬ gr_line E n → post 0) (hJ : xl_I E (u + 1) 0 → J (nI (u + 1))) :
    ∀ f i, i ≤ u → u - i < f → xl_I E u i → wX_inOneLine_12 post J (nI u) (nI n) cc eF rF co f (nI i) := by
  have cu : (nI u).toNatClampNeg = u := nI_clamp (by omega)
  have vu : vp_in (nI u) 16 := vp_in_nI (by omega) (by omega)
  intro f
  induction f with
  | zero => intro i _ h; omega
  | succ f ih =>
    intro i hi hf hI
    refine pk_le u i (fun z => ?_) (fun z => ?_)
    · exact nm_r (nI_1 u) (hJ (fun x y c => hI x y (by omega)))
    · have ci : (nI i).toNatClampNeg = i := nI_clamp (by omega)
      have vi : vp_in (nI i) 16 := vp_in_nI (by omega) (by omega)
      have nx : (gr_R E u i ∨ gr_R E i u) → wX_inOneLine_12 post J (nI u) (nI n) cc eF rF co f (nI (i + 1)) := by
        intro q
        refine ih (i + 1) (by omega) (by omega) (fun x y c => ?_)
        by_cases e : x = u ∧ y = i
        · rw [e.1, e.2]; exact q
        · exact hI x y (by omega)
      rw [cu, ci]
      refine ⟨vu, xh_b (hr u hu) (by omega) (fun t => nm_r (nI_1 i) (nx (.inl t))) (fun t => ⟨vi, xh_b (hr i (by omega)) (by omega) (fun s => nm_r (nI_1 i) (nx (.inr s))) (fun s => h0 (fun l => ?_))⟩)⟩
      exact (l u i hu (by omega)).elim t s
theorem xl_2 (hn : n ≤ 16) (post : Int32 → Prop) {cc : Int32} {eF rF co : Nat → Int32} (hr : xs_B n rF (gr_R E)) (h0 : ¬ gr_line E n → post 0) (h1 : gr_line E n → post 1) :
    ∀ f u, u ≤ n → n - u < f → xl_I E u 0 → wX_inOneLine_2 post (nI n) cc eF rF co f (nI u) := by
  intro f
  induction f with
  | zero => intro u _ h; omega
  | succ f ih =>
    intro u hu hf hI
    refine pk_le n u (fun z => ?_) (fun z => ?_)
    · refine h1 (fun x y hx hy => ?_)
      rcases Nat.lt_trichotomy x y with c | c | c
      · exact (hI y x (by omega)).symm
      · rw [c]; exact .inl (gr_refl E y)
      · exact hI x y (by omega)
    · exact ⟨u + 1, xl_12 hn z post (wX_inOneLine_2 post (nI n) cc eF rF co f) hr h0 (fun h => ih (u + 1) (by omega) (by omega) h) (u + 1) 0 (by omega) (by omega) hI⟩
end
end
section
/-! the reference: the questions -/
section
variable {E : Nat → Nat → Prop} {n : Nat}
theorem yz_18 (hn : n ≤ 16) {u : Nat} (hu : u < n) (post : Int32 → SY → Prop) {ed re hi : Nat → Int32} (h : mx_M n re (gr_R E)) (hp : post (nI (cn_c (gr_T E u) n)) (nI n, ed, re, hi)) :
    ∀ f i, i ≤ n → n - i < f → wY_componentSize_18 post (nI u) (nI n) ed re hi f (nI (cn_c (gr_T E u) i)) (nI i) := by
  intro f
  induction f with
  | zero => intro i _ h; omega
  | succ f ih =>
    intro i him hf
    refine pk_le n i (fun z => ?_) (fun z => ?_)
    · have e : i = n := by omega
      subst e
      exact hp
    · have g := ih (i + 1) (by omega) (by omega)
      refine yt_b hn h hu z (fun t => ?_) (fun t => ?_)
      · rw [cn_t t] at g
        exact nm_r (nI_1 _) (nm_r (nI_1 i) g)
      · rw [cn_f t] at g
        exact nm_r (nI_1 i) g
/-- the cells of a tell h, and each is the length of a chain -/
def rs_H (E : Nat → Nat → Prop) (n : Nat) (a : Nat → Int32) (h : Nat → Nat) : Prop := ∀ v, v < n → a v = nI (h v) ∧ gr_C E n (h v) v
/-- where a round of raising stands: from u to i -/
def rs_I (E : Nat → Nat → Prop) (n : Nat) (a0 : Nat → Int32) (h0 : Nat → Nat) (u i : Nat) (g : Int32) (a : Nat → Int32) : Prop :=
  ∃ h, rs_H E n a h ∧ (∀ v, v < n → h0 v ≤ h v) ∧
  (∀ x y, x < n → y < n → (x < u ∨ (x = u ∧ y < i)) → (gr_T E x y → h0 x ≤ h y) ∧ (gr_O E x y → h0 x + 1 ≤ h y)) ∧ (g = 1 ∨ (g = 0 ∧ a = a0))
theorem ys_104 (hE : gr_In E n) (hn : n ≤ 16) {a0 a ed re : Nat → Int32} {h0 h : Nat → Nat} {u i m : Nat} {g : Int32} (hu : u < n) (hi : i < n) (post : Int32 → SY → Prop) (J4 J : Int32 → Int32 → (Nat → Int32) → (Nat → Int32) → (Nat → Int32) → Prop)
    (hJ : ∀ g a, rs_I E n a0 h0 u (i + 1) g a → J g (nI (i + 1)) ed re a)
    (hH : rs_H E n a h) (h1 : ∀ v, v < n → h0 v ≤ h v) (hP : ∀ x y, x < n → y < n → (x < u ∨ (x = u ∧ y < i)) → (gr_T E x y → h0 x ≤ h y) ∧ (gr_O E x y → h0 x + 1 ≤ h y)) (hg : g = 1 ∨ (g = 0 ∧ a = a0))
    (cm : gr_C E n m i) (hm : h i ≤ m) (mT : gr_T E u i → h0 u ≤ m) (mO : gr_O E u i → h0 u + 1 ≤ m) :
    wY_raise_104 post J4 J g (nI u) (nI i) (nI m) (nI n) ed re a := by
  have ci : (nI i).toNatClampNeg = i := nI_clamp (by omega)
  have vi : vp_in (nI i) 16 := vp_in_nI (by omega) (by omega)
  have bm := gr_Cn hE cm
  have bi := gr_Cn hE (hH i hi).2
  unfold wY_raise_104
  rw [ci, (hH i hi).1]
  refine ⟨vi, pk_le m (h i) (fun z => ?_) (fun z => ?_)⟩
  · refine nm_r (nI_1 i) (hJ g a ⟨h, hH, h1, fun x y a1 a2 c => ?_, hg⟩)
    by_cases e : x = u ∧ y = i
    · rw [e.1, e.2]
      exact ⟨fun t => by have := mT t; omega, fun t => by have := mO t; omega⟩
    · exact hP x y a1 a2 (by omega)
  · refine ⟨vi, nm_e (nm_r (nI_1 i) (hJ 1 _ ⟨fun v => if v = i then m else h v, ?_, ?_, ?_, .inl rfl⟩))⟩
    · intro v hv
      by_cases e : v = i
      · subst e
        rw [pk_us]
        dsimp only
        rw [if_pos rfl]
        exact ⟨rfl, cm⟩
      · rw [pk_un e]
        dsimp only
        rw [if_neg e]
        exact hH v hv
    · intro v hv
      have := h1 v hv
      dsimp only
      by_cases e : v = i
      · subst e
        rw [if_pos rfl]; omega
      · rw [if_neg e]; omega
    · intro x y a1 a2 c
      dsimp only
      by_cases e : y = i
      · subst e
        rw [if_pos rfl]
        by_cases e2 : x = u
        · subst e2
          exact ⟨mT, mO⟩
        · have := hP x y a1 a2 (by omega)
          exact ⟨fun t => by have := this.1 t; omega, fun t => by have := this.2 t; omega⟩
      · rw [if_neg e]
        exact hP x y a1 a2 (by omega)
theorem ys_58 (hE : gr_In E n) (hn : n ≤ 16) {a0 a ed re : Nat → Int32} {h0 h : Nat → Nat} {u i m : Nat} {g : Int32} (hu : u < n) (hi : i < n) (hed : mx_M 16 ed E) (hre : mx_M n re (gr_R E)) (post : Int32 → SY → Prop) (J4 J : Int32 → Int32 → (Nat → Int32) → (Nat → Int32) → (Nat → Int32) → Prop)
    (hJ : ∀ g a, rs_I E n a0 h0 u (i + 1) g a → J g (nI (i + 1)) ed re a)
    (hH : rs_H E n a h) (h1 : ∀ v, v < n → h0 v ≤ h v) (hP : ∀ x y, x < n → y < n → (x < u ∨ (x = u ∧ y < i)) → (gr_T E x y → h0 x ≤ h y) ∧ (gr_O E x y → h0 x + 1 ≤ h y)) (hg : g = 1 ∨ (g = 0 ∧ a = a0))
    (cm : gr_C E n m i) (hm : h i ≤ m) (mT : gr_T E u i → h0 u ≤ m) :
    wY_raise_58 post J4 J g (nI u) (nI i) (nI m) (nI n) ed re a := by
  have cu : (nI u).toNatClampNeg = u := nI_clamp (by omega)
  have vu : vp_in (nI u) 16 := vp_in_nI (by omega) (by omega)
  have bm := gr_Cn hE cm
  have bu := gr_Cn hE (hH u hu).2
  have b1 := h1 u hu
  unfold wY_raise_58
  rw [cu, yb_c (show u < 16 by omega) (show i < 16 by omega), (hH u hu).1, nI_1]
  refine ⟨yb_v (by omega) (by omega), ek_if (mx_0 hed (show u < 16 by omega) (show i < 16 by omega)) (fun z => ?_) (fun z => ?_)⟩
  · exact ys_104 hE hn hu hi post J4 J hJ hH h1 hP hg cm hm mT (fun o => absurd o.1 z)
  · have z' : E u i := Classical.byContradiction z
    refine yt_b hn hre hu hi (fun t => ?_) (fun t => ?_)
    · exact ys_104 hE hn hu hi post J4 J hJ hH h1 hP hg cm hm mT (fun o => absurd t o.2)
    · refine ⟨vu, pk_le (h u + 1) m (fun y => ?_) (fun y => ⟨vu, nm_e ?_⟩)⟩
      · exact ys_104 hE hn hu hi post J4 J hJ hH h1 hP hg cm hm mT (fun _ => by omega)
      · exact ys_104 hE hn hu hi post J4 J hJ hH h1 hP hg ⟨u, hu, (hH u hu).2, gr_edge z', fun q => t ⟨gr_edge z', q⟩⟩ (by omega) (fun q => absurd q t) (fun _ => by omega)
theorem ys_14 (hE : gr_In E n) (hn : n ≤ 16) {a0 ed re : Nat → Int32} {h0 : Nat → Nat} {u : Nat} (hu : u < n) (hed : mx_M 16 ed E) (hre : mx_M n re (gr_R E)) (post : Int32 → SY → Prop) (J4 : Int32 → Int32 → (Nat → Int32) → (Nat → Int32) → (Nat → Int32) → Prop)
    (hJ : ∀ g a, rs_I E n a0 h0 (u + 1) 0 g a → J4 g (nI (u + 1)) ed re a) :
    ∀ f i g a, i ≤ n → n - i < f → rs_I E n a0 h0 u i g a → wY_raise_14 post J4 (nI u) (nI n) f g (nI i) ed re a := by
  have cu : (nI u).toNatClampNeg = u := nI_clamp (by omega)
  have vu : vp_in (nI u) 16 := vp_in_nI (by omega) (by omega)
  intro f
  induction f with
  | zero => intro i g a _ h; omega
  | succ f ih =>
    intro i g a him hf hI
    obtain ⟨h, hH, h1, hP, hg⟩ := hI
    refine pk_le n i (fun z => ?_) (fun z => ?_)
    · exact nm_r (nI_1 u) (hJ g a ⟨h, hH, h1, fun x y a1 a2 c => hP x y a1 a2 (by omega), hg⟩)
    · have ci : (nI i).toNatClampNeg = i := nI_clamp (by omega)
      have vi : vp_in (nI i) 16 := vp_in_nI (by omega) (by omega)
      have bi := gr_Cn hE (hH i z).2
      have bu := gr_Cn hE (hH u hu).2
      have b1 := h1 u hu
      have nx : ∀ g a, rs_I E n a0 h0 u (i + 1) g a → wY_raise_14 post J4 (nI u) (nI n) f g (nI (i + 1)) ed re a := fun g a r => ih (i + 1) g a (by omega) (by omega) r
      rw [ci, cu, (hH i z).1, (hH u hu).1]
      refine ⟨vi, nm_e (yt_b hn hre hu z (fun t => ⟨vu, pk_le (h u) (h i) (fun y => ?_) (fun y => ⟨vu, nm_e ?_⟩)⟩) (fun t => ?_))⟩
      · exact ys_58 hE hn hu z hed hre post J4 _ nx hH h1 hP hg (hH i z).2 (Nat.le_refl _) (fun _ => by omega)
      · exact ys_58 hE hn hu z hed hre post J4 _ nx hH h1 hP hg (gr_Cup hE (hH u hu).2 t.1) (by omega) (fun _ => b1)
      · exact ys_58 hE hn hu z hed hre post J4 _ nx hH h1 hP hg (hH i z).2 (Nat.le_refl _) (fun q => absurd q t)
theorem ys_4 (hE : gr_In E n) (hn : n ≤ 16) {a0 ed re : Nat → Int32} {h0 : Nat → Nat} (hed : mx_M 16 ed E) (hre : mx_M n re (gr_R E)) (post : Int32 → SY → Prop)
    (hp : ∀ g a, rs_I E n a0 h0 n 0 g a → post g (nI n, ed, re, a)) :
    ∀ f u g a, u ≤ n → n - u < f → rs_I E n a0 h0 u 0 g a → wY_raise_4 post (nI n) f g (nI u) ed re a := by
  intro f
  induction f with
  | zero => intro u g a _ h; omega
  | succ f ih =>
    intro u g a hu hf hI
    refine pk_le n u (fun z => ?_) (fun z => ?_)
    · have e : u = n := by omega
      subst e
      have hI' := hI
      obtain ⟨h, _, _, _, hg⟩ := hI'
      exact ⟨yb_g hg, hp g a hI⟩
    · exact ⟨n + 1, ys_14 hE hn z hed hre post (wY_raise_4 post (nI n) f) (fun g' a' h' => ih (u + 1) g' a' (by omega) (by omega) h') (n + 1) 0 g a (by omega) (by omega) hI⟩
theorem ys_h (hE : gr_In E n) (hn : n ≤ 16) {ed re hi : Nat → Int32} {h0 : Nat → Nat} (hed : mx_M 16 ed E) (hre : mx_M n re (gr_R E)) (hH : rs_H E n hi h0) {post : Int32 → SY → Prop}
    (hp : ∀ g a, rs_I E n hi h0 n 0 g a → post g (nI n, ed, re, a)) : wpY_raise post (nI n, ed, re, hi) :=
  ⟨n + 1, ys_4 hE hn hed hre post hp (n + 1) 0 0 hi (by omega) (by omega) ⟨h0, hH, fun _ _ => Nat.le_refl _, fun x y _ _ c => absurd c (by omega), .inr ⟨rfl, rfl⟩⟩⟩
theorem yg_41 (hE : gr_In E n) (hn : n ≤ 16) {u : Nat} (hu : u < n) {ed re : Nat → Int32} (hed : mx_M 16 ed E) (hre : mx_M n re (gr_R E)) (post : Int32 → SY → Prop) (hp : ∀ r a, gr_hgt E n u r → post r (nI n, ed, re, a)) :
    ∀ f k g a h, k ≤ 40 → 40 - k < f → rs_H E n a h → hg_Q E n k h → (g = 1 ∨ (g = 0 ∧ ∀ j, hg_Q E n j h)) → wY_height_41 post (nI u) f g (nI k) (nI n) ed re a := by
  have cu : (nI u).toNatClampNeg = u := nI_clamp (by omega)
  have vu : vp_in (nI u) 16 := vp_in_nI (by omega) (by omega)
  intro f
  induction f with
  | zero => intro k g a h _ z; omega
  | succ f ih =>
    intro k g a h hk hf hH hQ hg
    refine pk_le 40 k (fun z => ?_) (fun z => ?_)
    · rw [cu, (hH u hu).1]
      exact ⟨vu, hp _ a (hg_end hE hn z hQ (hH u hu).2)⟩
    · rcases hg with rfl | ⟨rfl, hj⟩
      · refine br_f xh_10 (ys_h hE hn hed hre hH (fun g' a' h' => ?_))
        dsimp only
        obtain ⟨h', hH', h1, hP, hg'⟩ := h'
        refine nm_r (nI_1 k) (ih (k + 1) g' a' h' (by omega) (by omega) hH' (hg_s hE h1 (fun x y a1 a2 t => (hP x y a1 a2 (.inl a1)).1 t) (fun x y a1 a2 t => (hP x y a1 a2 (.inl a1)).2 t) hQ) ?_)
        rcases hg' with y | ⟨y, rfl⟩
        · exact .inl y
        · have eq : ∀ v, v < n → h' v = h v := by
            intro v hv
            have e := (hH' v hv).1.symm.trans (hH v hv).1
            have b1 := gr_Cn hE (hH' v hv).2
            have b2 := gr_Cn hE (hH v hv).2
            exact (nI_eq (by omega) (by omega)).mp e
          refine .inr ⟨y, hg_all hE (fun x y a1 a2 t => ?_) (fun x y a1 a2 t => ?_)⟩
          · rw [eq x a1]; exact (hP x y a1 a2 (.inl a1)).1 t
          · rw [eq x a1]; exact (hP x y a1 a2 (.inl a1)).2 t
      · rw [cu, (hH u hu).1]
        exact br_t rfl ⟨vu, hp _ a (hg_end hE hn (Nat.le_refl 40) (hj 40) (hH u hu).2)⟩
theorem yg_16 (hE : gr_In E n) (hn : n ≤ 16) {u : Nat} (hu : u < n) {ed re : Nat → Int32} (hed : mx_M 16 ed E) (hre : mx_M n re (gr_R E)) (post : Int32 → SY → Prop) (hp : ∀ r a, gr_hgt E n u r → post r (nI n, ed, re, a)) :
    ∀ f i a, i ≤ n → n - i < f → (∀ v, v < i → a v = 0) → wY_height_16 post (nI u) (nI n) f (nI i) ed re a := by
  intro f
  induction f with
  | zero => intro i a _ z; omega
  | succ f ih =>
    intro i a him hf hI
    refine pk_le n i (fun z => ?_) (fun z => ?_)
    · exact ⟨41, yg_41 hE hn hu hed hre post hp 41 0 1 a (fun _ => 0) (by omega) (by omega) (fun v hv => ⟨hI v (by omega), hv⟩) hg_0 (.inl rfl)⟩
    · have ci : (nI i).toNatClampNeg = i := nI_clamp (by omega)
      have vi : vp_in (nI i) 16 := vp_in_nI (by omega) (by omega)
      rw [ci]
      refine ⟨vi, nm_e (nm_r (nI_1 i) (ih (i + 1) _ (by omega) (by omega) (fun v hv => ?_)))⟩
      by_cases e : v = i
      · rw [e, pk_us]
      · rw [pk_un e]; exact hI v (by omega)
/-- what one edge more reaches, by the cells below x -/
def yy_U (E : Nat → Nat → Prop) (P : Nat → Prop) (x v : Nat) : Prop := ∃ w, v < 16 ∧ 16 * w + v < x ∧ P w ∧ E w v
theorem yy_30 (hE : gr_In E n) (hn : n ≤ 16) {u l : Nat} (hu : u < n) {at0 fn : Int32} {P : Nat → Prop} (hP : bb_S at0 P) {ed re hi : Nat → Int32} (hed : mx_M 16 ed E) (post : Int32 → Prop) (J : Int32 → Int32 → Prop)
    (h1 : (∃ w, P w ∧ E w u) → post (nI l)) (hJ : ∀ x, bb_S x (fun v => ∃ w, P w ∧ E w v) → ¬ (∃ w, P w ∧ E w u) → J x (nI (l + 1))) :
    ∀ f x s, x ≤ 256 → 256 - x < f → bb_S s (yy_U E P x) → wY_cycle_30 post J (nI u) at0 (nI l) fn ed re hi f s (nI x) := by
  intro f
  induction f with
  | zero => intro x s _ h; omega
  | succ f ih =>
    intro x s hx hf hI
    refine pk_le 256 x (fun z => ?_) (fun z => ?_)
    · have hI' : bb_S s (fun v => ∃ w, P w ∧ E w v) := bb_c hI (fun v _ => ⟨fun ⟨w, _, _, c⟩ => ⟨w, c⟩, fun ⟨w, c⟩ => ⟨w, by have := (hE w v c.2).2; omega, by have := hE w v c.2; omega, c⟩⟩)
      exact ek_if (bb_h1 hI' (l := u) (by omega)) h1 (fun y => nm_r (nI_1 l) (hJ s hI' y))
    · have cx : (nI x).toNatClampNeg = x := nI_clamp (by omega)
      have vx : vp_in (nI x) 256 := vp_in_nI z (by omega)
      have mx : ed x = 0 ↔ ¬ E (x / 16) (x % 16) := by
        have := mx_0 hed (u := x / 16) (v := x % 16) (by omega) (by omega)
        rw [yb_x] at this
        exact this
      have sk : ¬ (P (x / 16) ∧ E (x / 16) (x % 16)) → wY_cycle_30 post J (nI u) at0 (nI l) fn ed re hi f s (nI (x + 1)) := by
        intro q
        refine ih (x + 1) s (by omega) (by omega) (bb_c hI (fun v _ => ⟨fun ⟨w, a, b, c⟩ => ⟨w, a, by omega, c⟩, fun ⟨w, a, b, c⟩ => ⟨w, a, ?_, c⟩⟩))
        by_cases e : 16 * w + v = x
        · have e1 : w = x / 16 := by omega
          have e2 : v = x % 16 := by omega
          subst e1 e2
          exact absurd c q
        · omega
      rw [cx, yb_4 z, yb_15 z]
      refine ⟨vx, ek_if mx (fun y => nm_r (nI_1 x) (sk (fun q => y q.2))) (fun y => ek_if (bb_h1 hP (l := x / 16) (by omega)) (fun t => ?_) (fun t => nm_r (nI_1 x) (sk (fun q => t q.1))))⟩
      have y' : E (x / 16) (x % 16) := Classical.byContradiction y
      refine nm_e (nm_r (nI_1 x) (ih (x + 1) _ (by omega) (by omega) (bb_c (bb_or hI (bb_one (l := x % 16) (by omega))) (fun v _ => ⟨fun q => ?_, fun q => ?_⟩))))
      · rcases q with ⟨w, a, b, c⟩ | q
        · exact ⟨w, a, by omega, c⟩
        · subst q
          exact ⟨x / 16, by omega, by omega, t, y'⟩
      · obtain ⟨w, a, b, c⟩ := q
        by_cases e : 16 * w + v = x
        · exact .inr (by omega)
        · exact .inl ⟨w, a, by omega, c⟩
theorem yy_16 (hE : gr_In E n) (hn : n ≤ 16) {u : Nat} (hu : u < n) {ed re hi : Nat → Int32} (hed : mx_M 16 ed E) (post : Int32 → Prop) (hp : ∀ r, gr_cyc E n u r → post r) :
    ∀ f l s, l ≤ n → n - l < f → bb_S s (gr_W E u l) → (∀ j, 1 ≤ j → j ≤ l → ¬ gr_W E u j u) → wY_cycle_16 post (nI u) (nI n) ed re hi f s (nI (l + 1)) := by
  intro f
  induction f with
  | zero => intro l s _ z; omega
  | succ f ih =>
    intro l s hl hf hs hj
    refine pk_lt n (l + 1) (fun z => ?_) (fun z => ⟨257, ?_⟩)
    · exact hp _ (.inr ⟨rfl, fun j a b => hj j a (by omega)⟩)
    · refine yy_30 hE hn hu hs hed post (wY_cycle_16 post (nI u) (nI n) ed re hi f) (fun t => hp _ (.inl ⟨l + 1, by omega, z, rfl, t, fun j a b => hj j a (by omega)⟩)) (fun x hx t => ?_) 257 0 0 (by omega) (by omega) (bb_c bb_0 (fun v _ => ⟨fun q => q.elim, fun ⟨w, _, b, _⟩ => absurd b (Nat.not_lt_zero _)⟩))
      refine ih (l + 1) x (by omega) (by omega) hx (fun j a b => ?_)
      by_cases e : j = l + 1
      · subst e
        exact t
      · exact hj j a (by omega)
theorem yw_8 (hE : gr_In E n) (hn : n ≤ 16) {ed re hi : Nat → Int32} (hed : mx_M 16 ed E) (hre : mx_M n re (gr_R E)) (post : Int32 → SY → Prop) (hp : post (nI (cn_c (fun x => gr_O E (x / 16) (x % 16)) 256)) (nI n, ed, re, hi)) :
    ∀ f x, x ≤ 256 → 256 - x < f → wY_outerEdges_8 post (nI n) ed re hi f (nI (cn_c (fun x => gr_O E (x / 16) (x % 16)) x)) (nI x) := by
  intro f
  induction f with
  | zero => intro x _ h; omega
  | succ f ih =>
    intro x hx hf
    refine pk_le 256 x (fun z => ?_) (fun z => ?_)
    · have e : x = 256 := by omega
      subst e
      exact hp
    · have cx : (nI x).toNatClampNeg = x := nI_clamp (by omega)
      have vx : vp_in (nI x) 256 := vp_in_nI z (by omega)
      have mx : ed x = 0 ↔ ¬ E (x / 16) (x % 16) := by
        have := mx_0 hed (u := x / 16) (v := x % 16) (by omega) (by omega)
        rw [yb_x] at this
        exact this
      have h := ih (x + 1) (by omega) (by omega)
      have sk : ¬ gr_O E (x / 16) (x % 16) → wY_outerEdges_8 post (nI n) ed re hi f (nI (cn_c (fun x => gr_O E (x / 16) (x % 16)) x)) (nI (x + 1)) := by
        intro q
        rw [cn_f (p := fun x => gr_O E (x / 16) (x % 16)) q] at h
        exact h
      rw [cx, yb_4 z, yb_15 z]
      refine ⟨vx, ek_if mx (fun y => nm_r (nI_1 x) (sk (fun q => y q.1))) (fun y => ?_)⟩
      have y' : E (x / 16) (x % 16) := Classical.byContradiction y
      refine yt_b hn hre (hE _ _ y').1 (hE _ _ y').2 (fun t => nm_r (nI_1 x) (sk (fun q => q.2 t))) (fun t => ?_)
      rw [cn_t (p := fun x => gr_O E (x / 16) (x % 16)) ⟨y', t⟩] at h
      exact nm_r (nI_1 _) (nm_r (nI_1 x) h)
def yi_I (E : Nat → Nat → Prop) (n u i : Nat) : Prop := ∀ x y, x < n → y < n → (x < u ∨ (x = u ∧ y < i)) → gr_R E x y ∨ gr_R E y x
theorem yi_16 (hn : n ≤ 16) {u : Nat} (hu : u < n) (post : Int32 → SY → Prop) (J : Int32 → Prop) {ed re hi : Nat → Int32} (hre : mx_M n re (gr_R E)) (h0 : ¬ gr_line E n → post 0 (nI n, ed, re, hi)) (hJ : yi_I E n (u + 1) 0 → J (nI (u + 1))) :
    ∀ f i, i ≤ n → n - i < f → yi_I E n u i → wY_inOneLine_16 post J (nI u) (nI n) ed re hi f (nI i) := by
  intro f
  induction f with
  | zero => intro i _ h; omega
  | succ f ih =>
    intro i him hf hI
    refine pk_le n i (fun z => ?_) (fun z => ?_)
    · exact nm_r (nI_1 u) (hJ (fun x y a1 a2 c => hI x y a1 a2 (by omega)))
    · have nx : (gr_R E u i ∨ gr_R E i u) → wY_inOneLine_16 post J (nI u) (nI n) ed re hi f (nI (i + 1)) := by
        intro q
        refine ih (i + 1) (by omega) (by omega) (fun x y a1 a2 c => ?_)
        by_cases e : x = u ∧ y = i
        · rw [e.1, e.2]; exact q
        · exact hI x y a1 a2 (by omega)
      have u16 : u < 16 := by omega
      have i16 : i < 16 := by omega
      rw [yb_c u16 i16, yb_c i16 u16]
      refine ⟨yb_v u16 i16, ek_if (mx_0 hre hu z) (fun t => ⟨yb_v i16 u16, ek_if (mx_0 hre z hu) (fun s => h0 (fun l => ?_)) (fun s => nm_r (nI_1 i) (nx (.inr (Classical.byContradiction s))))⟩) (fun t => nm_r (nI_1 i) (nx (.inl (Classical.byContradiction t))))⟩
      exact (l u i hu z).elim t s
theorem yi_6 (hn : n ≤ 16) (post : Int32 → SY → Prop) {ed re hi : Nat → Int32} (hre : mx_M n re (gr_R E)) (h0 : ¬ gr_line E n → post 0 (nI n, ed, re, hi)) (h1 : gr_line E n → post 1 (nI n, ed, re, hi)) :
    ∀ f u, u ≤ n → n - u < f → yi_I E n u 0 → wY_inOneLine_6 post (nI n) ed re hi f (nI u) := by
  intro f
  induction f with
  | zero => intro u _ h; omega
  | succ f ih =>
    intro u hu hf hI
    refine pk_le n u (fun z => ?_) (fun z => ?_)
    · exact h1 (fun x y hx hy => hI x y hx hy (by omega))
    · exact ⟨n + 1, yi_16 hn z post (wY_inOneLine_6 post (nI n) ed re hi f) hre h0 (fun h => ih (u + 1) (by omega) (by omega) h) (n + 1) 0 (by omega) (by omega) hI⟩
end
end
section
/-! the public methods, each side by itself -/
/-- p is no vertex -/
def vx_bad (n : Nat) (p : Int32) : Prop := p < 0 ∨ (¬ p < 0 ∧ nI n ≤ p)
theorem vx_case {n : Nat} (hn : n ≤ 16) (p : Int32) : (∃ j, j < n ∧ p = nI j) ∨ vx_bad n p := by
  by_cases z : p < 0
  · exact .inr (.inl z)
  · rcases pk_ix p (n := n) (by omega) with h | h | ⟨j, hj, e⟩
    · exact .inr (.inl h)
    · exact .inr (.inr ⟨z, h⟩)
    · exact .inl ⟨j, hj, e⟩
theorem vx_no {n : Nat} (hn : n ≤ 16) {j : Nat} (hj : j < n) : ¬ vx_bad n (nI j) := by
  intro h
  rcases h with h | h
  · exact nI_pos (by omega) h
  · exact nI_ge hj (by omega) h.2
section
variable {E : Nat → Nat → Prop} {n : Nat}
theorem xv_t (hn : n ≤ 16) {j : Nat} (hj : j < n) {post : Int32 → Prop} {cc : Int32} {eF rF co : Nat → Int32} (h : post 1) : wpX_isVertex post (nI n, cc, eF, rF, co) (nI j) :=
  br_f (nI_pos (by omega)) (br_f (nI_ge hj (by omega)) h)
theorem xv_f {p : Int32} (b : vx_bad n p) {post : Int32 → Prop} {cc : Int32} {eF rF co : Nat → Int32} (h : post 0) : wpX_isVertex post (nI n, cc, eF, rF, co) p := by
  rcases b with b | b
  · exact br_t b h
  · exact br_f b.1 (br_t b.2 h)
theorem xv_bt (hn : n ≤ 16) {j : Nat} (hj : j < n) {A B : Prop} {cc : Int32} {eF rF co : Nat → Int32} (h : B) : wpX_isVertex (fun r => (r = 0 → A) ∧ (¬ r = 0 → B)) (nI n, cc, eF, rF, co) (nI j) := xv_t hn hj (br_f xh_10 h)
theorem xv_bf {p : Int32} (b : vx_bad n p) {A B : Prop} {cc : Int32} {eF rF co : Nat → Int32} (h : A) : wpX_isVertex (fun r => (r = 0 → A) ∧ (¬ r = 0 → B)) (nI n, cc, eF, rF, co) p := xv_f b (br_t rfl h)
theorem yv_t (hn : n ≤ 16) {j : Nat} (hj : j < n) {post : Int32 → Prop} {ed re hi : Nat → Int32} (h : post 1) : wpY_isVertex post (nI n, ed, re, hi) (nI j) :=
  br_f (nI_pos (by omega)) (br_f (nI_ge hj (by omega)) h)
theorem yv_f {p : Int32} (b : vx_bad n p) {post : Int32 → Prop} {ed re hi : Nat → Int32} (h : post 0) : wpY_isVertex post (nI n, ed, re, hi) p := by
  rcases b with b | b
  · exact br_t b h
  · exact br_f b.1 (br_t b.2 h)
theorem yv_bt (hn : n ≤ 16) {j : Nat} (hj : j < n) {A B : Prop} {ed re hi : Nat → Int32} (h : B) : wpY_isVertex (fun r => (r = 0 → A) ∧ (¬ r = 0 → B)) (nI n, ed, re, hi) (nI j) := yv_t hn hj (br_f xh_10 h)
theorem yv_bf {p : Int32} (b : vx_bad n p) {A B : Prop} {ed re hi : Nat → Int32} (h : A) : wpY_isVertex (fun r => (r = 0 → A) ∧ (¬ r = 0 → B)) (nI n, ed, re, hi) p := yv_f b (br_t rfl h)
/-- p, q are no pair of two vertices -/
def vx_np (n : Nat) (p q : Int32) : Prop := vx_bad n p ∨ vx_bad n q ∨ p = q
theorem vx_pair (hn : n ≤ 16) (p q : Int32) : vx_np n p q ∨ ∃ a b, a < n ∧ b < n ∧ p = nI a ∧ q = nI b ∧ ¬ nI a = nI b := by
  rcases vx_case hn p with ⟨a, ha, rfl⟩ | c
  · rcases vx_case hn q with ⟨b, hb, rfl⟩ | c
    · by_cases e : nI a = nI b
      · exact .inl (.inr (.inr e))
      · exact .inr ⟨a, b, ha, hb, rfl, rfl, e⟩
    · exact .inl (.inr (.inl c))
  · exact .inl (.inl c)
theorem xp_0 (hn : n ≤ 16) {p q : Int32} (h : vx_np n p q) {post : Int32 → Prop} {cc : Int32} {eF rF co : Nat → Int32} (hp : post 0) : wpX_isPair post (nI n, cc, eF, rF, co) p q := by
  unfold wpX_isPair
  dsimp only
  rcases vx_case hn p with ⟨a, ha, rfl⟩ | c
  · refine xv_bt hn ha ?_
    rcases vx_case hn q with ⟨b, hb, rfl⟩ | c
    · refine xv_bt hn hb (br_t ?_ hp)
      rcases h with h | h | h
      · exact absurd h (vx_no hn ha)
      · exact absurd h (vx_no hn hb)
      · exact h
    · exact xv_bf c hp
  · exact xv_bf c hp
theorem xp_1 (hn : n ≤ 16) {a b : Nat} (ha : a < n) (hb : b < n) (e : ¬ nI a = nI b) {post : Int32 → Prop} {cc : Int32} {eF rF co : Nat → Int32} (hp : post 1) : wpX_isPair post (nI n, cc, eF, rF, co) (nI a) (nI b) := by
  unfold wpX_isPair
  dsimp only
  exact xv_bt hn ha (xv_bt hn hb (br_f e hp))
theorem ya_0 (hn : n ≤ 16) {p q : Int32} (h : vx_np n p q) {post : Int32 → SY → Prop} {ed re hi : Nat → Int32} (hp : post (-1) (nI n, ed, re, hi)) : wpY_addEdge post (nI n, ed, re, hi) p q := by
  unfold wpY_addEdge
  dsimp only
  rcases vx_case hn p with ⟨a, ha, rfl⟩ | c
  · refine yv_bt hn ha ?_
    rcases vx_case hn q with ⟨b, hb, rfl⟩ | c
    · refine yv_bt hn hb (br_t ?_ hp)
      rcases h with h | h | h
      · exact absurd h (vx_no hn ha)
      · exact absurd h (vx_no hn hb)
      · exact h
    · exact yv_bf c hp
  · exact yv_bf c hp
theorem ye_0 (hn : n ≤ 16) {p q : Int32} (h : vx_np n p q) {post : Int32 → SY → Prop} {ed re hi : Nat → Int32} (hp : post (-1) (nI n, ed, re, hi)) : wpY_removeEdge post (nI n, ed, re, hi) p q := by
  unfold wpY_removeEdge
  dsimp only
  rcases vx_case hn p with ⟨a, ha, rfl⟩ | c
  · refine yv_bt hn ha ?_
    rcases vx_case hn q with ⟨b, hb, rfl⟩ | c
    · refine yv_bt hn hb (br_t ?_ hp)
      rcases h with h | h | h
      · exact absurd h (vx_no hn ha)
      · exact absurd h (vx_no hn hb)
      · exact h
    · exact yv_bf c hp
  · exact yv_bf c hp
/-- the graph with the edge, without it -/
def gr_add (E : Nat → Nat → Prop) (a b x y : Nat) : Prop := E x y ∨ (x = a ∧ y = b)
def gr_del (E : Nat → Nat → Prop) (a b x y : Nat) : Prop := E x y ∧ ¬ (x = a ∧ y = b)
theorem gr_addIn (hE : gr_In E n) {a b : Nat} (ha : a < n) (hb : b < n) : gr_In (gr_add E a b) n := by
  intro x y h
  rcases h with h | ⟨rfl, rfl⟩
  · exact hE x y h
  · exact ⟨ha, hb⟩
theorem gr_delIn (hE : gr_In E n) {a b : Nat} : gr_In (gr_del E a b) n := fun x y h => hE x y h.1
theorem xs_add {eF : Nat → Int32} (he : xs_B n eF E) {a b : Nat} (ha : a < n) (hb : b < 32) : xs_B n (upd eF a (eF a ||| ((1 : Int32) <<< (nI b &&& 31)))) (gr_add E a b) := by
  refine xs_set he (bb_c (bb_or (he a ha) (bb_one hb)) (fun v _ => ?_)) (fun u v _ _ z => ?_)
  · exact ⟨fun q => q.elim .inl (fun q => .inr ⟨rfl, q⟩), fun q => q.elim .inl (fun q => .inr q.2)⟩
  · exact ⟨.inl, fun q => q.elim id (fun q => absurd q.1 z)⟩
theorem xs_del {eF : Nat → Int32} (he : xs_B n eF E) {a b : Nat} (ha : a < n) (hb : b < 32) : xs_B n (upd eF a (eF a &&& (((1 : Int32) <<< (nI b &&& 31)) ^^^ (-1)))) (gr_del E a b) := by
  refine xs_set he (bb_c (bb_andn (he a ha) (bb_one hb)) (fun v _ => ?_)) (fun u v _ _ z => ?_)
  · exact ⟨fun q => ⟨q.1, fun y => q.2 y.2⟩, fun q => ⟨q.1, fun y => q.2 ⟨rfl, y⟩⟩⟩
  · exact ⟨fun q => ⟨q, fun y => z y.1⟩, fun q => q.1⟩
theorem ya_2 (hn : n ≤ 16) {a b : Nat} (ha : a < n) (hb : b < n) (e : ¬ nI a = nI b) {post : Int32 → SY → Prop} {ed re hi : Nat → Int32} (hed : mx_M 16 ed E) (hab : E a b) (hp : post (-2) (nI n, ed, re, hi)) : wpY_addEdge post (nI n, ed, re, hi) (nI a) (nI b) := by
  have a16 : a < 16 := by omega
  have b16 : b < 16 := by omega
  unfold wpY_addEdge
  dsimp only
  refine yv_bt hn ha (yv_bt hn hb (br_f e ⟨yb_v a16 b16, ?_⟩))
  rw [yb_c a16 b16]
  exact br_f (fun z => (mx_0 hed a16 b16).mp z hab) hp
theorem ya_1 (hE : gr_In E n) (hn : n ≤ 16) {a b : Nat} (ha : a < n) (hb : b < n) (e : ¬ nI a = nI b) {post : Int32 → SY → Prop} {ed re hi : Nat → Int32} (hed : mx_M 16 ed E) (hab : ¬ E a b)
    (hp : ∀ ed' re', mx_M 16 ed' (gr_add E a b) → post (nI (cn_c (gr_own E) n) - nI (cn_c (gr_own (gr_add E a b)) n)) (nI n, ed', re', hi)) : wpY_addEdge post (nI n, ed, re, hi) (nI a) (nI b) := by
  have a16 : a < 16 := by omega
  have b16 : b < 16 := by omega
  have hed' : mx_M 16 (upd ed (16 * a + b) 1) (gr_add E a b) := mx_set (Nat.le_refl 16) hed a16 b16
  unfold wpY_addEdge
  dsimp only
  refine yv_bt hn ha (yv_bt hn hb (br_f e ⟨yb_v a16 b16, ?_⟩))
  rw [yb_c a16 b16, yb_1]
  refine br_t ((mx_0 hed a16 b16).mpr hab) (yc_h hE hn hed (fun x _ => ?_))
  dsimp only
  refine ⟨yb_v a16 b16, nm_e (yc_h (gr_addIn hE ha hb) hn hed' (fun y _ => ?_))⟩
  dsimp only
  exact hp _ y hed'
theorem ye_2 (hn : n ≤ 16) {a b : Nat} (ha : a < n) (hb : b < n) (e : ¬ nI a = nI b) {post : Int32 → SY → Prop} {ed re hi : Nat → Int32} (hed : mx_M 16 ed E) (hab : ¬ E a b) (hp : post (-2) (nI n, ed, re, hi)) : wpY_removeEdge post (nI n, ed, re, hi) (nI a) (nI b) := by
  have a16 : a < 16 := by omega
  have b16 : b < 16 := by omega
  unfold wpY_removeEdge
  dsimp only
  refine yv_bt hn ha (yv_bt hn hb (br_f e ⟨yb_v a16 b16, ?_⟩))
  rw [yb_c a16 b16]
  exact br_t ((mx_0 hed a16 b16).mpr hab) hp
theorem ye_1 (hE : gr_In E n) (hn : n ≤ 16) {a b : Nat} (ha : a < n) (hb : b < n) (e : ¬ nI a = nI b) {post : Int32 → SY → Prop} {ed re hi : Nat → Int32} (hed : mx_M 16 ed E) (hab : E a b)
    (hp : ∀ ed' re', mx_M 16 ed' (gr_del E a b) → post (nI (cn_c (gr_own (gr_del E a b)) n) - nI (cn_c (gr_own E) n)) (nI n, ed', re', hi)) : wpY_removeEdge post (nI n, ed, re, hi) (nI a) (nI b) := by
  have a16 : a < 16 := by omega
  have b16 : b < 16 := by omega
  have hed' : mx_M 16 (upd ed (16 * a + b) 0) (gr_del E a b) := mx_clr (Nat.le_refl 16) hed a16 b16
  unfold wpY_removeEdge
  dsimp only
  refine yv_bt hn ha (yv_bt hn hb (br_f e ⟨yb_v a16 b16, ?_⟩))
  rw [yb_c a16 b16, yb_0]
  refine br_f (fun z => (mx_0 hed a16 b16).mp z hab) (yc_h hE hn hed (fun x _ => ?_))
  dsimp only
  refine ⟨yb_v a16 b16, nm_e (yc_h (gr_delIn hE) hn hed' (fun y _ => ?_))⟩
  dsimp only
  exact hp _ y hed'
theorem yq_leader (hE : gr_In E n) (hn : n ≤ 16) {u : Nat} (hu : u < n) {post : Int32 → SY → Prop} {ed re hi : Nat → Int32} (hed : mx_M 16 ed E) (hp : ∀ r a, gr_lead E u r → post r (nI n, ed, a, hi)) : wpY_leader post (nI n, ed, re, hi) (nI u) := by
  unfold wpY_leader
  dsimp only
  refine yv_bt hn hu (yf_h hE hn hed (fun x hx => ?_))
  dsimp only
  exact yd_h hn hu hx (fun r hr => hp r x hr)
theorem yq_size (hE : gr_In E n) (hn : n ≤ 16) {u : Nat} (hu : u < n) {post : Int32 → SY → Prop} {ed re hi : Nat → Int32} (hed : mx_M 16 ed E) (hp : ∀ a, post (nI (cn_c (gr_T E u) n)) (nI n, ed, a, hi)) : wpY_componentSize post (nI n, ed, re, hi) (nI u) := by
  unfold wpY_componentSize
  dsimp only
  refine yv_bt hn hu (yf_h hE hn hed (fun x hx => ?_))
  dsimp only
  exact ⟨n + 1, yz_18 hn hu post hx (hp x) (n + 1) 0 (by omega) (by omega)⟩
theorem yq_reach (hE : gr_In E n) (hn : n ≤ 16) {u v : Nat} (hu : u < n) (hv : v < n) {post : Int32 → SY → Prop} {ed re hi : Nat → Int32} (hed : mx_M 16 ed E) (h1 : ∀ a, gr_R E u v → post 1 (nI n, ed, a, hi)) (h0 : ∀ a, ¬ gr_R E u v → post 0 (nI n, ed, a, hi)) : wpY_reaches post (nI n, ed, re, hi) (nI u) (nI v) := by
  have u16 : u < 16 := by omega
  have v16 : v < 16 := by omega
  unfold wpY_reaches
  dsimp only
  refine yv_bt hn hu (yv_bt hn hv (yf_h hE hn hed (fun x hx => ?_)))
  dsimp only
  rw [yb_c u16 v16]
  refine ⟨yb_v u16 v16, ?_⟩
  rcases hx u v hu hv with ⟨z, t⟩ | ⟨z, t⟩
  · rw [z]
    exact ⟨rfl, h1 x t⟩
  · rw [z]
    exact ⟨rfl, h0 x t⟩
theorem yq_height (hE : gr_In E n) (hn : n ≤ 16) {u : Nat} (hu : u < n) {post : Int32 → SY → Prop} {ed re hi : Nat → Int32} (hed : mx_M 16 ed E) (hp : ∀ r a b, gr_hgt E n u r → post r (nI n, ed, a, b)) : wpY_height post (nI n, ed, re, hi) (nI u) := by
  unfold wpY_height
  dsimp only
  refine yv_bt hn hu (yf_h hE hn hed (fun x hx => ?_))
  dsimp only
  exact ⟨n + 1, yg_16 hE hn hu hed hx post (fun r b hr => hp r x b hr) (n + 1) 0 hi (by omega) (by omega) (fun v hv => absurd hv (Nat.not_lt_zero v))⟩
theorem yq_cycle (hE : gr_In E n) (hn : n ≤ 16) {u : Nat} (hu : u < n) {post : Int32 → Prop} {ed re hi : Nat → Int32} (hed : mx_M 16 ed E) (hp : ∀ r, gr_cyc E n u r → post r) : wpY_cycle post (nI n, ed, re, hi) (nI u) := by
  unfold wpY_cycle
  dsimp only
  refine yv_bt hn hu (nm_e ⟨n + 1, ?_⟩)
  exact yy_16 hE hn hu hed post hp (n + 1) 0 _ (by omega) (by omega) (bb_one (by omega)) (fun j a b => absurd a (by omega))
theorem yq_outer (hE : gr_In E n) (hn : n ≤ 16) {post : Int32 → SY → Prop} {ed re hi : Nat → Int32} (hed : mx_M 16 ed E) (hp : ∀ a, post (nI (cn_s (fun u => cn_c (gr_O E u) n) n)) (nI n, ed, a, hi)) : wpY_outerEdges post (nI n, ed, re, hi) := by
  unfold wpY_outerEdges
  dsimp only
  refine yf_h hE hn hed (fun x hx => ?_)
  dsimp only
  refine ⟨257, yw_8 hE hn hed hx post ?_ 257 0 (by omega) (by omega)⟩
  rw [gr_out hE hn]
  exact hp x
theorem yq_line (hE : gr_In E n) (hn : n ≤ 16) {post : Int32 → SY → Prop} {ed re hi : Nat → Int32} (hed : mx_M 16 ed E) (h1 : ∀ a, gr_line E n → post 1 (nI n, ed, a, hi)) (h0 : ∀ a, ¬ gr_line E n → post 0 (nI n, ed, a, hi)) : wpY_inOneLine post (nI n, ed, re, hi) := by
  unfold wpY_inOneLine
  dsimp only
  refine yf_h hE hn hed (fun x hx => ?_)
  dsimp only
  exact ⟨n + 1, yi_6 hn post hx (h0 x) (h1 x) (n + 1) 0 (by omega) (by omega) (fun a b _ _ c => absurd c (by omega))⟩
end
end
section
/-! the relation: one graph in both states -/
def st_X (E : Nat → Nat → Prop) (n : Nat) (u : SX) : Prop := ∃ eF rF co, u = (nI n, nI (cn_c (gr_own E) n), eF, rF, co) ∧ xs_B n eF E ∧ xs_B n rF (gr_R E) ∧ xs_B n co (gr_T E)
def st_Y (E : Nat → Nat → Prop) (n : Nat) (v : SY) : Prop := ∃ ed re hi, v = (nI n, ed, re, hi) ∧ mx_M 16 ed E
def i_Rel (_ : Nat) (u : SX) (v : SY) : Prop := ∃ n E, n ≤ 16 ∧ gr_In E n ∧ st_X E n u ∧ st_Y E n v
theorem i_up {k : Nat} {u : SX} {v : SY} (h : i_Rel k u v) : i_Rel (k + 3) u v := h
theorem rl_i {k n : Nat} {E : Nat → Nat → Prop} (hn : n ≤ 16) (hE : gr_In E n) {eF rF co ed re hi : Nat → Int32} (he : xs_B n eF E) (hr : xs_B n rF (gr_R E)) (hc : xs_B n co (gr_T E)) (hed : mx_M 16 ed E) : i_Rel k (nI n, nI (cn_c (gr_own E) n), eF, rF, co) (nI n, ed, re, hi) :=
  ⟨n, E, hn, hE, ⟨eF, rF, co, rfl, he, hr, hc⟩, ⟨ed, re, hi, rfl, hed⟩⟩
theorem rl_0 {n : Nat} (hn : n ≤ 16) {post : SX → Prop} (hp : ∀ u, i_Rel 1 u (nI n, (fun _ => 0), (fun _ => 0), (fun _ => 0)) → post u) : wpX_rebuild post (nI n, 0, (fun _ => 0), (fun _ => 0), (fun _ => 0)) := by
  have hE : gr_In (fun _ _ => False) n := fun _ _ z => z.elim
  have he : xs_B n (fun _ => 0) (fun _ _ => False) := fun _ _ => bb_0
  exact xf_all hE hn he (fun a c ha hc => hp _ (rl_i hn hE he ha hc (fun _ _ _ _ => .inr ⟨rfl, fun z => z⟩)))
theorem i_vc0 (k0 : Int32) : wpX_init (fun u => wpY_init (fun v => i_Rel 1 u v) k0) k0 := by
  unfold wpX_init wpX_clampVertices
  refine br_c (fun h => br_c (fun g => ?_) (fun g => ?_)) (fun h => ?_)
  · obtain ⟨j, hj, rfl⟩ := nI_of2 (x := k0) (M := 16) (n := 16) (by decide) (Int32.not_lt.mpr (Int32.le_trans (by decide) h)) g
    exact rl_0 hj (fun u hu => br_t h (br_t g hu))
  · exact rl_0 (n := 16) (Nat.le_refl 16) (fun u hu => br_t h (br_f g hu))
  · exact rl_0 (n := 2) (by decide) (fun u hu => br_f h hu)
theorem i_vc_addEdge {k : Nat} {u : SX} {v : SY} (I : i_Rel k u v) (hk : k + 3 ≤ 1537) (v1 : Int32) (v2 : Int32) : wpX_addEdge (fun r u' => wpY_addEdge (fun r' v' => r' = r ∧ i_Rel (k + 3) u' v') v v1 v2) u v1 v2 := by
  obtain ⟨n, E, hn, hE, ⟨eF, rF, co, rfl, he, hr, hc⟩, ⟨ed, re, hi, rfl, hed⟩⟩ := I
  unfold wpX_addEdge
  dsimp only
  rcases vx_pair hn v1 v2 with c | ⟨a, b, ha, hb, rfl, rfl, e⟩
  · exact xp_0 hn c (br_t rfl (ya_0 hn c ⟨rfl, rl_i hn hE he hr hc hed⟩))
  · have va : vp_in (nI a) 16 := vp_in_nI (by omega) (by omega)
    have ca : (nI a).toNatClampNeg = a := nI_clamp (by omega)
    have hE' := gr_addIn hE ha hb
    have he' := xs_add he ha (b := b) (by omega)
    refine xp_1 hn ha hb e (br_f xh_10 ⟨va, ?_⟩)
    rw [ca]
    refine xh_b (he a ha) (by omega) (fun t => ya_2 hn ha hb e hed t ⟨rfl, rl_i hn hE he hr hc hed⟩) (fun t => ⟨va, va, nm_e (xf_all hE' hn he' (fun x y hx hy => ?_))⟩)
    dsimp only
    exact ya_1 hE hn ha hb e hed t (fun ed' re' h' => ⟨rfl, rl_i hn hE' he' hx hy h'⟩)
theorem i_vc_removeEdge {k : Nat} {u : SX} {v : SY} (I : i_Rel k u v) (hk : k + 3 ≤ 1537) (v1 : Int32) (v2 : Int32) : wpX_removeEdge (fun r u' => wpY_removeEdge (fun r' v' => r' = r ∧ i_Rel (k + 3) u' v') v v1 v2) u v1 v2 := by
  obtain ⟨n, E, hn, hE, ⟨eF, rF, co, rfl, he, hr, hc⟩, ⟨ed, re, hi, rfl, hed⟩⟩ := I
  unfold wpX_removeEdge
  dsimp only
  rcases vx_pair hn v1 v2 with c | ⟨a, b, ha, hb, rfl, rfl, e⟩
  · exact xp_0 hn c (br_t rfl (ye_0 hn c ⟨rfl, rl_i hn hE he hr hc hed⟩))
  · have va : vp_in (nI a) 16 := vp_in_nI (by omega) (by omega)
    have ca : (nI a).toNatClampNeg = a := nI_clamp (by omega)
    have hE' : gr_In (gr_del E a b) n := gr_delIn hE
    have he' := xs_del he ha (b := b) (by omega)
    refine xp_1 hn ha hb e (br_f xh_10 ⟨va, ?_⟩)
    rw [ca]
    refine xh_b (he a ha) (by omega) (fun t => ⟨va, va, nm_e (xf_all hE' hn he' (fun x y hx hy => ?_))⟩) (fun t => ye_2 hn ha hb e hed t ⟨rfl, rl_i hn hE he hr hc hed⟩)
    dsimp only
    exact ye_1 hE hn ha hb e hed t (fun ed' re' h' => ⟨rfl, rl_i hn hE' he' hx hy h'⟩)
theorem i_vc_components {k : Nat} {u : SX} {v : SY} (I : i_Rel k u v) (hk : k + 3 ≤ 1537) : wpX_components (fun r => wpY_components (fun r' v' => r' = r ∧ i_Rel (k + 3) u v') v) u := by
  obtain ⟨n, E, hn, hE, ⟨eF, rF, co, rfl, he, hr, hc⟩, ⟨ed, re, hi, rfl, hed⟩⟩ := I
  exact yc_h hE hn hed (fun a _ => ⟨rfl, rl_i hn hE he hr hc hed⟩)
theorem i_vc_leader {k : Nat} {u : SX} {v : SY} (I : i_Rel k u v) (hk : k + 3 ≤ 1537) (v1 : Int32) : wpX_leader (fun r => wpY_leader (fun r' v' => r' = r ∧ i_Rel (k + 3) u v') v v1) u v1 := by
  obtain ⟨n, E, hn, hE, ⟨eF, rF, co, rfl, he, hr, hc⟩, ⟨ed, re, hi, rfl, hed⟩⟩ := I
  unfold wpX_leader
  dsimp only
  rcases vx_case hn v1 with ⟨a, ha, rfl⟩ | c
  · exact xv_bt hn ha (xf_small hn ha hc (fun r h => yq_leader hE hn ha hed (fun r' x h' => ⟨gr_lead_u h' h, rl_i hn hE he hr hc hed⟩)))
  · refine xv_bf c ?_
    unfold wpY_leader
    dsimp only
    exact yv_bf c ⟨rfl, rl_i hn hE he hr hc hed⟩
theorem i_vc_componentSize {k : Nat} {u : SX} {v : SY} (I : i_Rel k u v) (hk : k + 3 ≤ 1537) (v1 : Int32) : wpX_componentSize (fun r => wpY_componentSize (fun r' v' => r' = r ∧ i_Rel (k + 3) u v') v v1) u v1 := by
  obtain ⟨n, E, hn, hE, ⟨eF, rF, co, rfl, he, hr, hc⟩, ⟨ed, re, hi, rfl, hed⟩⟩ := I
  unfold wpX_componentSize
  dsimp only
  rcases vx_case hn v1 with ⟨a, ha, rfl⟩ | c
  · have ca : (nI a).toNatClampNeg = a := nI_clamp (by omega)
    rw [ca]
    exact xv_bt hn ha ⟨vp_in_nI (by omega) (by omega), xz_h hn (hc a ha) (yq_size hE hn ha hed (fun x => ⟨rfl, rl_i hn hE he hr hc hed⟩))⟩
  · refine xv_bf c ?_
    unfold wpY_componentSize
    dsimp only
    exact yv_bf c ⟨rfl, rl_i hn hE he hr hc hed⟩
theorem i_vc_reaches {k : Nat} {u : SX} {v : SY} (I : i_Rel k u v) (hk : k + 3 ≤ 1537) (v1 : Int32) (v2 : Int32) : wpX_reaches (fun r => wpY_reaches (fun r' v' => r' = r ∧ i_Rel (k + 3) u v') v v1 v2) u v1 v2 := by
  obtain ⟨n, E, hn, hE, ⟨eF, rF, co, rfl, he, hr, hc⟩, ⟨ed, re, hi, rfl, hed⟩⟩ := I
  unfold wpX_reaches
  dsimp only
  rcases vx_case hn v1 with ⟨a, ha, rfl⟩ | c
  · refine xv_bt hn ha ?_
    rcases vx_case hn v2 with ⟨b, hb, rfl⟩ | c
    · have ca : (nI a).toNatClampNeg = a := nI_clamp (by omega)
      rw [ca]
      refine xv_bt hn hb ⟨vp_in_nI (by omega) (by omega), xh_b (hr a ha) (by omega) (fun t => ?_) (fun t => ?_)⟩
      · exact yq_reach hE hn ha hb hed (fun x _ => ⟨rfl, rl_i hn hE he hr hc hed⟩) (fun x z => absurd t z)
      · exact yq_reach hE hn ha hb hed (fun x z => absurd z t) (fun x _ => ⟨rfl, rl_i hn hE he hr hc hed⟩)
    · refine xv_bf c ?_
      unfold wpY_reaches
      dsimp only
      exact yv_bt hn ha (yv_bf c ⟨rfl, rl_i hn hE he hr hc hed⟩)
  · refine xv_bf c ?_
    unfold wpY_reaches
    dsimp only
    exact yv_bf c ⟨rfl, rl_i hn hE he hr hc hed⟩
theorem i_vc_height {k : Nat} {u : SX} {v : SY} (I : i_Rel k u v) (hk : k + 3 ≤ 1537) (v1 : Int32) : wpX_height (fun r => wpY_height (fun r' v' => r' = r ∧ i_Rel (k + 3) u v') v v1) u v1 := by
  obtain ⟨n, E, hn, hE, ⟨eF, rF, co, rfl, he, hr, hc⟩, ⟨ed, re, hi, rfl, hed⟩⟩ := I
  unfold wpX_height wpX_allVertices
  dsimp only
  rcases vx_case hn v1 with ⟨a, ha, rfl⟩ | c
  · refine xv_bt hn ha ⟨n + 1, ?_⟩
    exact xg_20 hE hn ha _ hr hc (fun r h => yq_height hE hn ha hed (fun r' x y h' => ⟨gr_hgt_u h' h, rl_i hn hE he hr hc hed⟩)) (n + 1) 0 0 _ (by omega) (by omega) (bb_all hn) ha (fun j z _ => z)
  · refine xv_bf c ?_
    unfold wpY_height
    dsimp only
    exact yv_bf c ⟨rfl, rl_i hn hE he hr hc hed⟩
theorem i_vc_cycle {k : Nat} {u : SX} {v : SY} (I : i_Rel k u v) (hk : k + 3 ≤ 1537) (v1 : Int32) : wpX_cycle (fun r => wpY_cycle (fun r' => r' = r ∧ i_Rel (k + 3) u v) v v1) u v1 := by
  obtain ⟨n, E, hn, hE, ⟨eF, rF, co, rfl, he, hr, hc⟩, ⟨ed, re, hi, rfl, hed⟩⟩ := I
  unfold wpX_cycle
  dsimp only
  rcases vx_case hn v1 with ⟨a, ha, rfl⟩ | c
  · have ca : (nI a).toNatClampNeg = a := nI_clamp (by omega)
    rw [ca]
    refine xv_bt hn ha ⟨vp_in_nI (by omega) (by omega), nm_e ⟨n + 1, ?_⟩⟩
    exact xy_19 hE hn ha _ he (fun r h => yq_cycle hE hn ha hed (fun r' h' => ⟨gr_cyc_u h' h, rl_i hn hE he hr hc hed⟩)) (n + 1) 1 _ (by omega) (by omega) (by omega) (bb_c (he a ha) (fun v _ => ⟨fun q => ⟨a, rfl, q⟩, fun ⟨w, z, q⟩ => by have z' : w = a := z; subst z'; exact q⟩)) (fun j x y => absurd x (by omega))
  · refine xv_bf c ?_
    unfold wpY_cycle
    dsimp only
    exact yv_bf c ⟨rfl, rl_i hn hE he hr hc hed⟩
theorem i_vc_outerEdges {k : Nat} {u : SX} {v : SY} (I : i_Rel k u v) (hk : k + 3 ≤ 1537) : wpX_outerEdges (fun r => wpY_outerEdges (fun r' v' => r' = r ∧ i_Rel (k + 3) u v') v) u := by
  obtain ⟨n, E, hn, hE, ⟨eF, rF, co, rfl, he, hr, hc⟩, ⟨ed, re, hi, rfl, hed⟩⟩ := I
  exact ⟨n + 1, xw_4 hn _ he hc (yq_outer hE hn hed (fun x => ⟨rfl, rl_i hn hE he hr hc hed⟩)) (n + 1) 0 (by omega) (by omega)⟩
theorem i_vc_inOneLine {k : Nat} {u : SX} {v : SY} (I : i_Rel k u v) (hk : k + 3 ≤ 1537) : wpX_inOneLine (fun r => wpY_inOneLine (fun r' v' => r' = r ∧ i_Rel (k + 3) u v') v) u := by
  obtain ⟨n, E, hn, hE, ⟨eF, rF, co, rfl, he, hr, hc⟩, ⟨ed, re, hi, rfl, hed⟩⟩ := I
  refine ⟨n + 1, xl_2 hn _ hr (fun l => ?_) (fun l => ?_) (n + 1) 0 (by omega) (by omega) (fun x y c => absurd c (by omega))⟩
  · exact yq_line hE hn hed (fun x z => absurd z l) (fun x _ => ⟨rfl, rl_i hn hE he hr hc hed⟩)
  · exact yq_line hE hn hed (fun x _ => ⟨rfl, rl_i hn hE he hr hc hed⟩) (fun x z => absurd l z)
end
