/-! counting below a bound -/
noncomputable def cn_c (p : Nat → Prop) : Nat → Nat
  | 0 => 0
  | n + 1 => cn_c p n + @ite Nat (p n) (Classical.propDecidable (p n)) 1 0
theorem cn_t {p : Nat → Prop} {n : Nat} (h : p n) : cn_c p (n + 1) = cn_c p n + 1 := by
  show cn_c p n + _ = _
  rw [if_pos h]
theorem cn_f {p : Nat → Prop} {n : Nat} (h : ¬ p n) : cn_c p (n + 1) = cn_c p n := by
  show cn_c p n + _ = _
  rw [if_neg h, Nat.add_zero]
theorem cn_le (p : Nat → Prop) (n : Nat) : cn_c p n ≤ n := by
  induction n with
  | zero => exact Nat.le_refl 0
  | succ n ih =>
    by_cases h : p n
    · rw [cn_t h]; omega
    · rw [cn_f h]; omega
theorem cn_cong {p q : Nat → Prop} {n : Nat} (h : ∀ v, v < n → (p v ↔ q v)) : cn_c p n = cn_c q n := by
  induction n with
  | zero => rfl
  | succ n ih =>
    have e := ih (fun v hv => h v (by omega))
    by_cases z : p n
    · rw [cn_t z, cn_t ((h n (by omega)).mp z), e]
    · rw [cn_f z, cn_f (fun y => z ((h n (by omega)).mpr y)), e]
theorem cn_mono {p q : Nat → Prop} {n : Nat} (h : ∀ v, v < n → p v → q v) : cn_c p n ≤ cn_c q n := by
  induction n with
  | zero => exact Nat.le_refl _
  | succ n ih =>
    have e := ih (fun v hv => h v (by omega))
    by_cases z : p n
    · rw [cn_t z, cn_t (h n (by omega) z)]; omega
    · rw [cn_f z]
      by_cases y : q n
      · rw [cn_t y]; omega
      · rw [cn_f y]; exact e
theorem cn_lt {p q : Nat → Prop} {n w : Nat} (h : ∀ v, v < n → p v → q v) (hw : w < n) (hp : ¬ p w) (hq : q w) : cn_c p n < cn_c q n := by
  induction n with
  | zero => omega
  | succ n ih =>
    by_cases e : w = n
    · subst e
      have m := cn_mono (p := p) (q := q) (n := w) (fun v hv => h v (by omega))
      rw [cn_f hp, cn_t hq]; omega
    · have m := ih (fun v hv => h v (by omega)) (by omega)
      by_cases z : p n
      · rw [cn_t z, cn_t (h n (by omega) z)]; omega
      · rw [cn_f z]
        by_cases y : q n
        · rw [cn_t y]; omega
        · rw [cn_f y]; exact m
theorem cn_none {p : Nat → Prop} {n : Nat} (h : ∀ v, v < n → ¬ p v) : cn_c p n = 0 := by
  induction n with
  | zero => rfl
  | succ n ih => rw [cn_f (h n (by omega))]; exact ih (fun v hv => h v (by omega))
theorem cn_add (p : Nat → Prop) (a b : Nat) : cn_c p (a + b) = cn_c p a + cn_c (fun v => p (a + v)) b := by
  induction b with
  | zero => rfl
  | succ b ih =>
    by_cases z : p (a + b)
    · rw [cn_t (p := fun v => p (a + v)) z, show a + (b + 1) = (a + b) + 1 from rfl, cn_t z, ih]; omega
    · rw [cn_f (p := fun v => p (a + v)) z, show a + (b + 1) = (a + b) + 1 from rfl, cn_f z, ih]
theorem cn_cut {p : Nat → Prop} {n m : Nat} (hm : n ≤ m) (h : ∀ v, p v → v < n) : cn_c p m = cn_c p n := by
  obtain ⟨d, rfl⟩ : ∃ d, m = n + d := ⟨m - n, by omega⟩
  have z : cn_c (fun v => p (n + v)) d = 0 := cn_none (fun v _ y => by have := h _ y; omega)
  rw [cn_add, z, Nat.add_zero]
/-- the sum of f below a bound -/
def cn_s (f : Nat → Nat) : Nat → Nat
  | 0 => 0
  | n + 1 => cn_s f n + f n
theorem cn_s_cong {f g : Nat → Nat} {n : Nat} (h : ∀ v, v < n → f v = g v) : cn_s f n = cn_s g n := by
  induction n with
  | zero => rfl
  | succ n ih =>
    show cn_s f n + f n = cn_s g n + g n
    rw [ih (fun v hv => h v (by omega)), h n (by omega)]
theorem cn_s_cut {f : Nat → Nat} {n m : Nat} (hm : n ≤ m) (h : ∀ v, n ≤ v → f v = 0) : cn_s f m = cn_s f n := by
  obtain ⟨d, rfl⟩ : ∃ d, m = n + d := ⟨m - n, by omega⟩
  clear hm
  induction d with
  | zero => rfl
  | succ d ih =>
    show cn_s f (n + d) + f (n + d) = _
    rw [ih, h (n + d) (by omega), Nat.add_zero]
theorem cn_rows (q : Nat → Nat → Prop) (m : Nat) : cn_c (fun x => q (x / 16) (x % 16)) (16 * m) = cn_s (fun u => cn_c (q u) 16) m := by
  induction m with
  | zero => rfl
  | succ m ih =>
    rw [show 16 * (m + 1) = 16 * m + 16 from by omega, cn_add, ih]
    show _ = cn_s (fun u => cn_c (q u) 16) m + cn_c (q m) 16
    congr 1
    apply cn_cong
    intro v hv
    show q ((16 * m + v) / 16) ((16 * m + v) % 16) ↔ q m v
    rw [show (16 * m + v) / 16 = m from by omega, show (16 * m + v) % 16 = v from by omega]
/-! walks -/
/-- a walk of k edges from u to v -/
def gr_W (E : Nat → Nat → Prop) (u : Nat) : Nat → Nat → Prop
  | 0, v => v = u
  | k + 1, v => ∃ w, gr_W E u k w ∧ E w v
def gr_R (E : Nat → Nat → Prop) (u v : Nat) : Prop := ∃ k, gr_W E u k v
def gr_T (E : Nat → Nat → Prop) (u v : Nat) : Prop := gr_R E u v ∧ gr_R E v u
def gr_In (E : Nat → Nat → Prop) (n : Nat) : Prop := ∀ a b, E a b → a < n ∧ b < n
section
variable {E : Nat → Nat → Prop} {n : Nat}
theorem gr_refl (E : Nat → Nat → Prop) (u : Nat) : gr_R E u u := ⟨0, rfl⟩
theorem gr_step {u w v : Nat} (h : gr_R E u w) (e : E w v) : gr_R E u v := by
  obtain ⟨k, hk⟩ := h
  exact ⟨k + 1, w, hk, e⟩
theorem gr_edge {u v : Nat} (e : E u v) : gr_R E u v := gr_step (gr_refl E u) e
theorem gr_trans {u v w : Nat} (h : gr_R E u v) (g : gr_R E v w) : gr_R E u w := by
  obtain ⟨k, hk⟩ := g
  induction k generalizing w with
  | zero =>
    have e : w = v := hk
    subst e
    exact h
  | succ k ih =>
    obtain ⟨x, hx, e⟩ := hk
    exact gr_step (ih hx) e
theorem gr_Tr (E : Nat → Nat → Prop) (u : Nat) : gr_T E u u := ⟨gr_refl E u, gr_refl E u⟩
theorem gr_Ts {u v : Nat} (h : gr_T E u v) : gr_T E v u := ⟨h.2, h.1⟩
theorem gr_Tt {u v w : Nat} (h : gr_T E u v) (g : gr_T E v w) : gr_T E u w := ⟨gr_trans h.1 g.1, gr_trans g.2 h.2⟩
theorem gr_Win (hE : gr_In E n) {u : Nat} (hu : u < n) : ∀ k v, gr_W E u k v → v < n
  | 0, v, h => by
    have e : v = u := h
    omega
  | _ + 1, _, h => by
    obtain ⟨w, _, e⟩ := h
    exact (hE _ _ e).2
theorem gr_Rin (hE : gr_In E n) {u v : Nat} (hu : u < n) (h : gr_R E u v) : v < n := by
  obtain ⟨k, hk⟩ := h
  exact gr_Win hE hu k v hk
/-- a set that holds u and is closed under edges holds what u reaches -/
theorem gr_least {u : Nat} {P : Nat → Prop} (h0 : P u) (hs : ∀ a b, P a → E a b → P b) {v : Nat} (h : gr_R E u v) : P v := by
  obtain ⟨k, hk⟩ := h
  induction k generalizing v with
  | zero =>
    have e : v = u := hk
    rw [e]; exact h0
  | succ k ih =>
    obtain ⟨x, hx, e⟩ := hk
    exact hs x v (ih hx) e
/-- reached by a walk of at most k edges -/
def gr_B (E : Nat → Nat → Prop) (u k v : Nat) : Prop := ∃ j, j ≤ k ∧ gr_W E u j v
theorem gr_B0 {k u : Nat} : gr_B E u k u := ⟨0, by omega, rfl⟩
theorem gr_Bm {k u v : Nat} (h : gr_B E u k v) : gr_B E u (k + 1) v := by
  obtain ⟨j, hj, w⟩ := h
  exact ⟨j, by omega, w⟩
theorem gr_Bs {k u w v : Nat} (h : gr_B E u k w) (e : E w v) : gr_B E u (k + 1) v := by
  obtain ⟨j, hj, x⟩ := h
  exact ⟨j + 1, by omega, w, x, e⟩
theorem gr_BR {k u v : Nat} (h : gr_B E u k v) : gr_R E u v := by
  obtain ⟨j, _, w⟩ := h
  exact ⟨j, w⟩
theorem gr_Bc {k u v : Nat} (h : gr_B E u (k + 1) v) : gr_B E u k v ∨ ∃ w, gr_B E u k w ∧ E w v := by
  obtain ⟨j, hj, x⟩ := h
  cases j with
  | zero => exact .inl ⟨0, by omega, x⟩
  | succ j =>
    obtain ⟨w, hw, e⟩ := x
    exact .inr ⟨w, ⟨j, by omega, hw⟩, e⟩
theorem gr_grow (hE : gr_In E n) {u : Nat} (hu : u < n) (k : Nat) : (∀ v, gr_R E u v → gr_B E u k v) ∨ k + 1 ≤ cn_c (gr_B E u k) n := by
  induction k with
  | zero =>
    right
    have h := cn_lt (p := fun _ => False) (q := gr_B E u 0) (n := n) (w := u) (fun _ _ z => z.elim) hu (fun z => z) gr_B0
    omega
  | succ k ih =>
    rcases ih with ih | ih
    · exact .inl (fun v hv => gr_Bm (ih v hv))
    · by_cases c : ∃ v, v < n ∧ gr_B E u (k + 1) v ∧ ¬ gr_B E u k v
      · obtain ⟨v, hv, h1, h2⟩ := c
        have h := cn_lt (p := gr_B E u k) (q := gr_B E u (k + 1)) (n := n) (w := v) (fun _ _ z => gr_Bm z) hv h2 h1
        right; omega
      · left
        intro v hv
        apply gr_Bm
        refine gr_least (P := gr_B E u k) gr_B0 (fun a b ha e => ?_) hv
        by_cases z : gr_B E u k b
        · exact z
        · exact absurd ⟨b, (hE a b e).2, gr_Bs ha e, z⟩ c
theorem gr_near (hE : gr_In E n) {u v : Nat} (hu : u < n) (h : gr_R E u v) : gr_B E u n v := by
  rcases gr_grow hE hu n with g | g
  · exact g v h
  · have := cn_le (gr_B E u n) n
    omega
/-! chains of components -/
/-- there is a chain of h steps to v, each from a vertex that is not reached back -/
def gr_C (E : Nat → Nat → Prop) (n : Nat) : Nat → Nat → Prop
  | 0, v => v < n
  | h + 1, v => ∃ u, u < n ∧ gr_C E n h u ∧ gr_R E u v ∧ ¬ gr_R E v u
theorem gr_Cin (hE : gr_In E n) : ∀ h v, gr_C E n h v → v < n
  | 0, _, h => h
  | _ + 1, _, h => by
    obtain ⟨u, hu, _, r, _⟩ := h
    exact gr_Rin hE hu r
theorem gr_Cdown (hE : gr_In E n) : ∀ h v, gr_C E n (h + 1) v → gr_C E n h v
  | 0, v, c => gr_Cin hE 1 v c
  | h + 1, v, c => by
    obtain ⟨u, hu, a, r, z⟩ := c
    exact ⟨u, hu, gr_Cdown hE h u a, r, z⟩
theorem gr_Cle (hE : gr_In E n) {j h v : Nat} (hj : j ≤ h) (c : gr_C E n h v) : gr_C E n j v := by
  obtain ⟨d, rfl⟩ : ∃ d, h = j + d := ⟨h - j, by omega⟩
  clear hj
  induction d with
  | zero => exact c
  | succ d ih => exact ih (gr_Cdown hE _ _ c)
theorem gr_Cup (hE : gr_In E n) {h u v : Nat} (c : gr_C E n h u) (r : gr_R E u v) : gr_C E n h v := by
  have hu := gr_Cin hE h u c
  cases h with
  | zero => exact gr_Rin hE hu r
  | succ h =>
    obtain ⟨x, hx, a, s, z⟩ := c
    exact ⟨x, hx, a, gr_trans s r, fun y => z (gr_trans r y)⟩
theorem gr_Ccn : ∀ h v, gr_C E n h v → h ≤ cn_c (fun x => gr_R E x v ∧ ¬ gr_R E v x) n
  | 0, _, _ => Nat.zero_le _
  | h + 1, v, c => by
    obtain ⟨u, hu, a, r, z⟩ := c
    have i := gr_Ccn h u a
    have l := cn_lt (p := fun x => gr_R E x u ∧ ¬ gr_R E u x) (q := fun x => gr_R E x v ∧ ¬ gr_R E v x) (n := n) (w := u)
      (fun x _ y => ⟨gr_trans y.1 r, fun t => y.2 (gr_trans r t)⟩) hu (fun y => y.2 (gr_refl E u)) ⟨r, z⟩
    omega
theorem gr_Cn (hE : gr_In E n) {h v : Nat} (c : gr_C E n h v) : h < n := by
  have hv := gr_Cin hE h v c
  have a := gr_Ccn h v c
  have l := cn_lt (p := fun x => gr_R E x v ∧ ¬ gr_R E v x) (q := fun _ => True) (n := n) (w := v) (fun _ _ _ => trivial) hv (fun y => y.2 (gr_refl E v)) trivial
  have m := cn_le (fun _ => True) n
  omega
theorem gr_Clast (hE : gr_In E n) {j v : Nat} (c : gr_C E n (j + 1) v) : ∃ w x, gr_C E n j w ∧ E w x ∧ ¬ gr_R E x w ∧ gr_T E x v := by
  obtain ⟨u, hu, a, ⟨k, hk⟩, z⟩ := c
  induction k generalizing v with
  | zero =>
    have e : v = u := hk
    rw [e] at z
    exact absurd (gr_refl E u) z
  | succ k ih =>
    obtain ⟨y, hy, e⟩ := hk
    by_cases r : gr_R E v y
    · obtain ⟨w, x, h1, h2, h3, h4⟩ := ih (fun t => z (gr_trans r t)) hy
      exact ⟨w, x, h1, h2, h3, gr_Tt h4 ⟨gr_edge e, r⟩⟩
    · exact ⟨y, v, gr_Cup hE a ⟨k, hy⟩, e, r, gr_Tr E v⟩
/-- one pass of Warshall's way point w -/
def gr_V (r : Nat → Nat → Prop) (w : Nat) (u v : Nat) : Prop := r u v ∨ (r u w ∧ r w v)
/-- r lies between the edges and reaching, and is closed over the way points below w -/
def gr_P (E : Nat → Nat → Prop) (n w : Nat) (r : Nat → Nat → Prop) : Prop :=
  (∀ u v, u < n → r u v → gr_R E u v) ∧ (∀ u, u < n → r u u) ∧ (∀ u v, E u v → r u v) ∧
  ∀ x u v, x < w → u < n → r u x → r x v → r u v
theorem gr_P0 : gr_P E n 0 (fun u v => E u v ∨ v = u) :=
  ⟨fun u v _ h => h.elim gr_edge (fun e => e ▸ gr_refl E u), fun _ _ => .inr rfl, fun _ _ e => .inl e, fun _ _ _ h => absurd h (Nat.not_lt_zero _)⟩
theorem gr_Ps {w : Nat} (hw : w < n) {r : Nat → Nat → Prop} (h : gr_P E n w r) : gr_P E n (w + 1) (gr_V r w) := by
  obtain ⟨h1, h2, h3, h4⟩ := h
  refine ⟨?_, fun u hu => .inl (h2 u hu), fun u v e => .inl (h3 u v e), ?_⟩
  · intro u v hu c
    rcases c with c | ⟨c, d⟩
    · exact h1 u v hu c
    · exact gr_trans (h1 u w hu c) (h1 w v hw d)
  · intro x u v hx hu a b
    by_cases e : x = w
    · subst e
      have a' : r u x := by
        rcases a with a | ⟨a, _⟩
        · exact a
        · exact a
      have b' : r x v := by
        rcases b with b | ⟨_, b⟩
        · exact b
        · exact b
      exact .inr ⟨a', b'⟩
    · have hx' : x < w := by omega
      rcases a with a | ⟨a, a2⟩ <;> rcases b with b | ⟨b, b2⟩
      · exact .inl (h4 x u v hx' hu a b)
      · exact .inr ⟨h4 x u w hx' hu a b, b2⟩
      · exact .inr ⟨a, h4 x w v hx' hw a2 b⟩
      · exact .inr ⟨a, b2⟩
theorem gr_Pn (hE : gr_In E n) {r : Nat → Nat → Prop} (h : gr_P E n n r) {u : Nat} (hu : u < n) (v : Nat) : r u v ↔ gr_R E u v := by
  obtain ⟨h1, h2, h3, h4⟩ := h
  refine ⟨h1 u v hu, fun g => ?_⟩
  exact gr_least (P := fun v => r u v) (h2 u hu) (fun a b ha e => h4 a u b (hE a b e).1 hu ha (h3 a b e)) g
/-! the answers, each one value at most -/
def gr_lead (E : Nat → Nat → Prop) (u : Nat) (r : Int32) : Prop := ∃ l, l ≤ u ∧ r = nI l ∧ gr_T E u l ∧ ∀ v, v < l → ¬ gr_T E u v
theorem gr_lead_u {u : Nat} {r s : Int32} (h : gr_lead E u r) (g : gr_lead E u s) : r = s := by
  obtain ⟨a, _, rfl, a1, a2⟩ := h
  obtain ⟨b, _, rfl, b1, b2⟩ := g
  rcases Nat.lt_trichotomy a b with z | z | z
  · exact absurd a1 (b2 a z)
  · rw [z]
  · exact absurd b1 (a2 b z)
def gr_own (E : Nat → Nat → Prop) (u : Nat) : Prop := ∀ v, v < u → ¬ gr_T E u v
theorem gr_lead_own {u : Nat} (hu : u < 2 ^ 31) {r : Int32} (h : gr_lead E u r) : r = nI u ↔ gr_own E u := by
  obtain ⟨a, ha, rfl, a1, a2⟩ := h
  rw [nI_eq (a := a) (b := u) (by omega) hu]
  constructor
  · intro e
    subst e
    exact a2
  · intro o
    rcases Nat.lt_or_ge a u with z | z
    · exact absurd a1 (o a z)
    · omega
def gr_cyc (E : Nat → Nat → Prop) (n u : Nat) (r : Int32) : Prop :=
  (∃ l, 1 ≤ l ∧ l ≤ n ∧ r = nI l ∧ gr_W E u l u ∧ ∀ j, 1 ≤ j → j < l → ¬ gr_W E u j u) ∨ (r = -2 ∧ ∀ j, 1 ≤ j → j ≤ n → ¬ gr_W E u j u)
theorem gr_cyc_u {u : Nat} {r s : Int32} (h : gr_cyc E n u r) (g : gr_cyc E n u s) : r = s := by
  rcases h with ⟨a, a0, an, rfl, a1, a2⟩ | ⟨rfl, h⟩ <;> rcases g with ⟨b, b0, bn, rfl, b1, b2⟩ | ⟨rfl, g⟩
  · rcases Nat.lt_trichotomy a b with z | z | z
    · exact absurd a1 (b2 a a0 z)
    · rw [z]
    · exact absurd b1 (a2 b b0 z)
  · exact absurd a1 (g a a0 an)
  · exact absurd b1 (h b b0 bn)
  · rfl
def gr_hgt (E : Nat → Nat → Prop) (n u : Nat) (r : Int32) : Prop := ∃ h, r = nI h ∧ gr_C E n h u ∧ ∀ j, gr_C E n j u → j ≤ h
theorem gr_hgt_u {u : Nat} {r s : Int32} (h : gr_hgt E n u r) (g : gr_hgt E n u s) : r = s := by
  obtain ⟨a, rfl, a1, a2⟩ := h
  obtain ⟨b, rfl, b1, b2⟩ := g
  have := a2 b b1
  have := b2 a a1
  rw [show a = b by omega]
def gr_line (E : Nat → Nat → Prop) (n : Nat) : Prop := ∀ u v, u < n → v < n → gr_R E u v ∨ gr_R E v u
/-- an outer edge -/
def gr_O (E : Nat → Nat → Prop) (u v : Nat) : Prop := E u v ∧ ¬ gr_T E u v
theorem gr_out (hE : gr_In E n) (hn : n ≤ 16) : cn_c (fun x => gr_O E (x / 16) (x % 16)) 256 = cn_s (fun u => cn_c (gr_O E u) n) n := by
  have c : cn_s (fun u => cn_c (gr_O E u) 16) 16 = cn_s (fun u => cn_c (gr_O E u) 16) n :=
    cn_s_cut hn (fun v hv => cn_none (p := gr_O E v) (fun w _ z => by have := (hE v w z.1).1; omega))
  rw [show (256 : Nat) = 16 * 16 from rfl, cn_rows (gr_O E) 16, c]
  exact cn_s_cong (fun v _ => cn_cut hn (fun w z => (hE v w z.1).2))
end
