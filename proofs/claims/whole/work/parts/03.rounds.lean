/-! matrices of 16 by 16 cells, rounds of the reference -/
/-- the cells of a tell r, over the rows and columns below n -/
def mx_M (n : Nat) (a : Nat → Int32) (r : Nat → Nat → Prop) : Prop := ∀ u v, u < n → v < n → (a (16 * u + v) = 1 ∧ r u v) ∨ (a (16 * u + v) = 0 ∧ ¬ r u v)
theorem mx_0 {n : Nat} {a : Nat → Int32} {r : Nat → Nat → Prop} (h : mx_M n a r) {u v : Nat} (hu : u < n) (hv : v < n) : a (16 * u + v) = 0 ↔ ¬ r u v := by
  rcases h u v hu hv with ⟨e, z⟩ | ⟨e, z⟩
  · rw [e]
    exact ⟨fun y => absurd y (by decide), fun y => absurd z y⟩
  · exact ⟨fun _ => z, fun _ => e⟩
theorem mx_c {n : Nat} {a : Nat → Int32} {r s : Nat → Nat → Prop} (h : mx_M n a r) (e : ∀ u v, u < n → v < n → (r u v ↔ s u v)) : mx_M n a s := by
  intro u v hu hv
  rcases h u v hu hv with ⟨z, y⟩ | ⟨z, y⟩
  · exact .inl ⟨z, (e u v hu hv).mp y⟩
  · exact .inr ⟨z, fun t => y ((e u v hu hv).mpr t)⟩
theorem mx_le {n m : Nat} (hn : n ≤ m) {a : Nat → Int32} {r : Nat → Nat → Prop} (h : mx_M m a r) : mx_M n a r := fun u v hu hv => h u v (by omega) (by omega)
theorem mx_set {n : Nat} (hn : n ≤ 16) {a : Nat → Int32} {r : Nat → Nat → Prop} (h : mx_M n a r) {u v : Nat} (hu : u < n) (hv : v < n) : mx_M n (upd a (16 * u + v) 1) (fun x y => r x y ∨ (x = u ∧ y = v)) := by
  intro x y hx hy
  by_cases e : 16 * x + y = 16 * u + v
  · have e1 : x = u := by omega
    have e2 : y = v := by omega
    subst e1 e2
    exact .inl ⟨pk_us, .inr ⟨rfl, rfl⟩⟩
  · rw [pk_un e]
    have e1 : ¬ (x = u ∧ y = v) := by omega
    rcases h x y hx hy with ⟨z, t⟩ | ⟨z, t⟩
    · exact .inl ⟨z, .inl t⟩
    · exact .inr ⟨z, fun q => q.elim t e1⟩
theorem mx_clr {n : Nat} (hn : n ≤ 16) {a : Nat → Int32} {r : Nat → Nat → Prop} (h : mx_M n a r) {u v : Nat} (hu : u < n) (hv : v < n) : mx_M n (upd a (16 * u + v) 0) (fun x y => r x y ∧ ¬ (x = u ∧ y = v)) := by
  intro x y hx hy
  by_cases e : 16 * x + y = 16 * u + v
  · have e1 : x = u := by omega
    have e2 : y = v := by omega
    subst e1 e2
    exact .inr ⟨pk_us, fun q => q.2 ⟨rfl, rfl⟩⟩
  · rw [pk_un e]
    have e1 : ¬ (x = u ∧ y = v) := by omega
    rcases h x y hx hy with ⟨z, t⟩ | ⟨z, t⟩
    · exact .inl ⟨z, t, e1⟩
    · exact .inr ⟨z, fun q => t q.1⟩
theorem mx_ix (u v : Nat) : (16 : Int32) * nI u + nI v = nI (16 * u + v) := by
  show nI 16 * nI u + nI v = _
  rw [pk_mul, nI_add]
section
variable {E : Nat → Nat → Prop} {n : Nat}
/-- what a walk of at most k edges reaches is in r -/
def rh_Q (E : Nat → Nat → Prop) (n k : Nat) (r : Nat → Nat → Prop) : Prop := ∀ u v, u < n → gr_B E u k v → r u v
theorem rh_0 {r : Nat → Nat → Prop} (h : ∀ u, u < n → r u u) : rh_Q E n 0 r := by
  intro u v hu b
  obtain ⟨j, hj, w⟩ := b
  have : j = 0 := by omega
  subst this
  have e : v = u := w
  rw [e]; exact h u hu
theorem rh_s (hE : gr_In E n) {k : Nat} {r s : Nat → Nat → Prop} (m : ∀ u v, u < n → v < n → r u v → s u v) (c : ∀ u v w, u < n → v < n → r u v → E v w → s u w) (q : rh_Q E n k r) : rh_Q E n (k + 1) s := by
  intro u v hu b
  rcases gr_Bc b with b | ⟨w, b, e⟩
  · exact m u v hu (gr_Rin hE hu (gr_BR b)) (q u v hu b)
  · exact c u w v hu (hE w v e).1 (q u w hu b) e
theorem rh_all (hE : gr_In E n) {r : Nat → Nat → Prop} (h : ∀ u, u < n → r u u) (c : ∀ u v w, u < n → v < n → r u v → E v w → r u w) : ∀ k, rh_Q E n k r
  | 0 => rh_0 h
  | k + 1 => rh_s hE (fun _ _ _ _ z => z) c (rh_all hE h c k)
theorem rh_end (hE : gr_In E n) {r : Nat → Nat → Prop} {k : Nat} (hk : n ≤ k) (s : ∀ u v, u < n → v < n → r u v → gr_R E u v) (q : rh_Q E n k r) {u v : Nat} (hu : u < n) (hv : v < n) : r u v ↔ gr_R E u v := by
  refine ⟨s u v hu hv, fun g => q u v hu ?_⟩
  obtain ⟨j, hj, w⟩ := gr_near hE hu g
  exact ⟨j, by omega, w⟩
/-- chains that k rounds of raising have told -/
def hg_Q (E : Nat → Nat → Prop) (n k : Nat) (h : Nat → Nat) : Prop :=
  (∀ j v, 2 * j ≤ k → gr_C E n j v → j ≤ h v) ∧ ∀ j w x, 2 * j + 1 ≤ k → gr_C E n j w → E w x → ¬ gr_R E x w → j + 1 ≤ h x
theorem hg_0 {h : Nat → Nat} : hg_Q E n 0 h := by
  refine ⟨fun j v hj _ => ?_, fun j w x hj => ?_⟩
  · omega
  · omega
theorem hg_s (hE : gr_In E n) {k : Nat} {h g : Nat → Nat} (m : ∀ v, v < n → h v ≤ g v) (t : ∀ u v, u < n → v < n → gr_T E u v → h u ≤ g v) (o : ∀ u v, u < n → v < n → gr_O E u v → h u + 1 ≤ g v) (q : hg_Q E n k h) : hg_Q E n (k + 1) g := by
  refine ⟨fun j v hj c => ?_, fun j w x hj c e z => ?_⟩
  · have hv := gr_Cin hE j v c
    rcases Nat.lt_or_ge k (2 * j) with y | y
    · obtain ⟨i, rfl⟩ : ∃ i, j = i + 1 := ⟨j - 1, by omega⟩
      obtain ⟨w, x, h1, h2, h3, h4⟩ := gr_Clast hE c
      have a := q.2 i w x (by omega) h1 h2 h3
      have b := t x v (hE w x h2).2 hv h4
      omega
    · have a := q.1 j v y c
      have b := m v hv
      omega
  · have hw := gr_Cin hE j w c
    have a := q.1 j w (by omega) c
    have b := o w x hw (hE w x e).2 ⟨e, fun y => z y.2⟩
    omega
theorem hg_all (hE : gr_In E n) {h : Nat → Nat} (t : ∀ u v, u < n → v < n → gr_T E u v → h u ≤ h v) (o : ∀ u v, u < n → v < n → gr_O E u v → h u + 1 ≤ h v) : ∀ k, hg_Q E n k h
  | 0 => hg_0
  | k + 1 => hg_s hE (fun _ _ => Nat.le_refl _) t o (hg_all hE t o k)
theorem hg_end (hE : gr_In E n) (hn : n ≤ 16) {k : Nat} (hk : 40 ≤ k) {h : Nat → Nat} (q : hg_Q E n k h) {v : Nat} (c : gr_C E n (h v) v) : gr_hgt E n v (nI (h v)) := by
  refine ⟨h v, rfl, c, fun j cj => q.1 j v ?_ cj⟩
  have := gr_Cn hE cj
  omega
end
