/-! the public methods, each side by itself -/
/-- p is no vertex -/
def vx_bad (n : Nat) (p : Int32) : Prop := p < 0 ∨ (¬ p < 0 ∧ nI n ≤ p)
theorem vx_case {n : Nat} (hn : n ≤ 16) (p : Int32) : (∃ j, j < n ∧ p = nI j) ∨ vx_bad n p := by
  by_cases z : p < 0
  · exact .inr (.inl z)
  · rcases pk_ix p (n := n) (by omega) with h | h | ⟨j, hj, e⟩
    · exact .inr (.inl h)
    · exact .inr (.inr ⟨z, h⟩)
    · exact .inl ⟨j, hj, e⟩
theorem vx_no {n : Nat} (hn : n ≤ 16) {j : Nat} (hj : j < n) : ¬ vx_bad n (nI j) := by
  intro h
  rcases h with h | h
  · exact nI_pos (by omega) h
  · exact nI_ge hj (by omega) h.2
section
variable {E : Nat → Nat → Prop} {n : Nat}
theorem xv_t (hn : n ≤ 16) {j : Nat} (hj : j < n) {post : Int32 → Prop} {cc : Int32} {eF rF co : Nat → Int32} (h : post 1) : wpX_isVertex post (nI n, cc, eF, rF, co) (nI j) :=
  br_f (nI_pos (by omega)) (br_f (nI_ge hj (by omega)) h)
theorem xv_f {p : Int32} (b : vx_bad n p) {post : Int32 → Prop} {cc : Int32} {eF rF co : Nat → Int32} (h : post 0) : wpX_isVertex post (nI n, cc, eF, rF, co) p := by
  rcases b with b | b
  · exact br_t b h
  · exact br_f b.1 (br_t b.2 h)
theorem xv_bt (hn : n ≤ 16) {j : Nat} (hj : j < n) {A B : Prop} {cc : Int32} {eF rF co : Nat → Int32} (h : B) : wpX_isVertex (fun r => (r = 0 → A) ∧ (¬ r = 0 → B)) (nI n, cc, eF, rF, co) (nI j) := xv_t hn hj (br_f xh_10 h)
theorem xv_bf {p : Int32} (b : vx_bad n p) {A B : Prop} {cc : Int32} {eF rF co : Nat → Int32} (h : A) : wpX_isVertex (fun r => (r = 0 → A) ∧ (¬ r = 0 → B)) (nI n, cc, eF, rF, co) p := xv_f b (br_t rfl h)
theorem yv_t (hn : n ≤ 16) {j : Nat} (hj : j < n) {post : Int32 → Prop} {ed re hi : Nat → Int32} (h : post 1) : wpY_isVertex post (nI n, ed, re, hi) (nI j) :=
  br_f (nI_pos (by omega)) (br_f (nI_ge hj (by omega)) h)
theorem yv_f {p : Int32} (b : vx_bad n p) {post : Int32 → Prop} {ed re hi : Nat → Int32} (h : post 0) : wpY_isVertex post (nI n, ed, re, hi) p := by
  rcases b with b | b
  · exact br_t b h
  · exact br_f b.1 (br_t b.2 h)
theorem yv_bt (hn : n ≤ 16) {j : Nat} (hj : j < n) {A B : Prop} {ed re hi : Nat → Int32} (h : B) : wpY_isVertex (fun r => (r = 0 → A) ∧ (¬ r = 0 → B)) (nI n, ed, re, hi) (nI j) := yv_t hn hj (br_f xh_10 h)
theorem yv_bf {p : Int32} (b : vx_bad n p) {A B : Prop} {ed re hi : Nat → Int32} (h : A) : wpY_isVertex (fun r => (r = 0 → A) ∧ (¬ r = 0 → B)) (nI n, ed, re, hi) p := yv_f b (br_t rfl h)
/-- p, q are no pair of two vertices -/
def vx_np (n : Nat) (p q : Int32) : Prop := vx_bad n p ∨ vx_bad n q ∨ p = q
theorem vx_pair (hn : n ≤ 16) (p q : Int32) : vx_np n p q ∨ ∃ a b, a < n ∧ b < n ∧ p = nI a ∧ q = nI b ∧ ¬ nI a = nI b := by
  rcases vx_case hn p with ⟨a, ha, rfl⟩ | c
  · rcases vx_case hn q with ⟨b, hb, rfl⟩ | c
    · by_cases e : nI a = nI b
      · exact .inl (.inr (.inr e))
      · exact .inr ⟨a, b, ha, hb, rfl, rfl, e⟩
    · exact .inl (.inr (.inl c))
  · exact .inl (.inl c)
theorem xp_0 (hn : n ≤ 16) {p q : Int32} (h : vx_np n p q) {post : Int32 → Prop} {cc : Int32} {eF rF co : Nat → Int32} (hp : post 0) : wpX_isPair post (nI n, cc, eF, rF, co) p q := by
  unfold wpX_isPair
  dsimp only
  rcases vx_case hn p with ⟨a, ha, rfl⟩ | c
  · refine xv_bt hn ha ?_
    rcases vx_case hn q with ⟨b, hb, rfl⟩ | c
    · refine xv_bt hn hb (br_t ?_ hp)
      rcases h with h | h | h
      · exact absurd h (vx_no hn ha)
      · exact absurd h (vx_no hn hb)
      · exact h
    · exact xv_bf c hp
  · exact xv_bf c hp
theorem xp_1 (hn : n ≤ 16) {a b : Nat} (ha : a < n) (hb : b < n) (e : ¬ nI a = nI b) {post : Int32 → Prop} {cc : Int32} {eF rF co : Nat → Int32} (hp : post 1) : wpX_isPair post (nI n, cc, eF, rF, co) (nI a) (nI b) := by
  unfold wpX_isPair
  dsimp only
  exact xv_bt hn ha (xv_bt hn hb (br_f e hp))
theorem ya_0 (hn : n ≤ 16) {p q : Int32} (h : vx_np n p q) {post : Int32 → SY → Prop} {ed re hi : Nat → Int32} (hp : post (-1) (nI n, ed, re, hi)) : wpY_addEdge post (nI n, ed, re, hi) p q := by
  unfold wpY_addEdge
  dsimp only
  rcases vx_case hn p with ⟨a, ha, rfl⟩ | c
  · refine yv_bt hn ha ?_
    rcases vx_case hn q with ⟨b, hb, rfl⟩ | c
    · refine yv_bt hn hb (br_t ?_ hp)
      rcases h with h | h | h
      · exact absurd h (vx_no hn ha)
      · exact absurd h (vx_no hn hb)
      · exact h
    · exact yv_bf c hp
  · exact yv_bf c hp
theorem ye_0 (hn : n ≤ 16) {p q : Int32} (h : vx_np n p q) {post : Int32 → SY → Prop} {ed re hi : Nat → Int32} (hp : post (-1) (nI n, ed, re, hi)) : wpY_removeEdge post (nI n, ed, re, hi) p q := by
  unfold wpY_removeEdge
  dsimp only
  rcases vx_case hn p with ⟨a, ha, rfl⟩ | c
  · refine yv_bt hn ha ?_
    rcases vx_case hn q with ⟨b, hb, rfl⟩ | c
    · refine yv_bt hn hb (br_t ?_ hp)
      rcases h with h | h | h
      · exact absurd h (vx_no hn ha)
      · exact absurd h (vx_no hn hb)
      · exact h
    · exact yv_bf c hp
  · exact yv_bf c hp
/-- the graph with the edge, without it -/
def gr_add (E : Nat → Nat → Prop) (a b x y : Nat) : Prop := E x y ∨ (x = a ∧ y = b)
def gr_del (E : Nat → Nat → Prop) (a b x y : Nat) : Prop := E x y ∧ ¬ (x = a ∧ y = b)
theorem gr_addIn (hE : gr_In E n) {a b : Nat} (ha : a < n) (hb : b < n) : gr_In (gr_add E a b) n := by
  intro x y h
  rcases h with h | ⟨rfl, rfl⟩
  · exact hE x y h
  · exact ⟨ha, hb⟩
theorem gr_delIn (hE : gr_In E n) {a b : Nat} : gr_In (gr_del E a b) n := fun x y h => hE x y h.1
theorem xs_add {eF : Nat → Int32} (he : xs_B n eF E) {a b : Nat} (ha : a < n) (hb : b < 32) : xs_B n (upd eF a (eF a ||| ((1 : Int32) <<< (nI b &&& 31)))) (gr_add E a b) := by
  refine xs_set he (bb_c (bb_or (he a ha) (bb_one hb)) (fun v _ => ?_)) (fun u v _ _ z => ?_)
  · exact ⟨fun q => q.elim .inl (fun q => .inr ⟨rfl, q⟩), fun q => q.elim .inl (fun q => .inr q.2)⟩
  · exact ⟨.inl, fun q => q.elim id (fun q => absurd q.1 z)⟩
theorem xs_del {eF : Nat → Int32} (he : xs_B n eF E) {a b : Nat} (ha : a < n) (hb : b < 32) : xs_B n (upd eF a (eF a &&& (((1 : Int32) <<< (nI b &&& 31)) ^^^ (-1)))) (gr_del E a b) := by
  refine xs_set he (bb_c (bb_andn (he a ha) (bb_one hb)) (fun v _ => ?_)) (fun u v _ _ z => ?_)
  · exact ⟨fun q => ⟨q.1, fun y => q.2 y.2⟩, fun q => ⟨q.1, fun y => q.2 ⟨rfl, y⟩⟩⟩
  · exact ⟨fun q => ⟨q, fun y => z y.1⟩, fun q => q.1⟩
theorem ya_2 (hn : n ≤ 16) {a b : Nat} (ha : a < n) (hb : b < n) (e : ¬ nI a = nI b) {post : Int32 → SY → Prop} {ed re hi : Nat → Int32} (hed : mx_M 16 ed E) (hab : E a b) (hp : post (-2) (nI n, ed, re, hi)) : wpY_addEdge post (nI n, ed, re, hi) (nI a) (nI b) := by
  have a16 : a < 16 := by omega
  have b16 : b < 16 := by omega
  unfold wpY_addEdge
  dsimp only
  refine yv_bt hn ha (yv_bt hn hb (br_f e ⟨yb_v a16 b16, ?_⟩))
  rw [yb_c a16 b16]
  exact br_f (fun z => (mx_0 hed a16 b16).mp z hab) hp
theorem ya_1 (hE : gr_In E n) (hn : n ≤ 16) {a b : Nat} (ha : a < n) (hb : b < n) (e : ¬ nI a = nI b) {post : Int32 → SY → Prop} {ed re hi : Nat → Int32} (hed : mx_M 16 ed E) (hab : ¬ E a b)
    (hp : ∀ ed' re', mx_M 16 ed' (gr_add E a b) → post (nI (cn_c (gr_own E) n) - nI (cn_c (gr_own (gr_add E a b)) n)) (nI n, ed', re', hi)) : wpY_addEdge post (nI n, ed, re, hi) (nI a) (nI b) := by
  have a16 : a < 16 := by omega
  have b16 : b < 16 := by omega
  have hed' : mx_M 16 (upd ed (16 * a + b) 1) (gr_add E a b) := mx_set (Nat.le_refl 16) hed a16 b16
  unfold wpY_addEdge
  dsimp only
  refine yv_bt hn ha (yv_bt hn hb (br_f e ⟨yb_v a16 b16, ?_⟩))
  rw [yb_c a16 b16, yb_1]
  refine br_t ((mx_0 hed a16 b16).mpr hab) (yc_h hE hn hed (fun x _ => ?_))
  dsimp only
  refine ⟨yb_v a16 b16, nm_e (yc_h (gr_addIn hE ha hb) hn hed' (fun y _ => ?_))⟩
  dsimp only
  exact hp _ y hed'
theorem ye_2 (hn : n ≤ 16) {a b : Nat} (ha : a < n) (hb : b < n) (e : ¬ nI a = nI b) {post : Int32 → SY → Prop} {ed re hi : Nat → Int32} (hed : mx_M 16 ed E) (hab : ¬ E a b) (hp : post (-2) (nI n, ed, re, hi)) : wpY_removeEdge post (nI n, ed, re, hi) (nI a) (nI b) := by
  have a16 : a < 16 := by omega
  have b16 : b < 16 := by omega
  unfold wpY_removeEdge
  dsimp only
  refine yv_bt hn ha (yv_bt hn hb (br_f e ⟨yb_v a16 b16, ?_⟩))
  rw [yb_c a16 b16]
  exact br_t ((mx_0 hed a16 b16).mpr hab) hp
theorem ye_1 (hE : gr_In E n) (hn : n ≤ 16) {a b : Nat} (ha : a < n) (hb : b < n) (e : ¬ nI a = nI b) {post : Int32 → SY → Prop} {ed re hi : Nat → Int32} (hed : mx_M 16 ed E) (hab : E a b)
    (hp : ∀ ed' re', mx_M 16 ed' (gr_del E a b) → post (nI (cn_c (gr_own (gr_del E a b)) n) - nI (cn_c (gr_own E) n)) (nI n, ed', re', hi)) : wpY_removeEdge post (nI n, ed, re, hi) (nI a) (nI b) := by
  have a16 : a < 16 := by omega
  have b16 : b < 16 := by omega
  have hed' : mx_M 16 (upd ed (16 * a + b) 0) (gr_del E a b) := mx_clr (Nat.le_refl 16) hed a16 b16
  unfold wpY_removeEdge
  dsimp only
  refine yv_bt hn ha (yv_bt hn hb (br_f e ⟨yb_v a16 b16, ?_⟩))
  rw [yb_c a16 b16, yb_0]
  refine br_f (fun z => (mx_0 hed a16 b16).mp z hab) (yc_h hE hn hed (fun x _ => ?_))
  dsimp only
  refine ⟨yb_v a16 b16, nm_e (yc_h (gr_delIn hE) hn hed' (fun y _ => ?_))⟩
  dsimp only
  exact hp _ y hed'
theorem yq_leader (hE : gr_In E n) (hn : n ≤ 16) {u : Nat} (hu : u < n) {post : Int32 → SY → Prop} {ed re hi : Nat → Int32} (hed : mx_M 16 ed E) (hp : ∀ r a, gr_lead E u r → post r (nI n, ed, a, hi)) : wpY_leader post (nI n, ed, re, hi) (nI u) := by
  unfold wpY_leader
  dsimp only
  refine yv_bt hn hu (yf_h hE hn hed (fun x hx => ?_))
  dsimp only
  exact yd_h hn hu hx (fun r hr => hp r x hr)
theorem yq_size (hE : gr_In E n) (hn : n ≤ 16) {u : Nat} (hu : u < n) {post : Int32 → SY → Prop} {ed re hi : Nat → Int32} (hed : mx_M 16 ed E) (hp : ∀ a, post (nI (cn_c (gr_T E u) n)) (nI n, ed, a, hi)) : wpY_componentSize post (nI n, ed, re, hi) (nI u) := by
  unfold wpY_componentSize
  dsimp only
  refine yv_bt hn hu (yf_h hE hn hed (fun x hx => ?_))
  dsimp only
  exact ⟨n + 1, yz_18 hn hu post hx (hp x) (n + 1) 0 (by omega) (by omega)⟩
theorem yq_reach (hE : gr_In E n) (hn : n ≤ 16) {u v : Nat} (hu : u < n) (hv : v < n) {post : Int32 → SY → Prop} {ed re hi : Nat → Int32} (hed : mx_M 16 ed E) (h1 : ∀ a, gr_R E u v → post 1 (nI n, ed, a, hi)) (h0 : ∀ a, ¬ gr_R E u v → post 0 (nI n, ed, a, hi)) : wpY_reaches post (nI n, ed, re, hi) (nI u) (nI v) := by
  have u16 : u < 16 := by omega
  have v16 : v < 16 := by omega
  unfold wpY_reaches
  dsimp only
  refine yv_bt hn hu (yv_bt hn hv (yf_h hE hn hed (fun x hx => ?_)))
  dsimp only
  rw [yb_c u16 v16]
  refine ⟨yb_v u16 v16, ?_⟩
  rcases hx u v hu hv with ⟨z, t⟩ | ⟨z, t⟩
  · rw [z]
    exact ⟨rfl, h1 x t⟩
  · rw [z]
    exact ⟨rfl, h0 x t⟩
theorem yq_height (hE : gr_In E n) (hn : n ≤ 16) {u : Nat} (hu : u < n) {post : Int32 → SY → Prop} {ed re hi : Nat → Int32} (hed : mx_M 16 ed E) (hp : ∀ r a b, gr_hgt E n u r → post r (nI n, ed, a, b)) : wpY_height post (nI n, ed, re, hi) (nI u) := by
  unfold wpY_height
  dsimp only
  refine yv_bt hn hu (yf_h hE hn hed (fun x hx => ?_))
  dsimp only
  exact ⟨n + 1, yg_16 hE hn hu hed hx post (fun r b hr => hp r x b hr) (n + 1) 0 hi (by omega) (by omega) (fun v hv => absurd hv (Nat.not_lt_zero v))⟩
theorem yq_cycle (hE : gr_In E n) (hn : n ≤ 16) {u : Nat} (hu : u < n) {post : Int32 → Prop} {ed re hi : Nat → Int32} (hed : mx_M 16 ed E) (hp : ∀ r, gr_cyc E n u r → post r) : wpY_cycle post (nI n, ed, re, hi) (nI u) := by
  unfold wpY_cycle
  dsimp only
  refine yv_bt hn hu (nm_e ⟨n + 1, ?_⟩)
  exact yy_16 hE hn hu hed post hp (n + 1) 0 _ (by omega) (by omega) (bb_one (by omega)) (fun j a b => absurd a (by omega))
theorem yq_outer (hE : gr_In E n) (hn : n ≤ 16) {post : Int32 → SY → Prop} {ed re hi : Nat → Int32} (hed : mx_M 16 ed E) (hp : ∀ a, post (nI (cn_s (fun u => cn_c (gr_O E u) n) n)) (nI n, ed, a, hi)) : wpY_outerEdges post (nI n, ed, re, hi) := by
  unfold wpY_outerEdges
  dsimp only
  refine yf_h hE hn hed (fun x hx => ?_)
  dsimp only
  refine ⟨257, yw_8 hE hn hed hx post ?_ 257 0 (by omega) (by omega)⟩
  rw [gr_out hE hn]
  exact hp x
theorem yq_line (hE : gr_In E n) (hn : n ≤ 16) {post : Int32 → SY → Prop} {ed re hi : Nat → Int32} (hed : mx_M 16 ed E) (h1 : ∀ a, gr_line E n → post 1 (nI n, ed, a, hi)) (h0 : ∀ a, ¬ gr_line E n → post 0 (nI n, ed, a, hi)) : wpY_inOneLine post (nI n, ed, re, hi) := by
  unfold wpY_inOneLine
  dsimp only
  refine yf_h hE hn hed (fun x hx => ?_)
  dsimp only
  exact ⟨n + 1, yi_6 hn post hx (h0 x) (h1 x) (n + 1) 0 (by omega) (by omega) (fun a b _ _ c => absurd c (by omega))⟩
end
