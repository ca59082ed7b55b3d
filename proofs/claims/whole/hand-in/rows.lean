section
/-- the way upwards from x over the parents p: the nodes on it, in order -/
def lf_way (p : Nat → Int32) : Int32 → List Nat → Prop
  | x, [] => x = -1
  | x, j :: l => x = nI j ∧ j < 24 ∧ lf_way p (p j) l
/-- from every node the way upwards ends -/
def lf_A (p : Nat → Int32) : Prop := ∀ j, j < 24 → ∃ l, lf_way p (nI j) l
/-- the last node of the way that begins with j and goes on with the list -/
def lf_end : Nat → List Nat → Nat
  | j, [] => j
  | _, i :: l => lf_end i l
theorem lf_us {f : Nat → Int32} {k : Nat} {x : Int32} : upd f k x k = x := if_pos rfl
theorem lf_un {f : Nat → Int32} {k j : Nat} {x : Int32} (h : j ≠ k) : upd f k x j = f j := if_neg h
theorem lf_24 : nI 24 = 24 := by decide +kernel
theorem lf_cl {j : Nat} (h : j < 24) : (nI j).toNatClampNeg = j := nI_clamp (by omega)
theorem lf_inn {j : Nat} (h : j < 24) : vp_in (nI j) 24 := vp_in_nI h (by omega)
theorem lf_ge {j : Nat} (h : j < 24) : (0 : Int32) ≤ nI j := nI_pos' (by omega)
theorem lf_nneg {j : Nat} (h : j < 24) : ¬ nI j < 0 := nI_pos (by omega)
theorem lf_m1 : ¬ (0 : Int32) ≤ -1 := by decide
theorem lf_ne {j : Nat} (h : j < 24) : ¬ nI j = -1 := fun e => by
  have g := lf_ge h
  rw [e] at g
  exact lf_m1 g
theorem lf_inj {i j : Nat} (hi : i < 24) (hj : j < 24) (e : nI i = nI j) : i = j :=
  (nI_eq (by omega) (by omega)).mp e
theorem lf_lt24 {j : Nat} (h : j < 24) : nI j < 24 := by
  rw [← lf_24]; exact nI_lt h (by omega)
theorem lf_nge24 {j : Nat} (h : j < 24) : ¬ (24 : Int32) ≤ nI j := by
  rw [← lf_24]; exact nI_ge h (by omega)
/-- an int is a node or it is none: below 0, or from 24 on -/
theorem lf_ix (x : Int32) : x < 0 ∨ (24 : Int32) ≤ x ∨ ∃ j : Nat, j < 24 ∧ x = nI j := by
  by_cases h0 : x < 0
  · exact Or.inl h0
  · obtain ⟨j, hj, rfl⟩ := nI_of h0
    by_cases h : j < 24
    · exact Or.inr (Or.inr ⟨j, h, rfl⟩)
    · refine Or.inr (Or.inl ?_)
      rw [← lf_24]
      exact nI_le (by omega) hj
theorem lf_mk {p : Nat → Int32} {j : Nat} {l : List Nat} (hj : j < 24) (h : lf_way p (p j) l) : lf_way p (nI j) (j :: l) := ⟨rfl, hj, h⟩
theorem lf_uniq {p : Nat → Int32} : ∀ (l l' : List Nat) (x : Int32), lf_way p x l → lf_way p x l' → l = l'
  | [], [], _, _, _ => rfl
  | [], _ :: _, _, h, h' => absurd (h'.1.symm.trans h) (lf_ne h'.2.1)
  | _ :: _, [], _, h, h' => absurd (h.1.symm.trans h') (lf_ne h.2.1)
  | i :: l, j :: l', _, h, h' => by
    have e : i = j := lf_inj h.2.1 h'.2.1 (h.1.symm.trans h'.1)
    cases e
    rw [lf_uniq l l' _ h.2.2 h'.2.2]
theorem lf_suf {p : Nat → Int32} : ∀ (s : List Nat) (t : List Nat) (x : Int32) (c : Nat), lf_way p x (s ++ c :: t) → lf_way p (nI c) (c :: t)
  | [], _, _, _, h => ⟨rfl, h.2.1, h.2.2⟩
  | _ :: s, t, _, c, h => lf_suf s t _ c h.2.2
theorem lf_lt {p : Nat → Int32} : ∀ (l : List Nat) (x : Int32), lf_way p x l → ∀ a, a ∈ l → a < 24
  | [], _, _, _, m => absurd m List.not_mem_nil
  | j :: l, _, h, a, m => by
    rcases List.mem_cons.mp m with e | m'
    · rw [e]; exact h.2.1
    · exact lf_lt l _ h.2.2 a m'
theorem lf_nd {p : Nat → Int32} : ∀ (l : List Nat) (x : Int32), lf_way p x l → l.Nodup
  | [], _, _ => List.nodup_nil
  | j :: l, _, h => by
    refine List.nodup_cons.mpr ⟨fun m => ?_, lf_nd l _ h.2.2⟩
    obtain ⟨s, t, e⟩ := List.append_of_mem m
    have h1 : lf_way p (nI j) (j :: l) := lf_mk h.2.1 h.2.2
    have h0 : lf_way p (p j) (s ++ j :: t) := e ▸ h.2.2
    have h2 : lf_way p (nI j) (j :: t) := lf_suf s t _ j h0
    have h4 := congrArg List.length (lf_uniq _ _ _ h1 h2)
    rw [e] at h4
    simp only [List.length_cons, List.length_append] at h4
    omega
theorem lf_len {p : Nat → Int32} {l : List Nat} {x : Int32} (h : lf_way p x l) : l.length ≤ 24 := by
  have hs : l ⊆ List.range 24 := fun a m => List.mem_range.mpr (lf_lt l x h a m)
  have g := List.Nodup.length_le_of_subset (lf_nd l x h) hs
  rw [List.length_range] at g
  exact g
theorem lf_frame {p : Nat → Int32} {c : Nat} {y : Int32} : ∀ (l : List Nat) (x : Int32), lf_way p x l → c ∉ l → lf_way (upd p c y) x l
  | [], _, h, _ => h
  | j :: l, _, h, m => by
    have hne : j ≠ c := fun e => m (by rw [e]; exact List.mem_cons_self)
    refine ⟨h.1, h.2.1, ?_⟩
    rw [lf_un hne]
    exact lf_frame l _ h.2.2 (fun q => m (List.mem_cons_of_mem _ q))
theorem lf_join {p : Nat → Int32} {c : Nat} {y : Int32} {r t : List Nat} (hy : lf_way (upd p c y) y r) : ∀ (s : List Nat) (x : Int32), lf_way p x (s ++ c :: t) → c ∉ s → lf_way (upd p c y) x (s ++ c :: r)
  | [], _, h, _ => ⟨h.1, h.2.1, by rw [lf_us]; exact hy⟩
  | j :: s, _, h, m => by
    have hne : j ≠ c := fun e => m (by rw [e]; exact List.mem_cons_self)
    refine ⟨h.1, h.2.1, ?_⟩
    rw [lf_un hne]
    exact lf_join hy s _ h.2.2 (fun q => m (List.mem_cons_of_mem _ q))
/-- node c gets y above it, and c is not on the way from y: every way ends again -/
theorem lf_mv {p : Nat → Int32} {c : Nat} {y : Int32} {r : List Nat} (hA : lf_A p) (hr : lf_way p y r) (hc : c ∉ r) : lf_A (upd p c y) := by
  intro j hj
  obtain ⟨l, hl⟩ := hA j hj
  by_cases m : c ∈ l
  · obtain ⟨s, t, e⟩ := List.append_of_mem m
    subst e
    have nd := List.nodup_append.mp (lf_nd _ _ hl)
    have hs : c ∉ s := fun q => nd.2.2 c q c List.mem_cons_self rfl
    exact ⟨_, lf_join (lf_frame r y hr hc) s _ hl hs⟩
  · exact ⟨l, lf_frame l _ hl m⟩
/-- a root on the way is the way's last node -/
theorem lf_endmem {p : Nat → Int32} {c : Nat} (hp : p c = -1) : ∀ (l : List Nat) (j : Nat), lf_way p (nI j) (j :: l) → c ∈ j :: l → lf_end j l = c
  | [], j, _, m => by
    rcases List.mem_cons.mp m with e | m'
    · exact e.symm
    · exact absurd m' List.not_mem_nil
  | i :: l, j, h, m => by
    have h2 : lf_way p (p j) (i :: l) := h.2.2
    rcases List.mem_cons.mp m with e | m'
    · subst e
      exact absurd (h2.1.symm.trans hp) (lf_ne h2.2.1)
    · exact lf_endmem hp l i (lf_mk h2.2.1 h2.2.2) m'
theorem lf_end_lt {p : Nat → Int32} : ∀ (l : List Nat) (j : Nat), lf_way p (nI j) (j :: l) → lf_end j l < 24
  | [], _, h => h.2.1
  | _ :: l, _, h => lf_end_lt l _ (lf_mk h.2.2.2.1 h.2.2.2.2)
theorem lf_cons {p : Nat → Int32} {j : Nat} {l : List Nat} (hj : j < 24) (h : lf_way p (nI j) l) : ∃ t, l = j :: t ∧ lf_way p (p j) t := by
  cases l with
  | nil => exact absurd h (lf_ne hj)
  | cons i t =>
    have e : j = i := lf_inj hj h.2.1 h.1
    subst e
    exact ⟨t, rfl, h.2.2⟩
theorem lf_A0 : lf_A (fun _ => -1) := fun j hj => ⟨[j], rfl, hj, rfl⟩
/-- what stands above a node: nothing, or a node -/
theorem lf_at {p : Nat → Int32} {j : Nat} (hA : lf_A p) (hj : j < 24) : p j = -1 ∨ ∃ i, i < 24 ∧ p j = nI i := by
  obtain ⟨l, hl⟩ := hA j hj
  obtain ⟨t, rfl, ht⟩ := lf_cons hj hl
  cases t with
  | nil => exact Or.inl ht
  | cons i t => exact Or.inr ⟨i, ht.2.1, ht.1⟩
end
section
theorem lf_pc {p : Nat → Int32} {j : Nat} (h : j < 24) : p (nI j).toNatClampNeg = p j := congrArg p (lf_cl h)
theorem lf_uc {p : Nat → Int32} {x : Int32} {j : Nat} (h : j < 24) : upd p (nI j).toNatClampNeg x = upd p j x := by rw [lf_cl h]
theorem lf_10 : ¬ (1 : Int32) = 0 := by decide
theorem lf_m1n : (-1 : Int32) < 0 := by decide
theorem lf_isT {post : Int32 → Prop} {j : Nat} (h : j < 24) (hp : post 1) : wpX_isNode post (nI j) :=
  br_f (lf_nneg h) (br_f (lf_nge24 h) hp)
theorem lf_badF {post : Int32 → Prop} {j : Nat} (h : j < 24) (hp : post 0) : wpY_bad post (nI j) := by
  have h23 : nI j ≤ 23 := by
    have e : nI 23 = 23 := by decide +kernel
    rw [← e]
    exact nI_le (by omega) (by omega)
  exact br_f (lf_nneg h) (br_t h23 hp)
theorem lf_isF {post : Int32 → Prop} {x : Int32} (h : x < 0 ∨ (24 : Int32) ≤ x) (hp : post 0) : wpX_isNode post x := by
  by_cases h0 : x < 0
  · exact br_t h0 hp
  · exact br_f h0 (br_t (h.resolve_left h0) hp)
theorem lf_badT {post : Int32 → Prop} {x : Int32} (h : x < 0 ∨ (24 : Int32) ≤ x) (hp : post 1) : wpY_bad post x := by
  by_cases h0 : x < 0
  · exact br_t h0 hp
  · have h23 : ¬ x ≤ 23 := fun g => absurd (Int32.le_trans (h.resolve_left h0) g) (by decide)
    exact br_f h0 (br_f h23 hp)
theorem lf_ib (x : Int32) : (x < 0 ∨ (24 : Int32) ≤ x) ∨ ∃ j : Nat, j < 24 ∧ x = nI j := by
  rcases lf_ix x with h | h | h
  · exact Or.inl (Or.inl h)
  · exact Or.inl (Or.inr h)
  · exact Or.inr h
theorem lf_fill (w : Nat → Int32) (d : Nat) : ∀ (i : Nat) (p : Nat → Int32), i + d = 24 → (∀ a, a < i → p a = -1) → ∃ p' : Nat → Int32, (∀ a, a < 24 → p' a = -1) ∧ (∀ (post : SX → Prop) (n : Nat), d < n → post (p', w) → wX_init_22 post n (nI i) p w) ∧ (∀ (post : SY → Prop) (n : Nat), d < n → post (w, p') → wY_init_22 post n (nI i) w p) := by
  induction d with
  | zero =>
    intro i p hi hf
    have e : i = 24 := by omega
    subst e
    have h24 : (24 : Int32) ≤ nI 24 := by rw [lf_24]; decide
    refine ⟨p, hf, fun post n hn hp => ?_, fun post n hn hp => ?_⟩
    · cases n with
      | zero => exact absurd hn (Nat.not_lt_zero _)
      | succ n => exact br_t h24 hp
    · cases n with
      | zero => exact absurd hn (Nat.not_lt_zero _)
      | succ n => exact br_t h24 hp
  | succ d ih =>
    intro i p hi hf
    have hi' : i < 24 := by omega
    have hg : ∀ a, a < i + 1 → upd p i (-1) a = -1 := by
      intro a ha
      by_cases e : a = i
      · rw [e]; exact lf_us
      · rw [lf_un e]; exact hf a (by omega)
    obtain ⟨p', hp', hX, hY⟩ := ih (i + 1) (upd p i (-1)) (by omega) hg
    refine ⟨p', hp', fun post n hn hp => ?_, fun post n hn hp => ?_⟩
    · cases n with
      | zero => exact absurd hn (Nat.not_lt_zero _)
      | succ n => exact br_f (lf_nge24 hi') ⟨lf_inn hi', nm_r (lf_uc hi') (nm_r (nI_1 i) (hX post n (by omega) hp))⟩
    · cases n with
      | zero => exact absurd hn (Nat.not_lt_zero _)
      | succ n => exact br_f (lf_nge24 hi') ⟨lf_inn hi', nm_r (lf_uc hi') (nm_r (nI_1 i) (hY post n (by omega) hp))⟩
theorem lf_Xtop {p w : Nat → Int32} {post : Int32 → Prop} (l : List Nat) : ∀ (j i n : Nat), lf_way p (nI j) (j :: l) → i + l.length ≤ 24 → l.length < n → post (nI (lf_end j l)) → wX_topOf_4 post p w n (nI j) (nI i) := by
  induction l with
  | nil =>
    intro j i n h hi hn hp
    cases n with
    | zero => exact absurd hn (Nat.not_lt_zero _)
    | succ n => exact br_c (fun _ => hp) (fun _ => ⟨lf_inn h.2.1, br_t ((lf_pc h.2.1).trans h.2.2) hp⟩)
  | cons k l ih =>
    intro j i n h hi hn hp
    rw [List.length_cons] at hi hn
    have hj : j < 24 := h.2.1
    have h2 : lf_way p (p j) (k :: l) := h.2.2
    have hne : ¬ p (nI j).toNatClampNeg = -1 := fun e => lf_ne h2.2.1 (h2.1.symm.trans ((lf_pc hj).symm.trans e))
    cases n with
    | zero => exact absurd hn (Nat.not_lt_zero _)
    | succ n => exact br_f (lf_nge24 (by omega)) ⟨lf_inn hj, br_f hne ⟨lf_inn hj, nm_r ((lf_pc hj).trans h2.1) (nm_r (nI_1 i) (ih k (i + 1) n (lf_mk h2.2.1 h2.2.2) (by omega) (by omega) hp))⟩⟩
theorem lf_Ytop {p w : Nat → Int32} {post : Int32 → Prop} (l : List Nat) : ∀ (j n : Nat), lf_way p (nI j) (j :: l) → l.length < n → post (nI (lf_end j l)) → wY_root_11 post w p n (nI j) := by
  induction l with
  | nil =>
    intro j n h hn hp
    have hlt : p (nI j).toNatClampNeg < 0 := by
      have e : p (nI j).toNatClampNeg = -1 := (lf_pc h.2.1).trans h.2.2
      rw [e]; exact lf_m1n
    cases n with
    | zero => exact absurd hn (Nat.not_lt_zero _)
    | succ n => exact ⟨lf_inn h.2.1, br_t hlt hp⟩
  | cons k l ih =>
    intro j n h hn hp
    rw [List.length_cons] at hn
    have hj : j < 24 := h.2.1
    have h2 : lf_way p (p j) (k :: l) := h.2.2
    have hnl : ¬ p (nI j).toNatClampNeg < 0 := by
      rw [lf_pc (p := p) hj, h2.1]; exact lf_nneg h2.2.1
    cases n with
    | zero => exact absurd hn (Nat.not_lt_zero _)
    | succ n => exact ⟨lf_inn hj, br_f hnl ⟨lf_inn hj, nm_r ((lf_pc hj).trans h2.1) (ih k n (lf_mk h2.2.1 h2.2.2) (by omega) hp)⟩⟩
theorem lf_xtop {p w : Nat → Int32} {post : Int32 → Prop} {j : Nat} {l : List Nat} (h : lf_way p (nI j) (j :: l)) (hp : post (nI (lf_end j l))) : wpX_topOf post (p, w) (nI j) := by
  have g := lf_len h
  rw [List.length_cons] at g
  exact ⟨25, lf_Xtop l j 0 25 h (by omega) (by omega) hp⟩
theorem lf_ytop {p w : Nat → Int32} {post : Int32 → Prop} {j : Nat} {l : List Nat} (h : lf_way p (nI j) (j :: l)) (hp : post (nI (lf_end j l))) : wpY_root post (w, p) (nI j) := by
  have g := lf_len h
  rw [List.length_cons] at g
  unfold wpY_root
  dsimp only
  refine lf_badF h.2.1 ?_
  exact br_t rfl ⟨25, lf_Ytop l j 25 h (by omega) hp⟩
theorem lf_turn (w : Nat → Int32) (l : List Nat) : ∀ (p : Nat → Int32) (x y : Int32) (b : List Nat), lf_A p → lf_way p y l → lf_way p x b → (∀ a, a ∈ l → a ∉ b) → ∃ (r : Int32) (p' : Nat → Int32), lf_A p' ∧ (∀ (post : Int32 → SX → Prop) (i n : Nat), i + l.length ≤ 24 → l.length < n → post r (p', w) → wX_turn_16 post n x y (nI i) p w) ∧ (∀ (post : Int32 → SY → Prop) (n : Nat), l.length < n → post r (w, p') → wY_turn_13 post n x y w p) := by
  induction l with
  | nil =>
    intro p x y b hA hy hx hd
    have e : y = -1 := hy
    subst e
    refine ⟨x, p, hA, fun post i n hi hn hp => ?_, fun post n hn hp => ?_⟩
    · cases n with
      | zero => exact absurd hn (Nat.not_lt_zero _)
      | succ n => exact br_c (fun _ => hp) (fun _ => br_t rfl hp)
    · cases n with
      | zero => exact absurd hn (Nat.not_lt_zero _)
      | succ n => exact br_t lf_m1n hp
  | cons k l ih =>
    intro p x y b hA hy hx hd
    have hk : k < 24 := hy.2.1
    have e : y = nI k := hy.1
    have h2 : lf_way p (p k) l := hy.2.2
    have kl : k ∉ l := (List.nodup_cons.mp (lf_nd _ _ hy)).1
    have kb : k ∉ b := hd k List.mem_cons_self
    subst e
    have g1 : lf_A (upd p k x) := lf_mv hA hx kb
    have g2 : lf_way (upd p k x) (p k) l := lf_frame l _ h2 kl
    have g3 : lf_way (upd p k x) (nI k) (k :: b) := lf_mk hk (by rw [lf_us]; exact lf_frame b x hx kb)
    have g4 : ∀ a, a ∈ l → a ∉ k :: b := by
      intro a m q
      rcases List.mem_cons.mp q with e | q'
      · exact kl (e ▸ m)
      · exact hd a (List.mem_cons_of_mem _ m) q'
    obtain ⟨r, p', A', hX, hY⟩ := ih (upd p k x) (nI k) (p k) (k :: b) g1 g2 g3 g4
    refine ⟨r, p', A', fun post i n hi hn hp => ?_, fun post n hn hp => ?_⟩
    · rw [List.length_cons] at hi hn
      cases n with
      | zero => exact absurd hn (Nat.not_lt_zero _)
      | succ n => exact br_f (lf_nge24 (by omega)) (br_f (lf_ne hk) ⟨lf_inn hk, nm_r (lf_pc hk) ⟨lf_inn hk, nm_r (lf_uc hk) (nm_r (nI_1 i) (hX post (i + 1) n (by omega) (by omega) hp))⟩⟩)
    · rw [List.length_cons] at hn
      cases n with
      | zero => exact absurd hn (Nat.not_lt_zero _)
      | succ n => exact br_f (lf_nneg hk) ⟨lf_inn hk, nm_r (lf_pc hk) ⟨lf_inn hk, nm_r (lf_uc hk) (hY post n (by omega) hp)⟩⟩
theorem lf_paint (p : Nat → Int32) (z : Int32) (l : List Nat) : ∀ (w : Nat → Int32) (c y : Int32), lf_way p y l → ∃ (r : Int32) (w' : Nat → Int32), (∀ (post : Int32 → SX → Prop) (i n : Nat), i + l.length ≤ 24 → l.length < n → post r (p, w') → wX_paint_17 post z n c y (nI i) p w) ∧ (∀ (post : Int32 → SY → Prop) (n : Nat), l.length < n → post r (w', p) → wY_paint_14 post z n c y w p) := by
  induction l with
  | nil =>
    intro w c y hy
    have e : y = -1 := hy
    subst e
    refine ⟨c, w, fun post i n hi hn hp => ?_, fun post n hn hp => ?_⟩
    · cases n with
      | zero => exact absurd hn (Nat.not_lt_zero _)
      | succ n => exact br_c (fun _ => hp) (fun _ => br_t rfl hp)
    · cases n with
      | zero => exact absurd hn (Nat.not_lt_zero _)
      | succ n => exact br_t lf_m1n hp
  | cons k l ih =>
    intro w c y hy
    have hk : k < 24 := hy.2.1
    have e : y = nI k := hy.1
    subst e
    obtain ⟨r, w', hX, hY⟩ := ih (upd w k z) (c + 1) (p k) hy.2.2
    refine ⟨r, w', fun post i n hi hn hp => ?_, fun post n hn hp => ?_⟩
    · rw [List.length_cons] at hi hn
      cases n with
      | zero => exact absurd hn (Nat.not_lt_zero _)
      | succ n => exact br_f (lf_nge24 (by omega)) (br_f (lf_ne hk) ⟨lf_inn hk, nm_r (lf_uc hk) (nm_e ⟨lf_inn hk, nm_r (lf_pc hk) (nm_r (nI_1 i) (hX post (i + 1) n (by omega) (by omega) hp))⟩)⟩)
    · rw [List.length_cons] at hn
      cases n with
      | zero => exact absurd hn (Nat.not_lt_zero _)
      | succ n => exact br_f (lf_nneg hk) ⟨lf_inn hk, nm_r (lf_uc hk) (nm_e ⟨lf_inn hk, nm_r (lf_pc hk) (hY post n (by omega) hp)⟩)⟩
end
section
theorem lf_depth (p w : Nat → Int32) (l : List Nat) : ∀ (c : Int32) (j : Nat), j < 24 → lf_way p (p j) l → ∃ r : Int32, (∀ (post : Int32 → Prop) (i n : Nat), i + l.length ≤ 24 → l.length < n → post r → wX_depth_21 post p w n c (p j) (nI i)) ∧ (∀ (post : Int32 → Prop) (n : Nat), l.length < n → post r → wY_depth_13 post w p n c (nI j)) := by
  induction l with
  | nil =>
    intro c j hj h
    have e : p j = -1 := h
    have hlt : p (nI j).toNatClampNeg < 0 := by
      rw [lf_pc (p := p) hj, e]; exact lf_m1n
    refine ⟨c, fun post i n hi hn hp => ?_, fun post n hn hp => ?_⟩
    · cases n with
      | zero => exact absurd hn (Nat.not_lt_zero _)
      | succ n => exact br_c (fun _ => hp) (fun _ => br_t e hp)
    · cases n with
      | zero => exact absurd hn (Nat.not_lt_zero _)
      | succ n => exact ⟨lf_inn hj, br_t hlt hp⟩
  | cons k l ih =>
    intro c j hj h
    have hk : k < 24 := h.2.1
    have e : p j = nI k := h.1
    have hnl : ¬ p (nI j).toNatClampNeg < 0 := by
      rw [lf_pc (p := p) hj, e]; exact lf_nneg hk
    obtain ⟨r, hX, hY⟩ := ih (c + 1) k hk h.2.2
    refine ⟨r, fun post i n hi hn hp => ?_, fun post n hn hp => ?_⟩
    · rw [List.length_cons] at hi hn
      rw [e]
      cases n with
      | zero => exact absurd hn (Nat.not_lt_zero _)
      | succ n => exact br_f (lf_nge24 (by omega)) (br_f (lf_ne hk) (nm_e ⟨lf_inn hk, nm_r (lf_pc hk) (nm_r (nI_1 i) (hX post (i + 1) n (by omega) (by omega) hp))⟩))
    · rw [List.length_cons] at hn
      cases n with
      | zero => exact absurd hn (Nat.not_lt_zero _)
      | succ n => exact ⟨lf_inn hj, br_f hnl ⟨lf_inn hj, nm_r ((lf_pc hj).trans e) (nm_e (hY post n (by omega) hp))⟩⟩
theorem lf_sumUp (p w : Nat → Int32) (l : List Nat) : ∀ (c y : Int32), lf_way p y l → ∃ r : Int32, (∀ (post : Int32 → Prop) (i n : Nat), i + l.length ≤ 24 → l.length < n → post r → wX_sumUp_16 post p w n c y (nI i)) ∧ (∀ (post : Int32 → Prop) (n : Nat), l.length < n → post r → wY_sumUp_13 post w p n c y) := by
  induction l with
  | nil =>
    intro c y hy
    have e : y = -1 := hy
    subst e
    refine ⟨c, fun post i n hi hn hp => ?_, fun post n hn hp => ?_⟩
    · cases n with
      | zero => exact absurd hn (Nat.not_lt_zero _)
      | succ n => exact br_c (fun _ => hp) (fun _ => br_t rfl hp)
    · cases n with
      | zero => exact absurd hn (Nat.not_lt_zero _)
      | succ n => exact br_t lf_m1n hp
  | cons k l ih =>
    intro c y hy
    have hk : k < 24 := hy.2.1
    have e : y = nI k := hy.1
    subst e
    obtain ⟨r, hX, hY⟩ := ih (c + w (nI k).toNatClampNeg) (p k) hy.2.2
    refine ⟨r, fun post i n hi hn hp => ?_, fun post n hn hp => ?_⟩
    · rw [List.length_cons] at hi hn
      cases n with
      | zero => exact absurd hn (Nat.not_lt_zero _)
      | succ n => exact br_f (lf_nge24 (by omega)) (br_f (lf_ne hk) ⟨lf_inn hk, nm_e ⟨lf_inn hk, nm_r (lf_pc hk) (nm_r (nI_1 i) (hX post (i + 1) n (by omega) (by omega) hp))⟩⟩)
    · rw [List.length_cons] at hn
      cases n with
      | zero => exact absurd hn (Nat.not_lt_zero _)
      | succ n => exact br_f (lf_nneg hk) ⟨lf_inn hk, nm_e ⟨lf_inn hk, nm_r (lf_pc hk) (hY post n (by omega) hp)⟩⟩
theorem lf_leastUp (p w : Nat → Int32) (l : List Nat) : ∀ (c y : Int32), lf_way p y l → ∃ r : Int32, (∀ (post : Int32 → Prop) (i n : Nat), i + l.length ≤ 24 → l.length < n → post r → wX_leastUp_26 post p w n c y (nI i)) ∧ (∀ (post : Int32 → Prop) (n : Nat), l.length < n → post r → wY_leastUp_23 post w p n c y) := by
  induction l with
  | nil =>
    intro c y hy
    have e : y = -1 := hy
    subst e
    refine ⟨c, fun post i n hi hn hp => ?_, fun post n hn hp => ?_⟩
    · cases n with
      | zero => exact absurd hn (Nat.not_lt_zero _)
      | succ n => exact br_c (fun _ => hp) (fun _ => br_t rfl hp)
    · cases n with
      | zero => exact absurd hn (Nat.not_lt_zero _)
      | succ n => exact br_t lf_m1n hp
  | cons k l ih =>
    intro c y hy
    have hk : k < 24 := hy.2.1
    have e : y = nI k := hy.1
    subst e
    by_cases hc : c ≤ w (nI k).toNatClampNeg
    · obtain ⟨r, hX, hY⟩ := ih c (p k) hy.2.2
      refine ⟨r, fun post i n hi hn hp => ?_, fun post n hn hp => ?_⟩
      · rw [List.length_cons] at hi hn
        cases n with
        | zero => exact absurd hn (Nat.not_lt_zero _)
        | succ n => exact br_f (lf_nge24 (by omega)) (br_f (lf_ne hk) ⟨lf_inn hk, br_t hc ⟨lf_inn hk, nm_r (lf_pc hk) (nm_r (nI_1 i) (hX post (i + 1) n (by omega) (by omega) hp))⟩⟩)
      · rw [List.length_cons] at hn
        cases n with
        | zero => exact absurd hn (Nat.not_lt_zero _)
        | succ n => exact br_f (lf_nneg hk) ⟨lf_inn hk, br_t hc ⟨lf_inn hk, nm_r (lf_pc hk) (hY post n (by omega) hp)⟩⟩
    · obtain ⟨r, hX, hY⟩ := ih (w (nI k).toNatClampNeg) (p k) hy.2.2
      refine ⟨r, fun post i n hi hn hp => ?_, fun post n hn hp => ?_⟩
      · rw [List.length_cons] at hi hn
        cases n with
        | zero => exact absurd hn (Nat.not_lt_zero _)
        | succ n => exact br_f (lf_nge24 (by omega)) (br_f (lf_ne hk) ⟨lf_inn hk, br_f hc ⟨lf_inn hk, nm_e ⟨lf_inn hk, nm_r (lf_pc hk) (nm_r (nI_1 i) (hX post (i + 1) n (by omega) (by omega) hp))⟩⟩⟩)
      · rw [List.length_cons] at hn
        cases n with
        | zero => exact absurd hn (Nat.not_lt_zero _)
        | succ n => exact br_f (lf_nneg hk) ⟨lf_inn hk, br_f hc ⟨lf_inn hk, nm_e ⟨lf_inn hk, nm_r (lf_pc hk) (hY post n (by omega) hp)⟩⟩⟩
theorem lf_on (p w : Nat → Int32) {s : Nat} (hs : s < 24) (l : List Nat) : ∀ (y : Int32), lf_way p y l → ∃ r : Int32, (∀ (post : Int32 → Prop) (i n : Nat), i + l.length ≤ 24 → l.length < n → post r → wX_isOnWay_5 post (nI s) p w n y (nI i)) ∧ (∀ (post : Int32 → Prop) (n : Nat), l.length < n → post r → wY_onWay_2 post (nI s) w p n y) := by
  induction l with
  | nil =>
    intro y hy
    have e : y = -1 := hy
    subst e
    have hne : ¬ (-1 : Int32) = nI s := fun q => lf_ne hs q.symm
    refine ⟨0, fun post i n hi hn hp => ?_, fun post n hn hp => ?_⟩
    · cases n with
      | zero => exact absurd hn (Nat.not_lt_zero _)
      | succ n => exact br_c (fun _ => hp) (fun _ => br_t rfl hp)
    · cases n with
      | zero => exact absurd hn (Nat.not_lt_zero _)
      | succ n => exact br_t lf_m1n (br_f hne hp)
  | cons k l ih =>
    intro y hy
    have hk : k < 24 := hy.2.1
    have e : y = nI k := hy.1
    subst e
    by_cases hc : nI k = nI s
    · refine ⟨1, fun post i n hi hn hp => ?_, fun post n hn hp => ?_⟩
      · rw [List.length_cons] at hi hn
        cases n with
        | zero => exact absurd hn (Nat.not_lt_zero _)
        | succ n => exact br_f (lf_nge24 (by omega)) (br_f (lf_ne hk) (br_t hc hp))
      · cases n with
        | zero => exact absurd hn (Nat.not_lt_zero _)
        | succ n => exact br_f (lf_nneg hk) (br_t hc (br_t hc hp))
    · obtain ⟨r, hX, hY⟩ := ih (p k) hy.2.2
      refine ⟨r, fun post i n hi hn hp => ?_, fun post n hn hp => ?_⟩
      · rw [List.length_cons] at hi hn
        cases n with
        | zero => exact absurd hn (Nat.not_lt_zero _)
        | succ n => exact br_f (lf_nge24 (by omega)) (br_f (lf_ne hk) (br_f hc ⟨lf_inn hk, nm_r (lf_pc hk) (nm_r (nI_1 i) (hX post (i + 1) n (by omega) (by omega) hp))⟩))
      · rw [List.length_cons] at hn
        cases n with
        | zero => exact absurd hn (Nat.not_lt_zero _)
        | succ n => exact br_f (lf_nneg hk) (br_f hc ⟨lf_inn hk, nm_r (lf_pc hk) (hY post n (by omega) hp)⟩)
theorem lf_onw {p : Nat → Int32} (w : Nat → Int32) (hA : lf_A p) {s j : Nat} (hs : s < 24) (hj : j < 24) : ∃ r : Int32, (∀ post : Int32 → Prop, post r → wpX_isOnWay post (p, w) (nI s) (nI j)) ∧ (∀ post : Int32 → Prop, post r → wpY_onWay post (w, p) (nI s) (nI j)) := by
  obtain ⟨l, hl⟩ := hA j hj
  have g := lf_len hl
  obtain ⟨r, hX, hY⟩ := lf_on p w hs l (nI j) hl
  exact ⟨r, fun post hp => ⟨25, hX post 0 25 (by omega) (by omega) hp⟩, fun post hp => ⟨25, hY post 25 (by omega) hp⟩⟩
theorem lf_meet {p : Nat → Int32} (w : Nat → Int32) (hA : lf_A p) {b : Nat} (hb : b < 24) (l : List Nat) : ∀ (y : Int32), lf_way p y l → ∃ r : Int32, (∀ (post : Int32 → Prop) (i n : Nat), i + l.length ≤ 24 → l.length < n → post r → wX_meet_21 post (nI b) p w n y (nI i)) ∧ (∀ (post : Int32 → Prop) (n : Nat), l.length < n → post r → wY_meet_18 post (nI b) w p n y) := by
  induction l with
  | nil =>
    intro y hy
    have e : y = -1 := hy
    subst e
    refine ⟨-1, fun post i n hi hn hp => ?_, fun post n hn hp => ?_⟩
    · cases n with
      | zero => exact absurd hn (Nat.not_lt_zero _)
      | succ n => exact br_c (fun _ => hp) (fun _ => br_t rfl hp)
    · cases n with
      | zero => exact absurd hn (Nat.not_lt_zero _)
      | succ n => exact br_t lf_m1n hp
  | cons k l ih =>
    intro y hy
    have hk : k < 24 := hy.2.1
    have e : y = nI k := hy.1
    subst e
    obtain ⟨q, qX, qY⟩ := lf_onw w hA hk hb
    by_cases hq : q = 0
    · obtain ⟨r, hX, hY⟩ := ih (p k) hy.2.2
      refine ⟨r, fun post i n hi hn hp => ?_, fun post n hn hp => ?_⟩
      · rw [List.length_cons] at hi hn
        cases n with
        | zero => exact absurd hn (Nat.not_lt_zero _)
        | succ n => exact br_f (lf_nge24 (by omega)) (br_f (lf_ne hk) (qX _ (br_t hq ⟨lf_inn hk, nm_r (lf_pc hk) (nm_r (nI_1 i) (hX post (i + 1) n (by omega) (by omega) hp))⟩)))
      · rw [List.length_cons] at hn
        cases n with
        | zero => exact absurd hn (Nat.not_lt_zero _)
        | succ n => exact br_f (lf_nneg hk) (qY _ (br_t hq ⟨lf_inn hk, nm_r (lf_pc hk) (hY post n (by omega) hp)⟩))
    · refine ⟨nI k, fun post i n hi hn hp => ?_, fun post n hn hp => ?_⟩
      · rw [List.length_cons] at hi hn
        cases n with
        | zero => exact absurd hn (Nat.not_lt_zero _)
        | succ n => exact br_f (lf_nge24 (by omega)) (br_f (lf_ne hk) (qX _ (br_f hq hp)))
      · cases n with
        | zero => exact absurd hn (Nat.not_lt_zero _)
        | succ n => exact br_f (lf_nneg hk) (qY _ (br_f hq hp))
theorem lf_sumPart {p : Nat → Int32} (w : Nat → Int32) (hA : lf_A p) {s : Nat} (hs : s < 24) (d : Nat) : ∀ (i : Nat) (c : Int32), i + d = 24 → ∃ r : Int32, (∀ (post : Int32 → Prop) (n : Nat), d < n → post r → wX_sumPart_13 post (nI s) p w n c (nI i)) ∧ (∀ (post : Int32 → Prop) (n : Nat), d < n → post r → wY_sumPart_13 post (nI s) w p n c (nI i)) := by
  induction d with
  | zero =>
    intro i c hi
    have e : i = 24 := by omega
    subst e
    have h24 : (24 : Int32) ≤ nI 24 := by rw [lf_24]; decide
    refine ⟨c, fun post n hn hp => ?_, fun post n hn hp => ?_⟩
    · cases n with
      | zero => exact absurd hn (Nat.not_lt_zero _)
      | succ n => exact br_t h24 hp
    · cases n with
      | zero => exact absurd hn (Nat.not_lt_zero _)
      | succ n => exact br_t h24 hp
  | succ d ih =>
    intro i c hi
    have hi' : i < 24 := by omega
    obtain ⟨q, qX, qY⟩ := lf_onw w hA hs hi'
    by_cases hq : q = 0
    · obtain ⟨r, hX, hY⟩ := ih (i + 1) c (by omega)
      refine ⟨r, fun post n hn hp => ?_, fun post n hn hp => ?_⟩
      · cases n with
        | zero => exact absurd hn (Nat.not_lt_zero _)
        | succ n => exact br_f (lf_nge24 hi') (qX _ (br_t hq (nm_r (nI_1 i) (hX post n (by omega) hp))))
      · cases n with
        | zero => exact absurd hn (Nat.not_lt_zero _)
        | succ n => exact br_f (lf_nge24 hi') (qY _ (br_t hq (nm_r (nI_1 i) (hY post n (by omega) hp))))
    · obtain ⟨r, hX, hY⟩ := ih (i + 1) (c + w (nI i).toNatClampNeg) (by omega)
      refine ⟨r, fun post n hn hp => ?_, fun post n hn hp => ?_⟩
      · cases n with
        | zero => exact absurd hn (Nat.not_lt_zero _)
        | succ n => exact br_f (lf_nge24 hi') (qX _ (br_f hq ⟨lf_inn hi', nm_e (nm_r (nI_1 i) (hX post n (by omega) hp))⟩))
      · cases n with
        | zero => exact absurd hn (Nat.not_lt_zero _)
        | succ n => exact br_f (lf_nge24 hi') (qY _ (br_f hq ⟨lf_inn hi', nm_e (nm_r (nI_1 i) (hY post n (by omega) hp))⟩))
end
section
/-- both sides hold the same parents and the same values, and every way upwards ends -/
def i_Rel (k : Nat) (u : SX) (v : SY) : Prop := ∃ p w : Nat → Int32, u = (p, w) ∧ v = (w, p) ∧ lf_A p
theorem i_up {k : Nat} {u : SX} {v : SY} (h : i_Rel k u v) : i_Rel (k + 3) u v := h
theorem lf_rel {k : Nat} {p w : Nat → Int32} (h : lf_A p) : i_Rel k (p, w) (w, p) := ⟨p, w, rfl, rfl, h⟩
theorem i_vc0 : wpX_init (fun u => wpY_init (fun v => i_Rel 0 u v)) := by
  obtain ⟨p, hp, hX, hY⟩ := lf_fill (fun _ => 0) 24 0 (fun _ => 0) rfl (fun a h => absurd h (Nat.not_lt_zero a))
  have hA : lf_A p := fun j hj => ⟨[j], rfl, hj, hp j hj⟩
  refine ⟨25, hX _ 25 (by omega) ?_⟩
  exact ⟨25, hY _ 25 (by omega) (lf_rel hA)⟩
theorem i_vc_link {k : Nat} {u : SX} {v : SY} (I : i_Rel k u v) (hk : k + 3 ≤ 1536) (v1 : Int32) (v2 : Int32) : wpX_link (fun r u' => wpY_link (fun r' v' => r' = r ∧ i_Rel (k + 3) u' v') v v1 v2) u v1 v2 := by
  obtain ⟨p, w, rfl, rfl, hA⟩ := I
  unfold wpX_link wpY_link
  dsimp only
  rcases lf_ib v1 with hb | ⟨c, hc, rfl⟩
  · refine lf_isF hb (br_t rfl ?_)
    exact lf_badT hb (br_f lf_10 ⟨rfl, lf_rel hA⟩)
  · refine lf_isT hc (br_f lf_10 ?_)
    rcases lf_ib v2 with hb | ⟨q, hq, rfl⟩
    · refine lf_isF hb (br_t rfl ?_)
      refine lf_badF hc (br_t rfl ?_)
      exact lf_badT hb (br_f lf_10 ⟨rfl, lf_rel hA⟩)
    · refine lf_isT hq (br_f lf_10 ⟨lf_inn hc, ?_⟩)
      rcases lf_at hA hc with e | ⟨i, hi, e⟩
      · have e1 : p (nI c).toNatClampNeg = -1 := (lf_pc hc).trans e
        have e2 : ¬ (0 : Int32) ≤ p (nI c).toNatClampNeg := by rw [e1]; exact lf_m1
        obtain ⟨l, hl⟩ := hA q hq
        obtain ⟨t, rfl, -⟩ := lf_cons hq hl
        refine br_t e1 (lf_xtop hl ?_)
        by_cases g : nI (lf_end q t) = nI c
        · refine br_t g ?_
          refine lf_badF hc (br_t rfl ?_)
          refine lf_badF hq (br_t rfl ⟨lf_inn hc, br_f e2 ?_⟩)
          exact lf_ytop hl (br_t g ⟨rfl, lf_rel hA⟩)
        · have hn : c ∉ q :: t := fun m => g (congrArg nI (lf_endmem e t q hl m))
          refine br_f g ⟨lf_inn hc, nm_r (lf_uc hc) ?_⟩
          refine lf_badF hc (br_t rfl ?_)
          refine lf_badF hq (br_t rfl ⟨lf_inn hc, br_f e2 ?_⟩)
          exact lf_ytop hl (br_f g ⟨lf_inn hc, nm_r (lf_uc hc) ⟨rfl, lf_rel (lf_mv hA hl hn)⟩⟩)
      · have e1 : ¬ p (nI c).toNatClampNeg = -1 := by rw [lf_pc (p := p) hc, e]; exact lf_ne hi
        have e2 : (0 : Int32) ≤ p (nI c).toNatClampNeg := by rw [lf_pc (p := p) hc, e]; exact lf_ge hi
        refine br_f e1 ?_
        refine lf_badF hc (br_t rfl ?_)
        exact lf_badF hq (br_t rfl ⟨lf_inn hc, br_t e2 ⟨rfl, lf_rel hA⟩⟩)
theorem i_vc_cut {k : Nat} {u : SX} {v : SY} (I : i_Rel k u v) (hk : k + 3 ≤ 1536) (v1 : Int32) : wpX_cut (fun r u' => wpY_cut (fun r' v' => r' = r ∧ i_Rel (k + 3) u' v') v v1) u v1 := by
  obtain ⟨p, w, rfl, rfl, hA⟩ := I
  unfold wpX_cut wpY_cut
  dsimp only
  rcases lf_ib v1 with hb | ⟨c, hc, rfl⟩
  · refine lf_isF hb (br_t rfl ?_)
    exact lf_badT hb (br_f lf_10 ⟨rfl, lf_rel hA⟩)
  · refine lf_isT hc (br_f lf_10 ⟨lf_inn hc, nm_e ⟨lf_inn hc, nm_r (lf_uc hc) ?_⟩⟩)
    have h0 : lf_way p (-1) [] := rfl
    exact lf_badF hc (br_t rfl ⟨lf_inn hc, nm_e ⟨lf_inn hc, nm_r (lf_uc hc) ⟨rfl, lf_rel (lf_mv hA h0 List.not_mem_nil)⟩⟩⟩)
theorem i_vc_turn {k : Nat} {u : SX} {v : SY} (I : i_Rel k u v) (hk : k + 3 ≤ 1536) (v1 : Int32) : wpX_turn (fun r u' => wpY_turn (fun r' v' => r' = r ∧ i_Rel (k + 3) u' v') v v1) u v1 := by
  obtain ⟨p, w, rfl, rfl, hA⟩ := I
  unfold wpX_turn wpY_turn
  dsimp only
  rcases lf_ib v1 with hb | ⟨c, hc, rfl⟩
  · refine lf_isF hb (br_t rfl ?_)
    exact lf_badT hb (br_f lf_10 ⟨rfl, lf_rel hA⟩)
  · obtain ⟨l, hl⟩ := hA c hc
    have g := lf_len hl
    have h0 : lf_way p (-1) [] := rfl
    obtain ⟨r, p', hA', hX, hY⟩ := lf_turn w l p (-1) (nI c) [] hA hl h0 (fun _ _ => List.not_mem_nil)
    refine lf_isT hc (br_f lf_10 ⟨25, hX _ 0 25 (by omega) (by omega) ?_⟩)
    exact lf_badF hc (br_t rfl ⟨25, hY _ 25 (by omega) ⟨rfl, lf_rel hA'⟩⟩)
theorem i_vc_set {k : Nat} {u : SX} {v : SY} (I : i_Rel k u v) (hk : k + 3 ≤ 1536) (v1 : Int32) (v2 : Int32) : wpX_set (fun r u' => wpY_set (fun r' v' => r' = r ∧ i_Rel (k + 3) u' v') v v1 v2) u v1 v2 := by
  obtain ⟨p, w, rfl, rfl, hA⟩ := I
  unfold wpX_set wpY_set
  dsimp only
  rcases lf_ib v1 with hb | ⟨c, hc, rfl⟩
  · refine lf_isF hb (br_t rfl ?_)
    exact lf_badT hb (br_f lf_10 ⟨rfl, lf_rel hA⟩)
  · refine lf_isT hc (br_f lf_10 ⟨lf_inn hc, nm_e ⟨lf_inn hc, nm_e ?_⟩⟩)
    exact lf_badF hc (br_t rfl ⟨lf_inn hc, nm_e ⟨lf_inn hc, nm_e ⟨rfl, lf_rel hA⟩⟩⟩)
theorem i_vc_paint {k : Nat} {u : SX} {v : SY} (I : i_Rel k u v) (hk : k + 3 ≤ 1536) (v1 : Int32) (v2 : Int32) : wpX_paint (fun r u' => wpY_paint (fun r' v' => r' = r ∧ i_Rel (k + 3) u' v') v v1 v2) u v1 v2 := by
  obtain ⟨p, w, rfl, rfl, hA⟩ := I
  unfold wpX_paint wpY_paint
  dsimp only
  rcases lf_ib v1 with hb | ⟨c, hc, rfl⟩
  · refine lf_isF hb (br_t rfl ?_)
    exact lf_badT hb (br_f lf_10 ⟨rfl, lf_rel hA⟩)
  · obtain ⟨l, hl⟩ := hA c hc
    have g := lf_len hl
    obtain ⟨r, w', hX, hY⟩ := lf_paint p v2 l w 0 (nI c) hl
    refine lf_isT hc (br_f lf_10 ⟨25, hX _ 0 25 (by omega) (by omega) ?_⟩)
    exact lf_badF hc (br_t rfl ⟨25, hY _ 25 (by omega) ⟨rfl, lf_rel hA⟩⟩)
theorem i_vc_root {k : Nat} {u : SX} {v : SY} (I : i_Rel k u v) (hk : k + 3 ≤ 1536) (v1 : Int32) : wpX_root (fun r => wpY_root (fun r' => r' = r ∧ i_Rel (k + 3) u v) v v1) u v1 := by
  obtain ⟨p, w, rfl, rfl, hA⟩ := I
  unfold wpX_root
  dsimp only
  rcases lf_ib v1 with hb | ⟨c, hc, rfl⟩
  · refine lf_isF hb (br_t rfl ?_)
    unfold wpY_root
    dsimp only
    exact lf_badT hb (br_f lf_10 ⟨rfl, lf_rel hA⟩)
  · obtain ⟨l, hl⟩ := hA c hc
    obtain ⟨t, rfl, -⟩ := lf_cons hc hl
    refine lf_isT hc (br_f lf_10 (lf_xtop hl ?_))
    exact lf_ytop hl ⟨rfl, lf_rel hA⟩
theorem i_vc_parent {k : Nat} {u : SX} {v : SY} (I : i_Rel k u v) (hk : k + 3 ≤ 1536) (v1 : Int32) : wpX_parent (fun r => wpY_parent (fun r' => r' = r ∧ i_Rel (k + 3) u v) v v1) u v1 := by
  obtain ⟨p, w, rfl, rfl, hA⟩ := I
  unfold wpX_parent wpY_parent
  dsimp only
  rcases lf_ib v1 with hb | ⟨c, hc, rfl⟩
  · refine lf_isF hb (br_t rfl ?_)
    exact lf_badT hb (br_f lf_10 ⟨rfl, lf_rel hA⟩)
  · refine lf_isT hc (br_f lf_10 ⟨lf_inn hc, ?_⟩)
    exact lf_badF hc (br_t rfl ⟨lf_inn hc, rfl, lf_rel hA⟩)
theorem i_vc_depth {k : Nat} {u : SX} {v : SY} (I : i_Rel k u v) (hk : k + 3 ≤ 1536) (v1 : Int32) : wpX_depth (fun r => wpY_depth (fun r' => r' = r ∧ i_Rel (k + 3) u v) v v1) u v1 := by
  obtain ⟨p, w, rfl, rfl, hA⟩ := I
  unfold wpX_depth wpY_depth
  dsimp only
  rcases lf_ib v1 with hb | ⟨c, hc, rfl⟩
  · refine lf_isF hb (br_t rfl ?_)
    exact lf_badT hb (br_f lf_10 ⟨rfl, lf_rel hA⟩)
  · obtain ⟨l, hl⟩ := hA c hc
    obtain ⟨t, rfl, ht⟩ := lf_cons hc hl
    have g := lf_len ht
    obtain ⟨r, hX, hY⟩ := lf_depth p w t 0 c hc ht
    refine lf_isT hc (br_f lf_10 ⟨lf_inn hc, nm_r (lf_pc hc) ⟨25, hX _ 0 25 (by omega) (by omega) ?_⟩⟩)
    exact lf_badF hc (br_t rfl ⟨25, hY _ 25 (by omega) ⟨rfl, lf_rel hA⟩⟩)
theorem i_vc_sumUp {k : Nat} {u : SX} {v : SY} (I : i_Rel k u v) (hk : k + 3 ≤ 1536) (v1 : Int32) : wpX_sumUp (fun r => wpY_sumUp (fun r' => r' = r ∧ i_Rel (k + 3) u v) v v1) u v1 := by
  obtain ⟨p, w, rfl, rfl, hA⟩ := I
  unfold wpX_sumUp wpY_sumUp
  dsimp only
  rcases lf_ib v1 with hb | ⟨c, hc, rfl⟩
  · refine lf_isF hb (br_t rfl ?_)
    exact lf_badT hb (br_f lf_10 ⟨rfl, lf_rel hA⟩)
  · obtain ⟨l, hl⟩ := hA c hc
    have g := lf_len hl
    obtain ⟨r, hX, hY⟩ := lf_sumUp p w l 0 (nI c) hl
    refine lf_isT hc (br_f lf_10 ⟨25, hX _ 0 25 (by omega) (by omega) ?_⟩)
    exact lf_badF hc (br_t rfl ⟨25, hY _ 25 (by omega) ⟨rfl, lf_rel hA⟩⟩)
theorem i_vc_leastUp {k : Nat} {u : SX} {v : SY} (I : i_Rel k u v) (hk : k + 3 ≤ 1536) (v1 : Int32) : wpX_leastUp (fun r => wpY_leastUp (fun r' => r' = r ∧ i_Rel (k + 3) u v) v v1) u v1 := by
  obtain ⟨p, w, rfl, rfl, hA⟩ := I
  unfold wpX_leastUp wpY_leastUp
  dsimp only
  rcases lf_ib v1 with hb | ⟨c, hc, rfl⟩
  · refine lf_isF hb (br_t rfl ?_)
    exact lf_badT hb (br_f lf_10 ⟨rfl, lf_rel hA⟩)
  · obtain ⟨l, hl⟩ := hA c hc
    obtain ⟨t, rfl, ht⟩ := lf_cons hc hl
    have g := lf_len ht
    obtain ⟨r, hX, hY⟩ := lf_leastUp p w t (w c) (p c) ht
    refine lf_isT hc (br_f lf_10 ⟨lf_inn hc, nm_r (lf_pc hc) ⟨lf_inn hc, nm_r (lf_pc hc) ⟨25, hX _ 0 25 (by omega) (by omega) ?_⟩⟩⟩)
    exact lf_badF hc (br_t rfl ⟨lf_inn hc, nm_r (lf_pc hc) ⟨lf_inn hc, nm_r (lf_pc hc) ⟨25, hY _ 25 (by omega) ⟨rfl, lf_rel hA⟩⟩⟩⟩)
theorem i_vc_meet {k : Nat} {u : SX} {v : SY} (I : i_Rel k u v) (hk : k + 3 ≤ 1536) (v1 : Int32) (v2 : Int32) : wpX_meet (fun r => wpY_meet (fun r' => r' = r ∧ i_Rel (k + 3) u v) v v1 v2) u v1 v2 := by
  obtain ⟨p, w, rfl, rfl, hA⟩ := I
  unfold wpX_meet wpY_meet
  dsimp only
  rcases lf_ib v1 with hb | ⟨c, hc, rfl⟩
  · refine lf_isF hb (br_t rfl ?_)
    exact lf_badT hb (br_f lf_10 ⟨rfl, lf_rel hA⟩)
  · refine lf_isT hc (br_f lf_10 ?_)
    rcases lf_ib v2 with hb | ⟨q, hq, rfl⟩
    · refine lf_isF hb (br_t rfl ?_)
      refine lf_badF hc (br_t rfl ?_)
      exact lf_badT hb (br_f lf_10 ⟨rfl, lf_rel hA⟩)
    · obtain ⟨l, hl⟩ := hA c hc
      have g := lf_len hl
      obtain ⟨r, hX, hY⟩ := lf_meet w hA hq l (nI c) hl
      refine lf_isT hq (br_f lf_10 ⟨25, hX _ 0 25 (by omega) (by omega) ?_⟩)
      refine lf_badF hc (br_t rfl ?_)
      exact lf_badF hq (br_t rfl ⟨25, hY _ 25 (by omega) ⟨rfl, lf_rel hA⟩⟩)
theorem i_vc_sumPart {k : Nat} {u : SX} {v : SY} (I : i_Rel k u v) (hk : k + 3 ≤ 1536) (v1 : Int32) : wpX_sumPart (fun r => wpY_sumPart (fun r' => r' = r ∧ i_Rel (k + 3) u v) v v1) u v1 := by
  obtain ⟨p, w, rfl, rfl, hA⟩ := I
  unfold wpX_sumPart wpY_sumPart
  dsimp only
  rcases lf_ib v1 with hb | ⟨c, hc, rfl⟩
  · refine lf_isF hb (br_t rfl ?_)
    exact lf_badT hb (br_f lf_10 ⟨rfl, lf_rel hA⟩)
  · obtain ⟨r, hX, hY⟩ := lf_sumPart w hA hc 24 0 0 rfl
    refine lf_isT hc (br_f lf_10 ⟨25, hX _ 25 (by omega) ?_⟩)
    exact lf_badF hc (br_t rfl ⟨25, hY _ 25 (by omega) ⟨rfl, lf_rel hA⟩⟩)
end
