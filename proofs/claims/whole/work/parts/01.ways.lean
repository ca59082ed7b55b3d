/-- the way upwards from x over the parents p: the nodes on it, in order -/
def lf_way (p : Nat → Int32) : Int32 → List Nat → Prop
  | x, [] => x = -1
  | x, j :: l => x = nI j ∧ j < 24 ∧ lf_way p (p j) l
/-- from every node the way upwards ends -/
def lf_A (p : Nat → Int32) : Prop := ∀ j, j < 24 → ∃ l, lf_way p (nI j) l
/-- the last node of the way that begins with j and goes on with the list -/
def lf_end : Nat → List Nat → Nat
  | j, [] => j
  | _, i :: l => lf_end i l
theorem lf_us {f : Nat → Int32} {k : Nat} {x : Int32} : upd f k x k = x := if_pos rfl
theorem lf_un {f : Nat → Int32} {k j : Nat} {x : Int32} (h : j ≠ k) : upd f k x j = f j := if_neg h
theorem lf_24 : nI 24 = 24 := by decide +kernel
theorem lf_cl {j : Nat} (h : j < 24) : (nI j).toNatClampNeg = j := nI_clamp (by omega)
theorem lf_inn {j : Nat} (h : j < 24) : vp_in (nI j) 24 := vp_in_nI h (by omega)
theorem lf_ge {j : Nat} (h : j < 24) : (0 : Int32) ≤ nI j := nI_pos' (by omega)
theorem lf_nneg {j : Nat} (h : j < 24) : ¬ nI j < 0 := nI_pos (by omega)
theorem lf_m1 : ¬ (0 : Int32) ≤ -1 := by decide
theorem lf_ne {j : Nat} (h : j < 24) : ¬ nI j = -1 := fun e => by
  have g := lf_ge h
  rw [e] at g
  exact lf_m1 g
theorem lf_inj {i j : Nat} (hi : i < 24) (hj : j < 24) (e : nI i = nI j) : i = j :=
  (nI_eq (by omega) (by omega)).mp e
theorem lf_lt24 {j : Nat} (h : j < 24) : nI j < 24 := by
  rw [← lf_24]; exact nI_lt h (by omega)
theorem lf_nge24 {j : Nat} (h : j < 24) : ¬ (24 : Int32) ≤ nI j := by
  rw [← lf_24]; exact nI_ge h (by omega)
/-- an int is a node or it is none: below 0, or from 24 on -/
theorem lf_ix (x : Int32) : x < 0 ∨ (24 : Int32) ≤ x ∨ ∃ j : Nat, j < 24 ∧ x = nI j := by
  by_cases h0 : x < 0
  · exact Or.inl h0
  · obtain ⟨j, hj, rfl⟩ := nI_of h0
    by_cases h : j < 24
    · exact Or.inr (Or.inr ⟨j, h, rfl⟩)
    · refine Or.inr (Or.inl ?_)
      rw [← lf_24]
      exact nI_le (by omega) hj
theorem lf_mk {p : Nat → Int32} {j : Nat} {l : List Nat} (hj : j < 24) (h : lf_way p (p j) l) : lf_way p (nI j) (j :: l) := ⟨rfl, hj, h⟩
theorem lf_uniq {p : Nat → Int32} : ∀ (l l' : List Nat) (x : Int32), lf_way p x l → lf_way p x l' → l = l'
  | [], [], _, _, _ => rfl
  | [], _ :: _, _, h, h' => absurd (h'.1.symm.trans h) (lf_ne h'.2.1)
  | _ :: _, [], _, h, h' => absurd (h.1.symm.trans h') (lf_ne h.2.1)
  | i :: l, j :: l', _, h, h' => by
    have e : i = j := lf_inj h.2.1 h'.2.1 (h.1.symm.trans h'.1)
    cases e
    rw [lf_uniq l l' _ h.2.2 h'.2.2]
theorem lf_suf {p : Nat → Int32} : ∀ (s : List Nat) (t : List Nat) (x : Int32) (c : Nat), lf_way p x (s ++ c :: t) → lf_way p (nI c) (c :: t)
  | [], _, _, _, h => ⟨rfl, h.2.1, h.2.2⟩
  | _ :: s, t, _, c, h => lf_suf s t _ c h.2.2
theorem lf_lt {p : Nat → Int32} : ∀ (l : List Nat) (x : Int32), lf_way p x l → ∀ a, a ∈ l → a < 24
  | [], _, _, _, m => absurd m List.not_mem_nil
  | j :: l, _, h, a, m => by
    rcases List.mem_cons.mp m with e | m'
    · rw [e]; exact h.2.1
    · exact lf_lt l _ h.2.2 a m'
theorem lf_nd {p : Nat → Int32} : ∀ (l : List Nat) (x : Int32), lf_way p x l → l.Nodup
  | [], _, _ => List.nodup_nil
  | j :: l, _, h => by
    refine List.nodup_cons.mpr ⟨fun m => ?_, lf_nd l _ h.2.2⟩
    obtain ⟨s, t, e⟩ := List.append_of_mem m
    have h1 : lf_way p (nI j) (j :: l) := lf_mk h.2.1 h.2.2
    have h0 : lf_way p (p j) (s ++ j :: t) := e ▸ h.2.2
    have h2 : lf_way p (nI j) (j :: t) := lf_suf s t _ j h0
    have h4 := congrArg List.length (lf_uniq _ _ _ h1 h2)
    rw [e] at h4
    simp only [List.length_cons, List.length_append] at h4
    omega
theorem lf_len {p : Nat → Int32} {l : List Nat} {x : Int32} (h : lf_way p x l) : l.length ≤ 24 := by
  have hs : l ⊆ List.range 24 := fun a m => List.mem_range.mpr (lf_lt l x h a m)
  have g := List.Nodup.length_le_of_subset (lf_nd l x h) hs
  rw [List.length_range] at g
  exact g
theorem lf_frame {p : Nat → Int32} {c : Nat} {y : Int32} : ∀ (l : List Nat) (x : Int32), lf_way p x l → c ∉ l → lf_way (upd p c y) x l
  | [], _, h, _ => h
  | j :: l, _, h, m => by
    have hne : j ≠ c := fun e => m (by rw [e]; exact List.mem_cons_self)
    refine ⟨h.1, h.2.1, ?_⟩
    rw [lf_un hne]
    exact lf_frame l _ h.2.2 (fun q => m (List.mem_cons_of_mem _ q))
theorem lf_join {p : Nat → Int32} {c : Nat} {y : Int32} {r t : List Nat} (hy : lf_way (upd p c y) y r) : ∀ (s : List Nat) (x : Int32), lf_way p x (s ++ c :: t) → c ∉ s → lf_way (upd p c y) x (s ++ c :: r)
  | [], _, h, _ => ⟨h.1, h.2.1, by rw [lf_us]; exact hy⟩
  | j :: s, _, h, m => by
    have hne : j ≠ c := fun e => m (by rw [e]; exact List.mem_cons_self)
    refine ⟨h.1, h.2.1, ?_⟩
    rw [lf_un hne]
    exact lf_join hy s _ h.2.2 (fun q => m (List.mem_cons_of_mem _ q))
/-- node c gets y above it, and c is not on the way from y: every way ends again -/
theorem lf_mv {p : Nat → Int32} {c : Nat} {y : Int32} {r : List Nat} (hA : lf_A p) (hr : lf_way p y r) (hc : c ∉ r) : lf_A (upd p c y) := by
  intro j hj
  obtain ⟨l, hl⟩ := hA j hj
  by_cases m : c ∈ l
  · obtain ⟨s, t, e⟩ := List.append_of_mem m
    subst e
    have nd := List.nodup_append.mp (lf_nd _ _ hl)
    have hs : c ∉ s := fun q => nd.2.2 c q c List.mem_cons_self rfl
    exact ⟨_, lf_join (lf_frame r y hr hc) s _ hl hs⟩
  · exact ⟨l, lf_frame l _ hl m⟩
/-- a root on the way is the way's last node -/
theorem lf_endmem {p : Nat → Int32} {c : Nat} (hp : p c = -1) : ∀ (l : List Nat) (j : Nat), lf_way p (nI j) (j :: l) → c ∈ j :: l → lf_end j l = c
  | [], j, _, m => by
    rcases List.mem_cons.mp m with e | m'
    · exact e.symm
    · exact absurd m' List.not_mem_nil
  | i :: l, j, h, m => by
    have h2 : lf_way p (p j) (i :: l) := h.2.2
    rcases List.mem_cons.mp m with e | m'
    · subst e
      exact absurd (h2.1.symm.trans hp) (lf_ne h2.2.1)
    · exact lf_endmem hp l i (lf_mk h2.2.1 h2.2.2) m'
theorem lf_end_lt {p : Nat → Int32} : ∀ (l : List Nat) (j : Nat), lf_way p (nI j) (j :: l) → lf_end j l < 24
  | [], _, h => h.2.1
  | _ :: l, _, h => lf_end_lt l _ (lf_mk h.2.2.2.1 h.2.2.2.2)
theorem lf_cons {p : Nat → Int32} {j : Nat} {l : List Nat} (hj : j < 24) (h : lf_way p (nI j) l) : ∃ t, l = j :: t ∧ lf_way p (p j) t := by
  cases l with
  | nil => exact absurd h (lf_ne hj)
  | cons i t =>
    have e : j = i := lf_inj hj h.2.1 h.1
    subst e
    exact ⟨t, rfl, h.2.2⟩
theorem lf_A0 : lf_A (fun _ => -1) := fun j hj => ⟨[j], rfl, hj, rfl⟩
/-- what stands above a node: nothing, or a node -/
theorem lf_at {p : Nat → Int32} {j : Nat} (hA : lf_A p) (hj : j < 24) : p j = -1 ∨ ∃ i, i < 24 ∧ p j = nI i := by
  obtain ⟨l, hl⟩ := hA j hj
  obtain ⟨t, rfl, ht⟩ := lf_cons hj hl
  cases t with
  | nil => exact Or.inl ht
  | cons i t => exact Or.inr ⟨i, ht.2.1, ht.1⟩
