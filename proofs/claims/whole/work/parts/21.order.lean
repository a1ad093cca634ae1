/-! ORDER -/
def la (fr to : Nat → Int32) (a b : Nat) : Prop := (fr a).toInt < (fr b).toInt ∨ ((fr a).toInt = (fr b).toInt ∧ ((to a).toInt < (to b).toInt ∨ ((to a).toInt = (to b).toInt ∧ a < b)))
theorem la_irr {fr to : Nat → Int32} {a : Nat} : ¬ la fr to a a := by unfold la; omega
theorem la_tr {fr to : Nat → Int32} {a b c : Nat} (h1 : la fr to a b) (h2 : la fr to b c) : la fr to a c := by unfold la at *; omega
theorem la_tot {fr to : Nat → Int32} {a b : Nat} (h : a ≠ b) (h2 : ¬ la fr to a b) : la fr to b a := by unfold la at *; omega
theorem la_as {fr to : Nat → Int32} {a b : Nat} (h1 : la fr to a b) (h2 : la fr to b a) : False := by unfold la at *; omega
theorem la_le {fr to : Nat → Int32} {a b : Nat} (h1 : la fr to a b) : (fr a).toInt ≤ (fr b).toInt := by unfold la at *; omega
theorem la_cg {fr to fr2 to2 : Nat → Int32} {a b : Nat} (ha : fr2 a = fr a ∧ to2 a = to a) (hb : fr2 b = fr b ∧ to2 b = to b) (h1 : la fr to a b) : la fr2 to2 a b := by
  unfold la at *
  rw [ha.1, ha.2, hb.1, hb.2]
  exact h1
theorem pigeon : ∀ (m n : Nat) (f : Nat → Nat), (∀ i, i < n → f i < m) → (∀ i j, i < n → j < n → f i = f j → i = j) → n ≤ m := by
  intro m
  induction m with
  | zero =>
    intro n f h1 _
    rcases Nat.eq_zero_or_pos n with h | h
    · omega
    · exact absurd (h1 0 h) (by omega)
  | succ m ih =>
    intro n f h1 h2
    by_cases hx : ∃ i, i < n ∧ f i = m
    · obtain ⟨i0, hi, e⟩ := hx
      have := ih (n - 1) (fun i => if i < i0 then f i else f (i + 1)) (fun i hn => by
        by_cases c : i < i0
        · simp only [c, if_true]
          have a1 := h1 i (by omega)
          have a2 : f i ≠ m := fun z => absurd (h2 i i0 (by omega) hi (z.trans e.symm)) (by omega)
          omega
        · simp only [c, if_false]
          have a1 := h1 (i + 1) (by omega)
          have a2 : f (i + 1) ≠ m := fun z => absurd (h2 (i + 1) i0 (by omega) hi (z.trans e.symm)) (by omega)
          omega) (fun i j hn1 hn2 ee => by
        by_cases c : i < i0 <;> by_cases c2 : j < i0 <;> simp only [c, c2, if_true, if_false] at ee
        · exact h2 i j (by omega) (by omega) ee
        · have := h2 i (j + 1) (by omega) (by omega) ee; omega
        · have := h2 (i + 1) j (by omega) (by omega) ee; omega
        · have := h2 (i + 1) (j + 1) (by omega) (by omega) ee; omega)
      omega
    · have := ih n f (fun i hn => by
        have a1 := h1 i hn
        have a2 : f i ≠ m := fun z => hx ⟨i, hn, z⟩
        omega) h2
      omega
/-- the keys that are there, in ORDER: n of them, K tells which -/
def Ord (th fr to : Nat → Int32) (n : Nat) (K : Nat → Nat) : Prop := (∀ i, i < n → K i < 48 ∧ th (K i) = 1) ∧ (∀ i j, i < j → j < n → la fr to (K i) (K j)) ∧ (∀ k, k < 48 → th k = 1 → ∃ i, i < n ∧ K i = k)
theorem Ord.inj {th fr to : Nat → Int32} {n : Nat} {K : Nat → Nat} (h : Ord th fr to n K) {i j : Nat} (hi : i < n) (hj : j < n) (e : K i = K j) : i = j := by
  rcases Nat.lt_trichotomy i j with c | c | c
  · have := h.2.1 i j c hj
    rw [e] at this
    exact absurd this la_irr
  · exact c
  · have := h.2.1 j i c hi
    rw [e] at this
    exact absurd this la_irr
theorem Ord.le {th fr to : Nat → Int32} {n : Nat} {K : Nat → Nat} (h : Ord th fr to n K) : n ≤ 48 := pigeon 48 n K (fun i hi => (h.1 i hi).1) (fun i j hi hj e => h.inj hi hj e)
theorem Ord.lt {th fr to : Nat → Int32} {n : Nat} {K : Nat → Nat} (h : Ord th fr to n K) {k : Nat} (hk : k < 48) (hn : th k ≠ 1) : n < 48 := by
  have := pigeon 48 (n + 1) (fun i => if i < n then K i else k) (fun i hi => by
    by_cases c : i < n
    · simp only [c, if_true]; exact (h.1 i c).1
    · simp only [c, if_false]; exact hk) (fun i j hi hj e => by
    by_cases c : i < n <;> by_cases c2 : j < n <;> simp only [c, c2, if_true, if_false] at e
    · exact h.inj c c2 e
    · exact absurd (e ▸ (h.1 i c).2) hn
    · exact absurd (e.symm ▸ (h.1 j c2).2) hn
    · omega)
  omega
theorem Ord.cg {th fr to th2 fr2 to2 : Nat → Int32} {n : Nat} {K : Nat → Nat} (h : Ord th fr to n K) (e : ∀ k, k < 48 → th2 k = th k ∧ (th k = 1 → fr2 k = fr k ∧ to2 k = to k)) : Ord th2 fr2 to2 n K := by
  refine ⟨fun i hi => ⟨(h.1 i hi).1, ?_⟩, fun i j hij hj => ?_, fun k hk hth => ?_⟩
  · rw [(e _ (h.1 i hi).1).1]
    exact (h.1 i hi).2
  · have a := h.1 i (by omega)
    have b := h.1 j hj
    exact la_cg ((e _ a.1).2 a.2) ((e _ b.1).2 b.2) (h.2.1 i j hij hj)
  · exact h.2.2 k hk (by rw [← (e k hk).1]; exact hth)
theorem Ord.uniq {th fr to : Nat → Int32} {n n2 : Nat} {K K2 : Nat → Nat} (h : Ord th fr to n K) (h2 : Ord th fr to n2 K2) : n = n2 ∧ ∀ i, i < n → K i = K2 i := by
  have key : ∀ i, i < n → i < n2 → K i = K2 i := by
    intro i
    induction i using Nat.strongRecOn with
    | ind i ih =>
      intro hi hi2
      obtain ⟨j, hj, ej⟩ := h2.2.2 (K i) (h.1 i hi).1 (h.1 i hi).2
      obtain ⟨j2, hj2, ej2⟩ := h.2.2 (K2 i) (h2.1 i hi2).1 (h2.1 i hi2).2
      have c1 : ¬ j < i := fun c => by
        have := ih j c (by omega) hj
        have := h.inj (i := j) (j := i) (by omega) hi (this.trans ej)
        omega
      have c2 : ¬ j2 < i := fun c => by
        have := ih j2 c hj2 (by omega)
        have := h2.inj (i := j2) (j := i) (by omega) hi2 (this.symm.trans ej2)
        omega
      rcases Nat.lt_or_ge i j with c | c
      · rcases Nat.lt_or_ge i j2 with d | d
        · have a1 := h2.2.1 i j c hj
          have a2 := h.2.1 i j2 d hj2
          rw [ej] at a1
          rw [ej2] at a2
          exact absurd (la_as a1 a2) id
        · have : j2 = i := by omega
          subst this
          exact ej2
      · have : j = i := by omega
        subst this
        exact ej.symm
  have a : n ≤ n2 := by
    rcases Nat.lt_or_ge n2 n with c | c
    · obtain ⟨j, hj, ej⟩ := h2.2.2 (K n2) (h.1 n2 c).1 (h.1 n2 c).2
      have := key j (by omega) hj
      have := h.inj (i := j) (j := n2) (by omega) c (this.trans ej)
      omega
    · exact c
  have b : n2 ≤ n := by
    rcases Nat.lt_or_ge n n2 with c | c
    · obtain ⟨j, hj, ej⟩ := h.2.2 (K2 n) (h2.1 n c).1 (h2.1 n c).2
      have := key j hj (by omega)
      have := h2.inj (i := j) (j := n) (by omega) c (this.symm.trans ej)
      omega
    · exact c
  have e : n = n2 := by omega
  exact ⟨e, fun i hi => key i hi (by omega)⟩
def insK (K : Nat → Nat) (v k : Nat) : Nat → Nat := fun i => if i < v then K i else if i = v then k else K (i - 1)
def delK (K : Nat → Nat) (p : Nat) : Nat → Nat := fun i => if i < p then K i else K (i + 1)
theorem ins_lt {K : Nat → Nat} {v k i : Nat} (h : i < v) : insK K v k i = K i := by simp [insK, h]
theorem ins_eq {K : Nat → Nat} {v k : Nat} : insK K v k v = k := by simp [insK]
theorem ins_gt {K : Nat → Nat} {v k i : Nat} (h : v < i) : insK K v k i = K (i - 1) := by simp [insK, show ¬ i < v by omega, show i ≠ v by omega]
theorem Ord.ins {th fr to : Nat → Int32} {n : Nat} {K : Nat → Nat} (h : Ord th fr to n K) {v k : Nat} (hk : k < 48) (hv : v ≤ n) (h1 : ∀ i, v ≤ i → i < n → la fr to k (K i)) (h2 : ∀ i, i < v → la fr to (K i) k) : Ord (upd th k 1) fr to (n + 1) (insK K v k) := by
  refine ⟨fun i hi => ?_, fun i j hij hj => ?_, fun x hx hth => ?_⟩
  · rcases Nat.lt_trichotomy i v with c | c | c
    · rw [ins_lt c]
      refine ⟨(h.1 i (by omega)).1, ?_⟩
      by_cases e : K i = k
      · rw [e, up_s]
      · rw [up_n _ _ e]; exact (h.1 i (by omega)).2
    · subst c
      rw [ins_eq, up_s]
      exact ⟨hk, rfl⟩
    · rw [ins_gt c]
      refine ⟨(h.1 (i - 1) (by omega)).1, ?_⟩
      by_cases e : K (i - 1) = k
      · rw [e, up_s]
      · rw [up_n _ _ e]; exact (h.1 (i - 1) (by omega)).2
  · rcases Nat.lt_trichotomy i v with c | c | c
    · rw [ins_lt c]
      rcases Nat.lt_trichotomy j v with d | d | d
      · rw [ins_lt d]; exact h.2.1 i j hij (by omega)
      · subst d; rw [ins_eq]; exact h2 i c
      · rw [ins_gt d]; exact h.2.1 i (j - 1) (by omega) (by omega)
    · subst c
      rw [ins_eq, ins_gt hij]
      exact h1 (j - 1) (by omega) (by omega)
    · rw [ins_gt c, ins_gt (by omega)]
      exact h.2.1 (i - 1) (j - 1) (by omega) (by omega)
  · by_cases e : x = k
    · exact ⟨v, by omega, by rw [ins_eq, e]⟩
    · rw [up_n _ _ e] at hth
      obtain ⟨i, hi, ei⟩ := h.2.2 x hx hth
      by_cases c : i < v
      · exact ⟨i, by omega, by rw [ins_lt c, ei]⟩
      · exact ⟨i + 1, by omega, by rw [ins_gt (by omega)]; exact ei⟩
theorem Ord.del {th fr to : Nat → Int32} {n : Nat} {K : Nat → Nat} (h : Ord th fr to (n + 1) K) {p : Nat} (hp : p < n + 1) : Ord (upd th (K p) 0) fr to n (delK K p) := by
  have at' : ∀ i, i < n → ∃ z, z < n + 1 ∧ z ≠ p ∧ delK K p i = K z ∧ z = if i < p then i else i + 1 := by
    intro i hi
    by_cases c : i < p
    · exact ⟨i, by omega, by omega, by simp [delK, c], by simp [c]⟩
    · exact ⟨i + 1, by omega, by omega, by simp [delK, c], by simp [c]⟩
  refine ⟨fun i hi => ?_, fun i j hij hj => ?_, fun x hx hth => ?_⟩
  · obtain ⟨z, h1, h2, e, -⟩ := at' i hi
    rw [e]
    refine ⟨(h.1 z h1).1, ?_⟩
    rw [up_n _ _ (fun q => h2 (h.inj h1 hp q))]
    exact (h.1 z h1).2
  · obtain ⟨z, h1, h2, e, ez⟩ := at' i (by omega)
    obtain ⟨y, g1, g2, f, ey⟩ := at' j hj
    rw [e, f]
    refine h.2.1 z y ?_ g1
    rw [ez, ey]
    by_cases c : i < p <;> by_cases d : j < p <;> simp only [c, d, if_true, if_false] <;> omega
  · by_cases e : x = K p
    · rw [e, up_s] at hth
      exact absurd hth (by decide)
    · rw [up_n _ _ e] at hth
      obtain ⟨i, hi, ei⟩ := h.2.2 x hx hth
      have hip : i ≠ p := fun q => e (by rw [← ei, q])
      by_cases c : i < p
      · exact ⟨i, by omega, by simp [delK, c, ei]⟩
      · exact ⟨i - 1, by omega, by
          have : ¬ i - 1 < p := by omega
          simp only [delK, this, if_false]
          rw [show i - 1 + 1 = i by omega]
          exact ei⟩
