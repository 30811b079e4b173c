def fl (k : Nat → Bool → List Nat) : Nat → Nat → List Nat
  | 0, _ => []
  | f + 1, n => (k n false).flatMap (fl k f) ++ n :: (k n true).flatMap (fl k f)
def tr_ok (k : Nat → Bool → List Nat) (M : Nat) : Prop := ∀ n b c, c ∈ k n b → n < c ∧ c < M
def tr_S (k : Nat → Bool → List Nat) (M n : Nat) : List Nat := fl k (M - n) n
theorem tr_fm {l : List Nat} {f g : Nat → List Nat} (h : ∀ x ∈ l, f x = g x) : l.flatMap f = l.flatMap g := by
  induction l with
  | nil => rfl
  | cons a l ih =>
    rw [List.flatMap_cons, List.flatMap_cons, h a List.mem_cons_self, ih (fun x hx => h x (List.mem_cons_of_mem _ hx))]
theorem tr_fuel {k : Nat → Bool → List Nat} {M : Nat} (hk : tr_ok k M) : ∀ (f f' n : Nat), n < M → M - n ≤ f → M - n ≤ f' → fl k f n = fl k f' n := by
  intro f
  induction f with
  | zero => intro f' n h1 h2; omega
  | succ f ih =>
    intro f' n h1 h2 h3
    cases f' with
    | zero => omega
    | succ f' =>
      have hc : ∀ b c, c ∈ k n b → fl k f c = fl k f' c := fun b c h => by
        have := hk n b c h
        exact ih f' c this.2 (by omega) (by omega)
      show (k n false).flatMap (fl k f) ++ n :: (k n true).flatMap (fl k f) = (k n false).flatMap (fl k f') ++ n :: (k n true).flatMap (fl k f')
      rw [tr_fm (hc false), tr_fm (hc true)]
theorem tr_unf {k : Nat → Bool → List Nat} {M n : Nat} (hk : tr_ok k M) (hn : n < M) : tr_S k M n = (k n false).flatMap (tr_S k M) ++ n :: (k n true).flatMap (tr_S k M) := by
  unfold tr_S
  obtain ⟨f, hf⟩ : ∃ f, M - n = f + 1 := ⟨M - n - 1, by omega⟩
  rw [hf]
  have hc : ∀ b c, c ∈ k n b → fl k f c = fl k (M - c) c := fun b c h => by
    have := hk n b c h
    exact tr_fuel hk f (M - c) c this.2 (by omega) (by omega)
  show (k n false).flatMap (fl k f) ++ n :: (k n true).flatMap (fl k f) = _
  rw [tr_fm (hc false), tr_fm (hc true)]
theorem tr_self {k : Nat → Bool → List Nat} {M n : Nat} (hk : tr_ok k M) (hn : n < M) : n ∈ tr_S k M n := by
  rw [tr_unf hk hn]
  exact List.mem_append_right _ List.mem_cons_self
theorem tr_ind {k : Nat → Bool → List Nat} {M : Nat} (hk : tr_ok k M) {P : Nat → Prop} (h : ∀ n, n < M → (∀ b c, c ∈ k n b → P c) → P n) : ∀ n, n < M → P n := by
  have key : ∀ d n, n < M → M - n ≤ d → P n := by
    intro d
    induction d with
    | zero => intro n h1 h2; omega
    | succ d ih =>
      intro n h1 h2
      exact h n h1 (fun b c hc => ih c (hk n b c hc).2 (by have := hk n b c hc; omega))
  exact fun n hn => key (M - n) n hn (Nat.le_refl _)
theorem tr_ge {k : Nat → Bool → List Nat} {M : Nat} (hk : tr_ok k M) : ∀ n, n < M → ∀ x ∈ tr_S k M n, n ≤ x ∧ x < M := by
  refine tr_ind hk (fun n hn ih x hx => ?_)
  rw [tr_unf hk hn] at hx
  rcases List.mem_append.mp hx with h | h
  · obtain ⟨c, hc, hx⟩ := List.mem_flatMap.mp h
    have := ih false c hc x hx
    have := hk n false c hc
    omega
  · rcases List.mem_cons.mp h with rfl | h
    · exact ⟨Nat.le_refl _, hn⟩
    · obtain ⟨c, hc, hx⟩ := List.mem_flatMap.mp h
      have := ih true c hc x hx
      have := hk n true c hc
      omega
theorem tr_part {k : Nat → Bool → List Nat} {M : Nat} (hk : tr_ok k M) (p : Nat) : ∀ n, n < M → p ∈ tr_S k M n → ∃ u v, tr_S k M n = u ++ tr_S k M p ++ v := by
  refine tr_ind hk (fun n hn ih hp => ?_)
  by_cases e : p = n
  · subst e
    exact ⟨[], [], by simp⟩
  · rw [tr_unf hk hn] at hp ⊢
    rcases List.mem_append.mp hp with h | h
    · obtain ⟨c, hc, hx⟩ := List.mem_flatMap.mp h
      obtain ⟨u, v, he⟩ := ih false c hc hx
      obtain ⟨a1, a2, ha⟩ := List.append_of_mem hc
      refine ⟨a1.flatMap (tr_S k M) ++ u, v ++ a2.flatMap (tr_S k M) ++ n :: (k n true).flatMap (tr_S k M), ?_⟩
      rw [ha, List.flatMap_append, List.flatMap_cons, he]
      simp [List.append_assoc]
    · rcases List.mem_cons.mp h with h | h
      · exact absurd h e
      · obtain ⟨c, hc, hx⟩ := List.mem_flatMap.mp h
        obtain ⟨u, v, he⟩ := ih true c hc hx
        obtain ⟨a1, a2, ha⟩ := List.append_of_mem hc
        refine ⟨(k n false).flatMap (tr_S k M) ++ n :: (a1.flatMap (tr_S k M) ++ u), v ++ a2.flatMap (tr_S k M), ?_⟩
        rw [ha, List.flatMap_append, List.flatMap_cons, he]
        simp [List.append_assoc]
def tr_put (k : Nat → Bool → List Nat) (p : Nat) (b : Bool) (l : List Nat) : Nat → Bool → List Nat := fun n c => if n = p ∧ c = b then l else k n c
theorem tr_put_at (k : Nat → Bool → List Nat) (p : Nat) (b : Bool) (l : List Nat) : tr_put k p b l p b = l := by simp [tr_put]
theorem tr_put_n {k : Nat → Bool → List Nat} {p : Nat} {b : Bool} {l : List Nat} {n : Nat} {c : Bool} (h : n ≠ p) : tr_put k p b l n c = k n c := by simp [tr_put, h]
theorem tr_put_c {k : Nat → Bool → List Nat} {p : Nat} {b : Bool} {l : List Nat} {n : Nat} {c : Bool} (h : c ≠ b) : tr_put k p b l n c = k n c := by simp [tr_put, h]
theorem tr_put_ok {k : Nat → Bool → List Nat} {M p e : Nat} {b : Bool} {l1 l2 : List Nat} (hk : tr_ok k M) (hl : k p b = l1 ++ l2) (h1 : p < e) (h2 : e < M) : tr_ok (tr_put k p b (l1 ++ e :: l2)) M := by
  intro n c x hx
  by_cases h : n = p ∧ c = b
  · obtain ⟨rfl, rfl⟩ := h
    rw [tr_put_at] at hx
    have hx' : x = e ∨ x ∈ k n c := by
      rw [hl]
      rcases List.mem_append.mp hx with h | h
      · exact Or.inr (List.mem_append_left _ h)
      · rcases List.mem_cons.mp h with h | h
        · exact Or.inl h
        · exact Or.inr (List.mem_append_right _ h)
    rcases hx' with rfl | h
    · exact ⟨h1, h2⟩
    · exact hk _ _ _ h
  · have he : tr_put k p b (l1 ++ e :: l2) n c = k n c := by simp [tr_put, h]
    rw [he] at hx
    exact hk _ _ _ hx
theorem tr_put_out {k : Nat → Bool → List Nat} {M p e : Nat} {b : Bool} {l1 l2 : List Nat} (hk : tr_ok k M) (hl : k p b = l1 ++ l2) (h1 : p < e) (h2 : e < M) : ∀ n, n < M → p ∉ tr_S k M n → tr_S (tr_put k p b (l1 ++ e :: l2)) M n = tr_S k M n := by
  have hk' := tr_put_ok hk hl h1 h2
  refine tr_ind hk (fun n hn ih hp => ?_)
  have hnp : n ≠ p := fun h => hp (h ▸ tr_self hk hn)
  rw [tr_unf hk' hn, tr_unf hk hn, tr_put_n hnp, tr_put_n hnp]
  rw [tr_unf hk hn] at hp
  have hc : ∀ s c, c ∈ k n s → tr_S (tr_put k p b (l1 ++ e :: l2)) M c = tr_S k M c := fun s c hc => ih s c hc (fun h => hp (by
    cases s
    · exact List.mem_append_left _ (List.mem_flatMap.mpr ⟨c, hc, h⟩)
    · exact List.mem_append_right _ (List.mem_cons_of_mem _ (List.mem_flatMap.mpr ⟨c, hc, h⟩))))
  rw [tr_fm (hc false), tr_fm (hc true)]
theorem tr_put_in {k : Nat → Bool → List Nat} {M p e : Nat} {b : Bool} {l1 l2 : List Nat} (hk : tr_ok k M) (hl : k p b = l1 ++ l2) (h1 : p < e) (h2 : e < M) : ∀ n, n < M → (tr_S k M n).Nodup → p ∈ tr_S k M n → ∃ u v, tr_S k M n = u ++ tr_S k M p ++ v ∧ tr_S (tr_put k p b (l1 ++ e :: l2)) M n = u ++ tr_S (tr_put k p b (l1 ++ e :: l2)) M p ++ v := by
  have hk' := tr_put_ok hk hl h1 h2
  refine tr_ind hk (fun n hn ih hnd hp => ?_)
  by_cases hnp : p = n
  · subst hnp
    exact ⟨[], [], by simp, by simp⟩
  · have hnp' : n ≠ p := fun h => hnp h.symm
    rw [tr_unf hk' hn, tr_put_n hnp', tr_put_n hnp']
    rw [tr_unf hk hn] at hp hnd ⊢
    have out := tr_put_out hk hl h1 h2
    have hdL := (List.nodup_append.mp hnd).1
    have hdR := (List.nodup_cons.mp (List.nodup_append.mp hnd).2.1).2
    rcases List.mem_append.mp hp with h | h
    · obtain ⟨c, hc, hx⟩ := List.mem_flatMap.mp h
      obtain ⟨a1, a2, ha⟩ := List.append_of_mem hc
      have hR : ∀ x ∈ k n true, p ∉ tr_S k M x := fun x hx' hpx => (List.nodup_append.mp hnd).2.2 p h p (List.mem_cons_of_mem _ (List.mem_flatMap.mpr ⟨x, hx', hpx⟩)) rfl
      rw [ha, List.flatMap_append, List.flatMap_cons] at hdL
      have d1 := List.nodup_append.mp hdL
      have d2 := List.nodup_append.mp d1.2.1
      have hA1 : ∀ x ∈ a1, p ∉ tr_S k M x := fun x hx' hpx => d1.2.2 p (List.mem_flatMap.mpr ⟨x, hx', hpx⟩) p (List.mem_append_left _ hx) rfl
      have hA2 : ∀ x ∈ a2, p ∉ tr_S k M x := fun x hx' hpx => d2.2.2 p hx p (List.mem_flatMap.mpr ⟨x, hx', hpx⟩) rfl
      obtain ⟨u, v, e1, e2⟩ := ih false c hc d2.1 hx
      refine ⟨a1.flatMap (tr_S k M) ++ u, v ++ a2.flatMap (tr_S k M) ++ n :: (k n true).flatMap (tr_S k M), ?_, ?_⟩
      · rw [ha, List.flatMap_append, List.flatMap_cons, e1]
        simp [List.append_assoc]
      · rw [tr_fm (fun x hx' => out x (hk n true x hx').2 (hR x hx')), ha, List.flatMap_append, List.flatMap_cons, e2,
          tr_fm (fun x hx' => out x (hk n false x (by rw [ha]; exact List.mem_append_left _ hx')).2 (hA1 x hx')),
          tr_fm (fun x hx' => out x (hk n false x (by rw [ha]; exact List.mem_append_right _ (List.mem_cons_of_mem _ hx'))).2 (hA2 x hx'))]
        simp [List.append_assoc]
    · rcases List.mem_cons.mp h with h | h
      · exact absurd h hnp
      · obtain ⟨c, hc, hx⟩ := List.mem_flatMap.mp h
        obtain ⟨a1, a2, ha⟩ := List.append_of_mem hc
        have hL : ∀ x ∈ k n false, p ∉ tr_S k M x := fun x hx' hpx => (List.nodup_append.mp hnd).2.2 p (List.mem_flatMap.mpr ⟨x, hx', hpx⟩) p (List.mem_cons_of_mem _ h) rfl
        rw [ha, List.flatMap_append, List.flatMap_cons] at hdR
        have d1 := List.nodup_append.mp hdR
        have d2 := List.nodup_append.mp d1.2.1
        have hA1 : ∀ x ∈ a1, p ∉ tr_S k M x := fun x hx' hpx => d1.2.2 p (List.mem_flatMap.mpr ⟨x, hx', hpx⟩) p (List.mem_append_left _ hx) rfl
        have hA2 : ∀ x ∈ a2, p ∉ tr_S k M x := fun x hx' hpx => d2.2.2 p hx p (List.mem_flatMap.mpr ⟨x, hx', hpx⟩) rfl
        obtain ⟨u, v, e1, e2⟩ := ih true c hc d2.1 hx
        refine ⟨(k n false).flatMap (tr_S k M) ++ n :: (a1.flatMap (tr_S k M) ++ u), v ++ a2.flatMap (tr_S k M), ?_, ?_⟩
        · rw [ha, List.flatMap_append, List.flatMap_cons, e1]
          simp [List.append_assoc]
        · rw [tr_fm (fun x hx' => out x (hk n false x hx').2 (hL x hx')), ha, List.flatMap_append, List.flatMap_cons, e2,
            tr_fm (fun x hx' => out x (hk n true x (by rw [ha]; exact List.mem_append_left _ hx')).2 (hA1 x hx')),
            tr_fm (fun x hx' => out x (hk n true x (by rw [ha]; exact List.mem_append_right _ (List.mem_cons_of_mem _ hx'))).2 (hA2 x hx'))]
          simp [List.append_assoc]
theorem tr_below {k : Nat → Bool → List Nat} {M p : Nat} {b : Bool} {x : Nat} (hk : tr_ok k M) (hx : x ∈ k p b) : p ∉ tr_S k M x := fun h => by
  have h1 := hk p b x hx
  have h2 := tr_ge hk x h1.2 p h
  omega
theorem tr_leaf {k : Nat → Bool → List Nat} {M e : Nat} (hk : tr_ok k M) (he : e < M) (h : ∀ b, k e b = []) : tr_S k M e = [e] := by
  rw [tr_unf hk he, h false, h true]; rfl
theorem tr_insR {k : Nat → Bool → List Nat} {M p e : Nat} {l1 l2 : List Nat} (hk : tr_ok k M) (hl : k p true = l1 ++ l2) (h1 : p < e) (h2 : e < M) (he : ∀ b, k e b = []) (hnd : (tr_S k M 0).Nodup) (hp : p ∈ tr_S k M 0) :
    ∃ u v, tr_S k M 0 = (u ++ ((k p false).flatMap (tr_S k M) ++ p :: l1.flatMap (tr_S k M))) ++ (l2.flatMap (tr_S k M) ++ v) ∧
      tr_S (tr_put k p true (l1 ++ e :: l2)) M 0 = (u ++ ((k p false).flatMap (tr_S k M) ++ p :: l1.flatMap (tr_S k M))) ++ e :: (l2.flatMap (tr_S k M) ++ v) := by
  have hk' := tr_put_ok hk hl h1 h2
  obtain ⟨u, v, e1, e2⟩ := tr_put_in hk hl h1 h2 0 (by omega) hnd hp
  have out := tr_put_out hk hl h1 h2
  have hpM : p < M := by omega
  have hS : ∀ x b, x ∈ k p b → tr_S (tr_put k p true (l1 ++ e :: l2)) M x = tr_S k M x := fun x b hx => out x (hk p b x hx).2 (tr_below hk hx)
  have hE : tr_S (tr_put k p true (l1 ++ e :: l2)) M e = [e] := tr_leaf hk' h2 (fun b => by rw [tr_put_n (by omega)]; exact he b)
  refine ⟨u, v, ?_, ?_⟩
  · rw [e1, tr_unf hk hpM, hl, List.flatMap_append]
    simp [List.append_assoc]
  · rw [e2, tr_unf hk' hpM, tr_put_at, tr_put_c (by decide), List.flatMap_append, List.flatMap_cons, hE, tr_fm (fun x hx => hS x false hx),
      tr_fm (fun x hx => hS x true (by rw [hl]; exact List.mem_append_left _ hx)), tr_fm (fun x hx => hS x true (by rw [hl]; exact List.mem_append_right _ hx))]
    simp [List.append_assoc]
theorem tr_insL {k : Nat → Bool → List Nat} {M p e : Nat} {l1 l2 : List Nat} (hk : tr_ok k M) (hl : k p false = l1 ++ l2) (h1 : p < e) (h2 : e < M) (he : ∀ b, k e b = []) (hnd : (tr_S k M 0).Nodup) (hp : p ∈ tr_S k M 0) :
    ∃ u v, tr_S k M 0 = (u ++ l1.flatMap (tr_S k M)) ++ (l2.flatMap (tr_S k M) ++ p :: ((k p true).flatMap (tr_S k M) ++ v)) ∧
      tr_S (tr_put k p false (l1 ++ e :: l2)) M 0 = (u ++ l1.flatMap (tr_S k M)) ++ e :: (l2.flatMap (tr_S k M) ++ p :: ((k p true).flatMap (tr_S k M) ++ v)) := by
  have hk' := tr_put_ok hk hl h1 h2
  obtain ⟨u, v, e1, e2⟩ := tr_put_in hk hl h1 h2 0 (by omega) hnd hp
  have out := tr_put_out hk hl h1 h2
  have hpM : p < M := by omega
  have hS : ∀ x b, x ∈ k p b → tr_S (tr_put k p false (l1 ++ e :: l2)) M x = tr_S k M x := fun x b hx => out x (hk p b x hx).2 (tr_below hk hx)
  have hE : tr_S (tr_put k p false (l1 ++ e :: l2)) M e = [e] := tr_leaf hk' h2 (fun b => by rw [tr_put_n (by omega)]; exact he b)
  refine ⟨u, v, ?_, ?_⟩
  · rw [e1, tr_unf hk hpM, hl, List.flatMap_append]
    simp [List.append_assoc]
  · rw [e2, tr_unf hk' hpM, tr_put_at, tr_put_c (c := true) (by decide), List.flatMap_append, List.flatMap_cons, hE, tr_fm (fun x hx => hS x true hx),
      tr_fm (fun x hx => hS x false (by rw [hl]; exact List.mem_append_left _ hx)), tr_fm (fun x hx => hS x false (by rw [hl]; exact List.mem_append_right _ hx))]
    simp [List.append_assoc]
theorem tr_lastE {k : Nat → Bool → List Nat} {M n : Nat} (hk : tr_ok k M) (hn : n < M) (h : k n true = []) : tr_S k M n = (k n false).flatMap (tr_S k M) ++ [n] := by
  rw [tr_unf hk hn, h]; rfl
theorem tr_lastS {k : Nat → Bool → List Nat} {M n c : Nat} {l : List Nat} (hk : tr_ok k M) (hn : n < M) (h : k n true = l ++ [c]) : ∃ w, tr_S k M n = w ++ tr_S k M c := by
  refine ⟨(k n false).flatMap (tr_S k M) ++ n :: l.flatMap (tr_S k M), ?_⟩
  rw [tr_unf hk hn, h, List.flatMap_append]
  simp [List.append_assoc]
theorem tr_firstE {k : Nat → Bool → List Nat} {M n : Nat} (hk : tr_ok k M) (hn : n < M) (h : k n false = []) : tr_S k M n = n :: (k n true).flatMap (tr_S k M) := by
  rw [tr_unf hk hn, h]; rfl
theorem tr_firstS {k : Nat → Bool → List Nat} {M n c : Nat} {l : List Nat} (hk : tr_ok k M) (hn : n < M) (h : k n false = c :: l) : ∃ w, tr_S k M n = tr_S k M c ++ w := by
  refine ⟨l.flatMap (tr_S k M) ++ n :: (k n true).flatMap (tr_S k M), ?_⟩
  rw [tr_unf hk hn, h, List.flatMap_cons]
  simp [List.append_assoc]
theorem tr_dark {k : Nat → Bool → List Nat} {M : Nat} (hk : tr_ok k M) {V : Nat → Prop} (hV : ∀ n b c, c ∈ k n b → V c → n = 0 ∨ V n) : ∀ n, n < M → n ≠ 0 → ¬ V n → ∀ x ∈ tr_S k M n, ¬ V x := by
  refine tr_ind hk (fun n hn ih h0 hv x hx => ?_)
  rw [tr_unf hk hn] at hx
  have go : ∀ b c, c ∈ k n b → x ∈ tr_S k M c → ¬ V x := fun b c hc hxc => by
    have h9 := hk n b c hc
    refine ih b c hc (by omega) (fun hvc => ?_) x hxc
    rcases hV n b c hc hvc with h | h
    · exact h0 h
    · exact hv h
  rcases List.mem_append.mp hx with h | h
  · obtain ⟨c, hc, hxc⟩ := List.mem_flatMap.mp h
    exact go false c hc hxc
  · rcases List.mem_cons.mp h with rfl | h
    · exact hv
    · obtain ⟨c, hc, hxc⟩ := List.mem_flatMap.mp h
      exact go true c hc hxc
