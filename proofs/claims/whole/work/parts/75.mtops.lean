section MTP
variable {z mi mc ms : Nat} {G : AG} {M : MA} {g : Sg} {V : Nat → Nat}
theorem ins_get {K : List Nat} {i e : Nat} (hi : i ≤ K.length) {h : Nat → Int32} (h1 : ∀ j q, j < i → K[j]? = some q → h j = nI q) (h2 : ∀ j q, i ≤ j → K[j]? = some q → h (j + 1) = nI q) : ∀ j q, (K.take i ++ e :: K.drop i)[j]? = some q → (fun j => if j = i then nI e else h j) j = nI q := by
  intro j q hq
  have hl : (K.take i).length = i := by rw [List.length_take]; omega
  by_cases hji : j < i
  · rw [List.getElem?_append_left (by omega), List.getElem?_take_of_lt hji] at hq
    have : j ≠ i := by omega
    simp only [this, if_false]
    exact h1 j q hji hq
  · rw [List.getElem?_append_right (by omega), hl] at hq
    by_cases hje : j = i
    · subst hje
      rw [Nat.sub_self] at hq
      cases hq
      simp
    · obtain ⟨m, hm⟩ : ∃ m, j = i + (m + 1) := ⟨j - i - 1, by omega⟩
      subst hm
      have e1 : i + (m + 1) - i = m + 1 := by omega
      rw [e1] at hq
      have hq' : (K.drop i)[m]? = some q := hq
      rw [List.getElem?_drop] at hq'
      simp only [hje, if_false]
      exact h2 (i + m) q (by omega) hq'
theorem t_t104 (hw : WF G) (hR : RM G M g) {K : List Nat} {e : Nat} (he : e < G.ne) (hK : ∀ q ∈ K, q < G.ne) (hKl : K.length < 16) {post : Int32 → Sg → Prop} {k6 : Nat → Nat → Sg → Nat → Option Nat → Int32 → Option Nat → Int32 → Int32 → Prop} {v1 : Option Nat} {v2 v4 v5 : Int32} {kc ks : Nat} (hkc : kc ≤ mc) (hks : ks ≤ ms)
    (k : ∀ i h, i ≤ K.length → (∀ j q, (K.take i ++ e :: K.drop i)[j]? = some q → h j = nI q) → k6 kc ks (cI g (M.f 52) h) M.gr v1 v2 (some (M.f 52)) (v4 + 1) (v5 + 1)) : ∀ i, i ≤ K.length → ∀ h : Nat → Int32, (∀ j q, j < i → K[j]? = some q → h j = nI q) → (∀ j q, i ≤ j → K[j]? = some q → h (j + 1) = nI q) → w_G_tops_104 z mi mc ms post k6 (i + 1) kc ks (cI g (M.f 52) h) M.gr v1 v2 (some (M.f 52)) v4 v5 (nI e) (nI i) := by
  intro i
  have hne := hw.ne_le
  induction i with
  | zero =>
    intro hi h h1 h2
    have hR' := hR.cA hw (i := 52) (by decide) h
    have h52 := hR'.kf 52 (by decide) rfl
    unfold w_G_tops_104
    refine ⟨fun _ => ?_, fun h => absurd (Int32.le_refl _) h⟩
    refine ⟨_, rfl, ?_⟩
    refine ⟨0, ⟨_, h52, rfl, by omega, by decide⟩, ?_⟩
    rintro _ rfl
    rw [sI_cI, cI_cI, aI_cI]
    exact k 0 _ hi (ins_get hi h1 h2)
  | succ i ih =>
    intro hi h h1 h2
    have hR' := hR.cA hw (i := 52) (by decide) h
    have h52 := hR'.kf 52 (by decide) rfl
    have hgr := hR'.k.gr
    have hgi : K[i]? = some K[i] := List.getElem?_eq_getElem (by omega)
    have hlt := hK _ (List.getElem_mem (show i < K.length by omega))
    unfold w_G_tops_104
    have hpos : ¬ nI (i + 1) ≤ 0 := nI_nle (by omega) (by omega)
    refine ⟨fun h => absurd h hpos, fun _ => ?_⟩
    refine ⟨_, rfl, ?_⟩
    rw [nI_pred]
    refine ⟨i, ⟨_, h52, rfl, by omega, by decide⟩, ?_⟩
    rintro _ rfl
    rw [aI_cI, h1 i _ (by omega) hgi]
    refine ⟨⟨_, _, by assumption, by decide⟩, 0, 0, by omega, by omega, ?_⟩
    refine t_isLess hw hR' he hlt (fun _ => ⟨fun h => absurd h (by decide), fun _ => ?_⟩) (fun _ => ⟨fun _ => ?_, fun h => absurd rfl h⟩)
    · refine ⟨i, ⟨_, h52, rfl, by omega, by decide⟩, ?_⟩
      rintro _ rfl
      refine ⟨i + 1, ⟨_, h52, rfl, by omega, by decide⟩, ?_⟩
      rintro _ rfl
      rw [sI_cI, cI_cI, aI_cI, nI_dec]
      refine ih (by omega) _ (fun j q hj hq => ?_) (fun j q hj hq => ?_)
      · have : j ≠ i + 1 := by omega
        simp only [this, if_false]
        exact h1 j q (by omega) hq
      · by_cases hji : j = i
        · subst hji
          simp only [if_true]
          exact h1 j q (by omega) hq
        · have : j + 1 ≠ i + 1 := by omega
          simp only [this, if_false]
          exact h2 j q (by omega) hq
    · refine ⟨i + 1, ⟨_, h52, rfl, by omega, by decide⟩, ?_⟩
      rintro _ rfl
      rw [sI_cI, cI_cI, aI_cI]
      exact k (i + 1) _ hi (ins_get hi h1 h2)
end MTP
