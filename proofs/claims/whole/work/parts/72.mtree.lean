section MTR
variable {z mi mc ms : Nat} {M : MA} {g : Sg} {k : Nat → Bool → List Nat}
def rT (k : Nat → Bool → List Nat) (a42 a43 a44 : Nat → Int32) : Prop := ∀ e, (e + 1) ∈ tr_S k 8193 0 → ∀ b, chI a42 ((cond b a44 a43) e) ((k (e + 1) b).map (· - 1))
theorem tr_kid {x c : Nat} {b : Bool} (hk : tr_ok k 8193) (hx : x ∈ tr_S k 8193 0) (hc : c ∈ k x b) : c ∈ tr_S k 8193 0 := by
  obtain ⟨u, v, h⟩ := tr_part hk x 0 (by decide) hx
  rw [h]
  refine List.mem_append_left _ (List.mem_append_right _ ?_)
  have hxM : x < 8193 := by have := hk x b c hc; omega
  have hcM : c < 8193 := (hk x b c hc).2
  rw [tr_unf hk hxM]
  cases b with
  | false => exact List.mem_append_left _ (List.mem_flatMap.mpr ⟨c, hc, tr_self hk hcM⟩)
  | true => exact List.mem_append_right _ (List.mem_cons_of_mem _ (List.mem_flatMap.mpr ⟨c, hc, tr_self hk hcM⟩))
theorem t_firstOf (hk : tr_ok k 8193) (hK : RMk M (hT g)) (hF : RMf M g) (hT' : rT k (aI g (M.f 42)) (aI g (M.f 43)) (aI g (M.f 44))) {e : Nat} (he : (e + 1) ∈ tr_S k 8193 0) {post : Int32 → Sg → Prop} (kp : ∀ w y, tr_S k 8193 (e + 1) = (y + 1) :: w → post (nI y) g) : w_G_firstOf z mi mc ms post g M.gr (nI e) := by
  have h1 := hK.gr
  have h43 : hT g (M.f 43) = some (100, 8192) := hK.f 43 (by decide)
  have hlt : ∀ x, x ∈ tr_S k 8193 0 → x < 8193 := fun x hx => (tr_ge hk 0 (by decide) x hx).2
  have loop : ∀ x, x < 8193 → ∀ e, x = e + 1 → x ∈ tr_S k 8193 0 → (∀ w y, tr_S k 8193 x = (y + 1) :: w → post (nI y) g) → ∀ n kc ks, 8193 - x ≤ n → w_G_firstOf_2 z mi mc ms post n kc ks g M.gr (nI e) := by
    refine tr_ind hk (fun x hxM ih e hxe hx kp n kc ks hn => ?_)
    subst hxe
    cases n with
    | zero => exact absurd hn (by omega)
    | succ n =>
      have hc := hT' e hx false
      unfold w_G_firstOf_2
      (refine ⟨?_, ?_⟩; (focus (first | exact hasI_of (by assumption) (by decide) | exact hasR_of (by assumption) (by decide))); rintro _ rfl; try rw [hF.f 43 (by decide)])
      refine ⟨_, rfl, ?_⟩
      (refine ⟨e, ⟨_, h43, rfl, by omega, by decide⟩, ?_⟩; rintro _ rfl)
      cases hl : k (e + 1) false with
      | nil =>
        rw [hl] at hc
        have hv : aI g (M.f 43) e = -1 := hc
        rw [hv]
        exact ⟨fun _ => kp _ e (tr_firstE hk hxM hl), fun h => absurd (by decide) h⟩
      | cons c l =>
        rw [hl] at hc
        have hm : c ∈ k (e + 1) false := by rw [hl]; exact List.mem_cons_self
        have hcb := hk (e + 1) false c hm
        have hv : aI g (M.f 43) e = nI (c - 1) := hc.1
        rw [hv]
        refine ⟨fun h => absurd h (nI_pos (by omega)), fun _ => ?_⟩
        (refine ⟨?_, ?_⟩; (focus (first | exact hasI_of (by assumption) (by decide) | exact hasR_of (by assumption) (by decide))); rintro _ rfl; try rw [hF.f 43 (by decide)])
        refine ⟨_, rfl, ?_⟩
        (refine ⟨e, ⟨_, h43, rfl, by omega, by decide⟩, ?_⟩; rintro _ rfl; try rw [hv])
        refine ih false c hm (c - 1) (by omega) (tr_kid hk hx hm) (fun w y hy => ?_) n kc ks (by omega)
        obtain ⟨w3, h3⟩ := tr_firstS hk hxM hl
        exact kp (w ++ w3) y (by rw [h3, hy]; rfl)
  unfold w_G_firstOf
  exact ⟨_, loop (e + 1) (hlt _ he) e rfl he kp _ 0 0 (Nat.le_refl _)⟩
theorem t_lastOf (hk : tr_ok k 8193) (hK : RMk M (hT g)) (hF : RMf M g) (hT' : rT k (aI g (M.f 42)) (aI g (M.f 43)) (aI g (M.f 44))) {e : Nat} (he : (e + 1) ∈ tr_S k 8193 0) {post : Int32 → Sg → Prop} (kp : ∀ w y, tr_S k 8193 (e + 1) = w ++ [y + 1] → post (nI y) g) : w_G_lastOf z mi mc ms post g M.gr (nI e) := by
  have h1 := hK.gr
  have h42 : hT g (M.f 42) = some (100, 8192) := hK.f 42 (by decide)
  have h44 : hT g (M.f 44) = some (100, 8192) := hK.f 44 (by decide)
  have hlt : ∀ x, x ∈ tr_S k 8193 0 → x < 8193 := fun x hx => (tr_ge hk 0 (by decide) x hx).2
  have sib : ∀ (K : Nat → Nat → Sg → Nat → Int32 → Prop) (l : List Nat) (c : Nat), (∀ q ∈ c :: l, q < 8192) → chI (aI g (M.f 42)) (nI c) (c :: l) → ∀ kc ks, (∀ w y, c :: l = w ++ [y] → K kc ks g M.gr (nI y)) → w_G_lastOf_18 z mi mc ms post K (l.length + 1) kc ks g M.gr (nI c) := by
    intro K l
    induction l with
    | nil =>
      intro c hb hc kc ks hK'
      have hcb := hb c List.mem_cons_self
      have hv : aI g (M.f 42) c = -1 := hc.2
      unfold w_G_lastOf_18
      (refine ⟨?_, ?_⟩; (focus (first | exact hasI_of (by assumption) (by decide) | exact hasR_of (by assumption) (by decide))); rintro _ rfl; try rw [hF.f 42 (by decide)])
      refine ⟨_, rfl, ?_⟩
      (refine ⟨c, ⟨_, h42, rfl, hcb, by decide⟩, ?_⟩; rintro _ rfl; try rw [hv])
      exact ⟨fun _ => hK' [] c rfl, fun h => absurd (by decide) h⟩
    | cons d l ih =>
      intro c hb hc kc ks hK'
      have hcb := hb c List.mem_cons_self
      have hdb := hb d (List.mem_cons_of_mem _ List.mem_cons_self)
      have hv : aI g (M.f 42) c = nI d := hc.2.1
      show w_G_lastOf_18 z mi mc ms post K ((l.length + 1) + 1) kc ks g M.gr (nI c)
      unfold w_G_lastOf_18
      (refine ⟨?_, ?_⟩; (focus (first | exact hasI_of (by assumption) (by decide) | exact hasR_of (by assumption) (by decide))); rintro _ rfl; try rw [hF.f 42 (by decide)])
      refine ⟨_, rfl, ?_⟩
      (refine ⟨c, ⟨_, h42, rfl, hcb, by decide⟩, ?_⟩; rintro _ rfl; try rw [hv])
      refine ⟨fun h => absurd h (nI_pos (by omega)), fun _ => ?_⟩
      (refine ⟨?_, ?_⟩; (focus (first | exact hasI_of (by assumption) (by decide) | exact hasR_of (by assumption) (by decide))); rintro _ rfl; try rw [hF.f 42 (by decide)])
      refine ⟨_, rfl, ?_⟩
      (refine ⟨c, ⟨_, h42, rfl, hcb, by decide⟩, ?_⟩; rintro _ rfl; try rw [hv])
      exact ih d (fun q hq => hb q (List.mem_cons_of_mem _ hq)) ⟨rfl, hc.2.2⟩ kc ks (fun w y h => hK' (c :: w) y (by rw [h]; rfl))
  have loop : ∀ x, x < 8193 → ∀ e, x = e + 1 → x ∈ tr_S k 8193 0 → (∀ w y, tr_S k 8193 x = w ++ [y + 1] → post (nI y) g) → ∀ n kc ks, 8193 - x ≤ n → w_G_lastOf_2 z mi mc ms post n kc ks g M.gr (nI e) := by
    refine tr_ind hk (fun x hxM ih e hxe hx kp n kc ks hn => ?_)
    subst hxe
    cases n with
    | zero => exact absurd hn (by omega)
    | succ n =>
      have hc := hT' e hx true
      unfold w_G_lastOf_2
      (refine ⟨?_, ?_⟩; (focus (first | exact hasI_of (by assumption) (by decide) | exact hasR_of (by assumption) (by decide))); rintro _ rfl; try rw [hF.f 44 (by decide)])
      refine ⟨_, rfl, ?_⟩
      (refine ⟨e, ⟨_, h44, rfl, by omega, by decide⟩, ?_⟩; rintro _ rfl)
      cases hl : k (e + 1) true with
      | nil =>
        rw [hl] at hc
        have hv : aI g (M.f 44) e = -1 := hc
        rw [hv]
        exact ⟨fun _ => kp _ e (tr_lastE hk hxM hl), fun h => absurd (by decide) h⟩
      | cons c l =>
        rw [hl] at hc
        have hbd : ∀ q ∈ c :: l, 0 < q ∧ q < 8193 := fun q hq => by
          have := hk (e + 1) true q (by rw [hl]; exact hq)
          omega
        have hcb := hbd c List.mem_cons_self
        have hv : aI g (M.f 44) e = nI (c - 1) := hc.1
        rw [hv]
        refine ⟨fun h => absurd h (nI_pos (by omega)), fun _ => ?_⟩
        (refine ⟨?_, ?_⟩; (focus (first | exact hasI_of (by assumption) (by decide) | exact hasR_of (by assumption) (by decide))); rintro _ rfl; try rw [hF.f 44 (by decide)])
        refine ⟨_, rfl, ?_⟩
        (refine ⟨e, ⟨_, h44, rfl, by omega, by decide⟩, ?_⟩; rintro _ rfl; try rw [hv])
        refine ⟨_, sib _ (l.map (· - 1)) (c - 1) (fun q hq => ?_) ⟨rfl, hc.2⟩ kc ks (fun w y h => ?_)⟩
        · have hq' : q ∈ (c :: l).map (· - 1) := hq
          obtain ⟨q0, hq0, rfl⟩ := List.mem_map.mp hq'
          have := hbd q0 hq0
          show q0 - 1 < 8192
          omega
        · have h' : (c :: l).map (· - 1) = w ++ [y] := h
          obtain ⟨w', y', e1, -, e3⟩ := List.map_eq_append_iff.mp h'
          obtain ⟨y'', l'', rfl, rfl, e4⟩ := List.map_eq_cons_iff.mp e3
          have e5 : l'' = [] := List.map_eq_nil_iff.mp e4
          subst e5
          have hm : y'' ∈ c :: l := by rw [e1]; exact List.mem_append_right _ List.mem_cons_self
          have hmk : y'' ∈ k (e + 1) true := by rw [hl]; exact hm
          have hyb := hk (e + 1) true y'' hmk
          refine ih true y'' hmk (y'' - 1) (by omega) (tr_kid hk hx hmk) (fun w2 q hq => ?_) n kc ks (by omega)
          obtain ⟨w3, h3⟩ := tr_lastS hk hxM (hl.trans e1)
          exact kp (w3 ++ w2) q (by rw [h3, hq, List.append_assoc])
  unfold w_G_lastOf
  exact ⟨_, loop (e + 1) (hlt _ he) e rfl he kp _ 0 0 (Nat.le_refl _)⟩
end MTR
