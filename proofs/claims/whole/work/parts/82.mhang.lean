section MHA
variable {z mi mc ms : Nat} {G G2 : AG} {M M0 M2 : MA} {g g0 g2 : Sg} {L : List Nat} {V W : Nat → Nat} {F R F2 R2 : Nat → Nat → Int32} {I I2 : Nat → Int32} {k : Nat → Bool → List Nat}
theorem t_inRow9 (hK : RMk M (hT g)) (hF : RMf M g) {u v : List Nat} {e : Nat} (hr : ∀ i y, (u ++ (e + 1) :: v)[i]? = some y → aI g (M.f 50) i = nI (y - 1)) (hu : (e + 1) ∉ u) (hb : ∀ y ∈ u ++ (e + 1) :: v, 0 < y ∧ y ≤ 8192) (hl : (u ++ (e + 1) :: v).length ≤ 8192) {post : Int32 → Sg → Prop} (kp : post (nI u.length) g) : w_G_inRow z mi mc ms post g M.gr (nI e) := by
  have h1 := hK.gr
  have h50 : hT g (M.f 50) = some (100, 8192) := hK.f 50 (by decide)
  have heb := hb (e + 1) (by simp)
  have hl' : u.length + (v.length + 1) ≤ 8192 := by simpa using hl
  have loop : ∀ d i, i + d = u.length → w_G_inRow_2 z mi mc ms post (d + 1) 0 0 g M.gr (nI e) (nI i) := by
    intro d
    induction d with
    | zero =>
      intro i hi
      have hi' : i = u.length := by omega
      subst hi'
      have hv := hr u.length (e + 1) get_mid
      unfold w_G_inRow_2
      (refine ⟨?_, ?_⟩; (focus (first | exact hasI_of (by assumption) (by decide) | exact hasR_of (by assumption) (by decide))); rintro _ rfl; try rw [hF.f 50 (by decide)])
      refine ⟨_, rfl, ?_⟩
      (refine ⟨u.length, ⟨_, h50, rfl, by omega, by decide⟩, ?_⟩; rintro _ rfl; try rw [hv])
      exact ⟨fun _ => kp, fun h => absurd rfl h⟩
    | succ d ih =>
      intro i hi
      have hlt : i < u.length := by omega
      have hget : (u ++ (e + 1) :: v)[i]? = some (u[i]'hlt) := by rw [List.getElem?_append_left hlt]; exact List.getElem?_eq_getElem hlt
      have hv := hr i _ hget
      have hmu : u[i]'hlt ∈ u := List.getElem_mem hlt
      have hbx := hb (u[i]'hlt) (List.mem_append_left _ hmu)
      have hne : u[i]'hlt ≠ e + 1 := fun h => hu (h ▸ hmu)
      unfold w_G_inRow_2
      (refine ⟨?_, ?_⟩; (focus (first | exact hasI_of (by assumption) (by decide) | exact hasR_of (by assumption) (by decide))); rintro _ rfl; try rw [hF.f 50 (by decide)])
      refine ⟨_, rfl, ?_⟩
      (refine ⟨i, ⟨_, h50, rfl, by omega, by decide⟩, ?_⟩; rintro _ rfl; try rw [hv])
      rw [eI (by omega) (by omega), nI_1]
      refine ⟨fun h => absurd h (by omega), fun _ => ih (i + 1) (by omega)⟩
  unfold w_G_inRow
  exact ⟨_, loop u.length 0 (by omega)⟩
def pv (p : Nat) : Int32 := if p = 0 then -1 else nI (p - 1)
theorem pv0 : pv 0 = -1 := rfl
theorem pvs (e : Nat) : pv (e + 1) = nI e := by unfold pv; simp
def bv (b : Bool) : Int32 := cond b 1 0
theorem t_children (hK : RMk M (hT g)) (hF : RMf M g) (hr : chI (aI g (M.f 42)) (fI g 46 M.gr) ((k 0 true).map (· - 1))) (hT' : rT k (aI g (M.f 42)) (aI g (M.f 43)) (aI g (M.f 44))) {p : Nat} {b : Bool} (hp : p ∈ tr_S k 8193 0) (hpl : p < 8193) (hb : p = 0 → b = true) {post : Int32 → Sg → Prop} (kp : ∀ v, chI (aI g (M.f 42)) v ((k p b).map (· - 1)) → v = (if p = 0 then fI g 46 M.gr else cond b (aI g (M.f 44)) (aI g (M.f 43)) (p - 1)) → post v g) : w_G_childrenOf z mi mc ms post g M.gr (pv p) (bv b) := by
  have h1 := hK.gr
  have h43 : hT g (M.f 43) = some (100, 8192) := hK.f 43 (by decide)
  have h44 : hT g (M.f 44) = some (100, 8192) := hK.f 44 (by decide)
  unfold w_G_childrenOf
  cases p with
  | zero =>
    have hbt := hb rfl
    subst hbt
    refine ⟨fun h => absurd h (by rw [pv0]; decide), fun _ => ?_⟩
    (refine ⟨?_, ?_⟩; (focus (first | exact hasI_of (by assumption) (by decide) | exact hasR_of (by assumption) (by decide))); rintro _ rfl)
    exact kp _ hr rfl
  | succ e =>
    rw [pvs]
    refine ⟨fun _ => ?_, fun h => absurd (nI_pos' (by omega)) h⟩
    cases b with
    | false =>
      refine ⟨fun _ => ?_, fun h => absurd rfl h⟩
      (refine ⟨?_, ?_⟩; (focus (first | exact hasI_of (by assumption) (by decide) | exact hasR_of (by assumption) (by decide))); rintro _ rfl; try rw [hF.f 43 (by decide)])
      refine ⟨_, rfl, ?_⟩
      (refine ⟨e, ⟨_, h43, rfl, by omega, by decide⟩, ?_⟩; rintro _ rfl)
      exact kp _ (hT' e hp false) rfl
    | true =>
      refine ⟨fun h => absurd h (by decide), fun _ => ?_⟩
      (refine ⟨?_, ?_⟩; (focus (first | exact hasI_of (by assumption) (by decide) | exact hasR_of (by assumption) (by decide))); rintro _ rfl; try rw [hF.f 44 (by decide)])
      refine ⟨_, rfl, ?_⟩
      (refine ⟨e, ⟨_, h44, rfl, by omega, by decide⟩, ?_⟩; rintro _ rfl)
      exact kp _ (hT' e hp true) rfl
theorem RMn.rt (hw : WF G) {s : Nat} {rl : Nat → Nat} (hq : RMn G s W rl F R I) : rT G.k (F 42) (F 43) (F 44) := by
  intro e he b
  obtain ⟨e', h1, h2, h3⟩ := ((hw.mem (e + 1)).mp he).resolve_left (by omega)
  have : e = e' := by omega
  subst this
  cases b with
  | false => exact hq.lc e h2 h3
  | true => exact hq.rch e h2 h3
theorem chI_ins {f f' : Nat → Int32} {Y E : Nat} {w : List Nat} (h1 : f' Y = nI E) (h2 : f' E = f Y) : ∀ (u : List Nat) (v : Int32), (∀ x ∈ u, f' x = f x) → (∀ x ∈ w, f' x = f x) → chI f v (u ++ Y :: w) → chI f' v (u ++ Y :: E :: w) := by
  intro u
  induction u with
  | nil =>
    intro v _ hw' h
    exact ⟨h.1, h1, by rw [h2]; exact chI_cg _ _ hw' h.2⟩
  | cons a u ih =>
    intro v hu hw' h
    refine ⟨h.1, ?_⟩
    rw [hu a List.mem_cons_self]
    exact ih _ (fun x hx => hu x (List.mem_cons_of_mem _ hx)) hw' h.2
theorem k_nodup (hw : WF G) (p : Nat) (b : Bool) : (G.k p b).Nodup := by
  refine (hw.srt p b).imp_of_mem (fun {x y} hx hy h e => ?_)
  subst e
  rcases h with h | ⟨-, h⟩ <;> omega
theorem pos_map {l : List Nat} (h : ∀ y ∈ l, 0 < y) {y : Nat} (hy : 0 < y) (hn : y ∉ l) : y - 1 ∉ l.map (· - 1) := fun hm => by
  obtain ⟨x, hx, e⟩ := List.mem_map.mp hm
  have := h x hx
  have e' : x - 1 = y - 1 := e
  have : x = y := by omega
  exact hn (this ▸ hx)
theorem rt_mid (hw : WF G) (hlt : G.ne < 8192) {p y : Nat} {b : Bool} {l l2 : List Nat} (hl : G.k p b = (l ++ [y]) ++ l2) {f f' a43 a44 : Nat → Int32} {rc : Int32} (hr : chI f rc ((G.k 0 true).map (· - 1))) (hT' : rT G.k f a43 a44) (n43 : a43 G.ne = -1) (n44 : a44 G.ne = -1) (hf : f' = ug (ug f G.ne (f (y - 1))) (y - 1) (nI G.ne))
    (hmem : ∀ q, q ∈ tr_S (tr_put G.k p b ((l ++ [y]) ++ (G.ne + 1) :: l2)) 8193 0 → q = G.ne + 1 ∨ q ∈ od G) : chI f' rc (((tr_put G.k p b ((l ++ [y]) ++ (G.ne + 1) :: l2)) 0 true).map (· - 1)) ∧ rT (tr_put G.k p b ((l ++ [y]) ++ (G.ne + 1) :: l2)) f' a43 a44 := by
  have hym : y ∈ G.k p b := by rw [hl]; simp
  have hy := k_ev hw hym
  have hnd := k_nodup hw p b
  rw [hl] at hnd
  have fo : ∀ x, x < G.ne → x ≠ y - 1 → f' x = f x := fun x hx hne => by rw [hf, ug_ne hne, ug_ne (by omega)]
  have other : ∀ q c, ¬ (q = p ∧ c = b) → ∀ v, chI f v ((G.k q c).map (· - 1)) → chI f' v ((G.k q c).map (· - 1)) := fun q c hqc v h => by
    refine chI_cg _ _ (fun x hx => fo x (km_lt hw x hx) (fun e => ?_)) h
    obtain ⟨w, hwm, e'⟩ := List.mem_map.mp hx
    have hw' := k_ev hw hwm
    have : w = y := by have e'' : w - 1 = x := e'; omega
    subst this
    exact hqc (hw.uq q c p b w hwm hym)
  have same : ∀ v, chI f v ((G.k p b).map (· - 1)) → chI f' v (((l ++ [y]) ++ (G.ne + 1) :: l2).map (· - 1)) := fun v h => by
    rw [hl] at h
    simp only [List.map_append, List.map_cons, List.map_nil, List.append_assoc, List.singleton_append, Nat.add_sub_cancel] at h ⊢
    have hpos : ∀ x ∈ (l ++ [y]) ++ l2, x - 1 < G.ne ∧ 0 < x := fun x hx => k_ev hw (by rw [hl]; exact hx)
    rw [List.append_assoc] at hnd
    have hn1 := List.nodup_append.mp hnd
    refine chI_ins (by rw [hf, ug_at]) (by rw [hf, ug_ne (by omega), ug_at]) _ _ (fun x hx => ?_) (fun x hx => ?_) h
    · obtain ⟨w, hwm, rfl⟩ := List.mem_map.mp hx
      have := hpos w (by simp [hwm])
      refine fo _ this.1 (fun e => ?_)
      have e' : w - 1 = y - 1 := e
      exact hn1.2.2 w hwm y (by simp) (by omega)
    · obtain ⟨w, hwm, rfl⟩ := List.mem_map.mp hx
      have := hpos w (by simp [hwm])
      refine fo _ this.1 (fun e => ?_)
      have e' : w - 1 = y - 1 := e
      have : w = y := by omega
      subst this
      exact (List.nodup_cons.mp hn1.2.1).1 hwm
  have gen : ∀ q c v, chI f v ((G.k q c).map (· - 1)) → chI f' v (((tr_put G.k p b ((l ++ [y]) ++ (G.ne + 1) :: l2)) q c).map (· - 1)) := fun q c v h => by
    by_cases hqc : q = p ∧ c = b
    · obtain ⟨rfl, rfl⟩ := hqc
      rw [tr_put_at]
      exact same v h
    · have e : tr_put G.k p b ((l ++ [y]) ++ (G.ne + 1) :: l2) q c = G.k q c := by unfold tr_put; rw [if_neg hqc]
      rw [e]
      exact other q c hqc v h
  refine ⟨gen 0 true rc hr, fun e he c => ?_⟩
  rcases hmem (e + 1) he with h | h
  · have he' : e = G.ne := by omega
    subst he'
    refine gen _ _ _ ?_
    rw [k_new hw]
    cases c with
    | false => exact n43
    | true => exact n44
  · exact gen _ _ _ (hT' e h c)
theorem rt_head (hw : WF G) (hlt : G.ne < 8192) {p : Nat} {b : Bool} {l2 : List Nat} (hp : p ∈ od G) (hl : G.k p b = l2) {f f' a43 a44 b43 b44 : Nat → Int32} {rc rc' v : Int32} (hr : chI f rc ((G.k 0 true).map (· - 1))) (hT' : rT G.k f a43 a44) (n43 : a43 G.ne = -1) (n44 : a44 G.ne = -1) (hv : chI f v (l2.map (· - 1))) (hf : f' = ug f G.ne v)
    (hc : (p = 0 ∧ b = true ∧ rc' = nI G.ne ∧ b43 = a43 ∧ b44 = a44) ∨ (p ≠ 0 ∧ b = true ∧ rc' = rc ∧ b43 = a43 ∧ b44 = ug a44 (p - 1) (nI G.ne)) ∨ (p ≠ 0 ∧ b = false ∧ rc' = rc ∧ b43 = ug a43 (p - 1) (nI G.ne) ∧ b44 = a44))
    (hmem : ∀ q, q ∈ tr_S (tr_put G.k p b ((G.ne + 1) :: l2)) 8193 0 → q = G.ne + 1 ∨ q ∈ od G) : chI f' rc' (((tr_put G.k p b ((G.ne + 1) :: l2)) 0 true).map (· - 1)) ∧ rT (tr_put G.k p b ((G.ne + 1) :: l2)) f' b43 b44 := by
  have hpl := od_le hw hp
  have fo : ∀ x, x < G.ne → f' x = f x := fun x hx => by rw [hf, ug_ne (by omega)]
  have other : ∀ q c, ∀ v, chI f v ((G.k q c).map (· - 1)) → chI f' v ((G.k q c).map (· - 1)) := fun q c v h => chI_cg _ _ (fun x hx => fo x (km_lt hw x hx)) h
  have new : chI f' (nI G.ne) (((G.ne + 1) :: l2).map (· - 1)) := by
    refine ⟨rfl, ?_⟩
    show chI f' (f' G.ne) (l2.map (· - 1))
    have e : f' G.ne = v := by rw [hf, ug_at]
    rw [e]
    rw [← hl] at hv ⊢
    exact other p b v hv
  have nput : ∀ q c, ¬ (q = p ∧ c = b) → tr_put G.k p b ((G.ne + 1) :: l2) q c = G.k q c := fun q c h => by unfold tr_put; rw [if_neg h]
  constructor
  · rcases hc with ⟨rfl, rfl, rfl, -, -⟩ | ⟨h0, -, rfl, -, -⟩ | ⟨h0, -, rfl, -, -⟩
    · rw [tr_put_at]; exact new
    · rw [nput 0 true (fun h => h0 h.1.symm)]; exact other _ _ _ hr
    · rw [nput 0 true (fun h => h0 h.1.symm)]; exact other _ _ _ hr
  · intro e he c
    by_cases hqc : e + 1 = p ∧ c = b
    · obtain ⟨rfl, rfl⟩ := hqc
      rw [tr_put_at]
      rcases hc with ⟨h0, -⟩ | ⟨-, rfl, -, -, h⟩ | ⟨-, rfl, -, h, -⟩
      · omega
      · show chI f' (b44 e) _
        rw [h, Nat.add_sub_cancel, ug_at]; exact new
      · show chI f' (b43 e) _
        rw [h, Nat.add_sub_cancel, ug_at]; exact new
    · rw [nput _ _ hqc]
      have eo : cond c b44 b43 e = cond c a44 a43 e := by
        rcases hc with ⟨-, -, -, h1, h2⟩ | ⟨hp0, hb, -, h1, h2⟩ | ⟨hp0, hb, -, h1, h2⟩
        · rw [h1, h2]
        · rw [h1, h2]
          cases c with
          | false => rfl
          | true =>
            show ug a44 (p - 1) (nI G.ne) e = a44 e
            exact ug_ne (fun h => hqc ⟨by omega, hb.symm⟩)
        · rw [h1, h2]
          cases c with
          | true => rfl
          | false =>
            show ug a43 (p - 1) (nI G.ne) e = a43 e
            exact ug_ne (fun h => hqc ⟨by omega, hb.symm⟩)
      rw [eo]
      rcases hmem (e + 1) he with h | h
      · have he' : e = G.ne := by omega
        subst he'
        rw [k_new hw]
        cases c with
        | false => exact n43
        | true => exact n44
      · exact other _ _ _ (hT' e h c)
end MHA
