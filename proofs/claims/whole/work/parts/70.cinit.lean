section CIN
variable {z mi mc ms : Nat} {g : Sg}
def G0 : AG := AG.mk 0 0 (fun _ => 0) (fun _ => 0) (fun _ => 0) (fun _ => 0) (fun _ _ => 0) (fun _ _ => 0) (fun _ => false) (fun _ => 0) (fun _ _ => []) (fun _ => [])
theorem G0_tr : tr_ok G0.k 8193 := fun _ _ _ h => nomatch h
theorem G0_od : od G0 = [0] := by
  unfold od
  rw [tr_unf G0_tr (by decide)]
  rfl
theorem G0_wf : WF G0 := by
  refine WF.mk (by decide) (by decide) (fun s h => absurd h (Nat.not_lt_zero s)) (fun s t h => absurd h (Nat.not_lt_zero s)) (fun s h => absurd h (Nat.not_lt_zero s)) (fun e h => absurd h (Nat.not_lt_zero e)) (fun e h => absurd h (Nat.not_lt_zero e)) (fun e h => absurd h (Nat.not_lt_zero e)) (fun s n h => absurd h (Nat.not_lt_zero s)) (fun s n h => absurd h (Nat.not_lt_zero s)) (fun s n h => absurd h (Nat.not_lt_zero s)) (fun e s h => absurd h (Nat.not_lt_zero e)) (fun e s h => absurd h (Nat.not_lt_zero e)) (fun e h => absurd h (Nat.not_lt_zero e)) (fun e h => absurd h (Nat.not_lt_zero e)) G0_tr rfl ?_ (fun x => ?_) (fun p b c h => nomatch h) (fun p b p' b' c h => nomatch h) (fun p b c h => nomatch h) (fun p b => List.Pairwise.nil) (fun e d h => nomatch h) (fun e => List.Pairwise.nil)
  · rw [G0_od]; exact List.nodup_cons.mpr ⟨(fun h => nomatch h), List.nodup_nil⟩
  · rw [G0_od]
    constructor
    · intro h
      rcases List.mem_cons.mp h with h | h
      · exact Or.inl h
      · cases h
    · rintro (h | ⟨e, -, h, -⟩)
      · rw [h]; exact List.mem_cons_self
      · exact absurd h (Nat.not_lt_zero e)
theorem G0_tx (n : Nat) : txL G0 n = 0 := by
  unfold txL
  rw [G0_od, List.filter_cons_of_neg (by simp)]
  rfl
theorem RC_0 {c ags arr rt li vw : Nat} (k1 : hT g c = some (4, 8)) (k2 : hT g ags = some (104, 16)) (k3 : hT g arr = some (0, 3)) (k4 : hT g rt = some (3, 13)) (k5 : hT g li = some (105, 16)) (k6 : hT g vw = some (100, 16)) (f21 : fR g 21 c = some ags) (f22 : fR g 22 c = some arr) (f23 : fR g 23 c = some rt) (f24 : fR g 24 c = some li) (f25 : fR g 25 c = some vw) (f26 : fI g 26 c = 0) (f27 : fI g 27 c = 0) (f28 : fI g 28 c = 0) (f3 : fI g 3 arr = 0) (f2 : fR g 2 arr = some z) (f14 : fR g 14 rt = none) (f15 : fR g 15 rt = none) (f18 : fR g 18 rt = none) :
    RC z G0 (CA.mk c ags arr rt li vw z 0 (fun _ => 0) (fun _ => 0) (fun _ => z) (fun _ => 0) (fun _ => 0) (fun _ => 0) (fun _ _ => 0)) g ∧ RCi G0 (CA.mk c ags arr rt li vw z 0 (fun _ => 0) (fun _ => 0) (fun _ => z) (fun _ => 0) (fun _ => 0) (fun _ => 0) (fun _ _ => 0)) [] g := by
  have nl : ∀ {P : Nat → Prop} (s : Nat), s < 0 → P s := fun s h => absurd h (Nat.not_lt_zero s)
  have hR : RC z G0 (CA.mk c ags arr rt li vw z 0 (fun _ => 0) (fun _ => 0) (fun _ => z) (fun _ => 0) (fun _ => 0) (fun _ => 0) (fun _ _ => 0)) g := by
    refine RC.mk ?_ ?_ ?_ ?_ ?_ ?_ ?_ ?_
    · exact RCk.mk k1 k2 k3 k4 k5 k6 (fun s h => absurd h (Nat.not_lt_zero s)) (fun s h => absurd h (Nat.not_lt_zero s)) (fun s h => absurd h (Nat.not_lt_zero s)) (fun s h => absurd h (Nat.not_lt_zero s)) (fun s t h => absurd h (Nat.not_lt_zero s)) (fun s h => absurd h (Nat.not_lt_zero s)) (fun s t h => absurd h (Nat.not_lt_zero s)) (fun s t h => absurd h (Nat.not_lt_zero s)) (fun s h => absurd h (Nat.not_lt_zero s)) (fun s h => absurd h (Nat.not_lt_zero s)) (fun s t h => absurd h (Nat.not_lt_zero s)) (fun s h => absurd h (Nat.not_lt_zero s))
    · exact RCf.mk f21 f22 f23 f24 f25 f26 (fun s h => absurd h (Nat.not_lt_zero s)) (fun s h => absurd h (Nat.not_lt_zero s)) (fun s h => absurd h (Nat.not_lt_zero s)) (fun s h => absurd h (Nat.not_lt_zero s))
    · exact RCl.mk f3 f2 ⟨Nat.le_refl _, Nat.zero_le _, Nat.zero_le _, Or.inl ⟨rfl, rfl⟩⟩ (fun s h => absurd h (Nat.not_lt_zero s)) (fun s h => absurd h (Nat.not_lt_zero s)) (fun s h => absurd h (Nat.not_lt_zero s))
    · exact RCe.mk (fun s h => absurd h (Nat.not_lt_zero s)) (fun s h => absurd h (Nat.not_lt_zero s)) (fun s h => absurd h (Nat.not_lt_zero s)) (fun s h => absurd h (Nat.not_lt_zero s)) (fun s h => absurd h (Nat.not_lt_zero s)) (fun s t h => absurd h (Nat.not_lt_zero s)) (fun s t h => absurd h (Nat.not_lt_zero s)) (fun s h => absurd h (Nat.not_lt_zero s))
    · intro p hp b
      have hp' : p ∈ od G0 := hp
      rw [G0_od] at hp'
      rw [List.mem_singleton.mp hp']
      cases b with
      | false => exact f14
      | true => exact f15
    · have e : (tr_S G0.k 8193 0) = [0] := G0_od
      unfold RCo rO
      rw [e]
      exact ⟨⟨rfl, f18⟩, ⟨(fun y h => nomatch h), trivial⟩⟩
    · exact RCd.mk (fun s h => absurd h (Nat.not_lt_zero s)) (fun s h => absurd h (Nat.not_lt_zero s))
    · refine ⟨?_, fun s h => absurd h (Nat.not_lt_zero s)⟩
      rw [G0_tx]; exact f28
  exact ⟨hR, RCi.nil hR f27⟩
end CIN
