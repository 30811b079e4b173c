section MTQ
variable {z mi mc ms : Nat} {G : AG} {M : MA} {g : Sg} {V : Nat → Nat}
theorem t_t39 (hw : WF G) (hR : RM G M g) (hV : VS g (M.f 55) 0 (vA G)) {e : Nat} (he : e < G.ne) {post : Int32 → Sg → Prop} {k6 : Nat → Nat → Sg → Nat → Option Nat → Int32 → Option Nat → Int32 → Int32 → Prop} {v3 : Option Nat} {v4 v5 : Int32} {kc ks : Nat} (hkc : kc ≤ mc) (hks : ks ≤ ms)
    (kT : (∀ t, t < G.na → 0 < G.ct t → ¬ kn G (G.pa (la G t)) e) → ∃ n, w_G_tops_104 z mi mc ms post k6 n kc ks g M.gr (some (M.f 55)) 0 v3 v4 v5 (nI e) v4) (kF : (∃ t, t < G.na ∧ 0 < G.ct t ∧ kn G (G.pa (la G t)) e) → k6 kc ks g M.gr (some (M.f 55)) 0 v3 v4 (v5 + 1)) :
    ∀ d j, j + d = G.na → ∀ fl : Int32, ((fl = 1 ∧ ∀ t, t < j → 0 < G.ct t → ¬ kn G (G.pa (la G t)) e) ∨ (fl = 0 ∧ ∃ t, t < G.na ∧ 0 < G.ct t ∧ kn G (G.pa (la G t)) e)) → w_G_tops_39 z mi mc ms post k6 (d + 1) kc ks g M.gr (some (M.f 55)) 0 v3 v4 v5 (nI e) fl (nI j) := by
  have hna := hw.na_le
  have h1 := hR.k.gr
  have hne := hw.ne_le
  intro d
  induction d with
  | zero =>
    intro j hj fl hfl
    unfold w_G_tops_39
    (refine ⟨?_, ?_⟩; (focus (first | exact hasI_of (by assumption) (by decide) | exact hasR_of (by assumption) (by decide))); rintro _ rfl; try rw [hR.c.na])
    refine ⟨fun _ => ⟨fun h0 => ?_, fun h0 => ?_⟩, fun h => absurd ((lI (by omega) (by omega)).mpr (by omega)) h⟩
    · rcases hfl with ⟨-, h⟩ | ⟨h, -⟩
      · exact kT (fun t ht => h t (by omega))
      · exact absurd h h0
    · rcases hfl with ⟨h, -⟩ | ⟨-, h⟩
      · rw [h] at h0; exact absurd h0 (by decide)
      · exact kF h
  | succ d ih =>
    intro j hj fl hfl
    have hj' : j < G.na := by omega
    unfold w_G_tops_39
    (refine ⟨?_, ?_⟩; (focus (first | exact hasI_of (by assumption) (by decide) | exact hasR_of (by assumption) (by decide))); rintro _ rfl; try rw [hR.c.na])
    refine ⟨fun h => absurd ((lI (by omega) (by omega)).mp h) (by omega), fun _ => ?_⟩
    refine ⟨⟨_, _, by assumption, by decide⟩, 0, 0, by omega, by omega, ?_⟩
    refine t_lastIn hw hR hV hj' (fun h0 => ⟨fun _ => ?_, fun h => absurd (by decide) h⟩) (fun h0 => ?_)
    · rw [nI_1]
      refine ih (j + 1) (by omega) fl ?_
      rcases hfl with ⟨h, h'⟩ | h
      · refine Or.inl ⟨h, fun t ht hc => ?_⟩
        by_cases htj : t = j
        · subst htj; omega
        · exact h' t (by omega) hc
      · exact Or.inr h
    · have hlt : la G j < G.ne := hw.ev_lt j (G.ct j - 1) hj' (by omega)
      refine ⟨fun h => absurd h (nI_pos (by omega)), fun _ => ?_⟩
      refine ⟨⟨_, _, by assumption, by decide⟩, 0, 0, by omega, by omega, ?_⟩
      refine t_lastIn hw hR hV hj' (fun h => absurd h (by omega)) (fun _ => ?_)
      refine ⟨⟨_, _, by assumption, by decide⟩, 0, 0, by omega, by omega, ?_⟩
      refine t_isBefore hw hR he hlt (fun hy => ⟨fun _ => ?_, fun h => absurd h (by decide)⟩) (fun hy => ⟨fun h => absurd rfl h, fun _ => ?_⟩)
      · rw [nI_1]
        refine ih (j + 1) (by omega) _ (Or.inr ⟨?_, j, hj', h0, hy⟩)
        rcases hfl with ⟨h, -⟩ | ⟨h, -⟩ <;> rw [h] <;> decide
      · rw [nI_1]
        refine ih (j + 1) (by omega) _ ?_
        rcases hfl with ⟨h, h'⟩ | ⟨h, h'⟩
        · refine Or.inl ⟨by rw [h]; decide, fun t ht hc => ?_⟩
          by_cases htj : t = j
          · subst htj; exact hy
          · exact h' t (by omega) hc
        · exact Or.inr ⟨by rw [h]; decide, h'⟩
end MTQ
