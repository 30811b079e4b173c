section MCP
variable {z mi mc ms : Nat} {g : Sg}
theorem t_copyI {a n : Nat} (ha : hT g a = some (100, n)) (hn1 : 1 ≤ n) (hn : n ≤ 100000) (hmc : 1 ≤ mc) (hms : 2 * n ≤ ms) {post : Option Nat → Sg → Prop} (k : ∀ b g2, hT g b = none → lv g g2 → hT g2 b = some (100, 2 * n) → (∀ i, i < n → aI g2 b i = aI g a i) → post (some b) g2) : w_AR_copyI z mi mc ms post g (some a) (nI (2 * n)) := by
  unfold w_AR_copyI
  refine ⟨_, rfl, ?_⟩
  refine ⟨n, Or.inl ⟨100, ha, by decide, by decide⟩, ?_⟩
  rintro _ rfl
  rw [eI (by omega) (by omega)]
  refine ⟨fun _ => ⟨2 * n, rfl, by omega, by omega, by omega, fun b hb => ?_⟩, fun h => absurd h (by omega)⟩
  rintro _ rfl
  have hab : a ≠ b := lv_ne hb _ (nn ha)
  have hTa : hT (nO g b 100 (2 * n)) a = some (100, n) := by rw [hT9n _ hab]; exact ha
  refine ⟨n, Or.inl ⟨100, hTa, by decide, by decide⟩, ?_⟩
  rintro _ rfl
  refine ⟨0, 0, by omega, by omega, ?_⟩
  unfold w_MA_min
  rw [tI (by omega) (by omega)]
  refine ⟨fun h => absurd h (by omega), fun _ => ?_⟩
  refine ⟨0, 0, n, ⟨n, 2 * n, hTa, hT9 _ _ _ _, rfl, rfl, rfl, by omega, by omega, by omega, by omega⟩, ?_⟩
  rintro _ rfl
  refine k b _ hb (((lv.refl g).nO hb).cI hb) (hT9 _ _ _ _) (fun i hi => ?_)
  rw [aI_cI]
  simp only [va_cpy, Nat.zero_le, hi, true_and, if_true, Nat.zero_add, Nat.sub_zero]
  rw [aI_nO_ne _ hab]
end MCP
