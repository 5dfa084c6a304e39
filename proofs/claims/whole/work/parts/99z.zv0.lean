/-! THE BEGINNING, 9: what holds before the first call -/
section QZ0
variable {X : ZX}
theorem m0o {q k : Nat} (h : 64 ≤ q) (hk : 10 ≤ (zkd q).1) (hz : zwl zwF q k = none) : (zM0 X).1 q k = nI 0 := by
  rw [zM0_obj h hk, hz]
  rfl
theorem m0a {q : Nat} (k : Nat) (h : 64 ≤ q) (hk : (zkd q).1 < 10) : (zM0 X).1 q k = nI 0 := by
  rw [zM0_arr h hk]
  rfl
theorem wf_z0 : Wf zR0 ∧ WfD zR0 := by
  refine ⟨⟨⟨Nat.zero_le _, Nat.zero_le _, Nat.zero_le _, Nat.zero_le _⟩, fun _ => ⟨rfl, rfl, rfl⟩, fun h => absurd h (Nat.lt_irrefl 0), fun c hc => ⟨⟨Nat.zero_le _, Nat.zero_le _⟩, ⟨Nat.le_refl _, by show 0 < 2 ^ (0 + 1); decide, Nat.zero_testBit _⟩, fun _ => ⟨rfl, rfl, rfl⟩⟩, by decide +kernel, fun k hk => absurd hk (Nat.not_lt_zero _)⟩, fun c hc => ⟨fun h => ?_, fun h => absurd h (Nat.lt_irrefl 0)⟩⟩
  have h : (0 : Nat) = 1 := h
  cases h
theorem rsi_0 {r : Nat} (h : ∀ k, k < 12 → zwl zwF (r + 12 + 10 * k) 0 = some (-1) ∧ 10 ≤ (zkd (r + 12 + 10 * k)).1) (h2 : zwl zwF (r + 2) 0 = some (-1) ∧ 10 ≤ (zkd (r + 2)).1) (hr : 64 ≤ r) : RSI r (zM0 X) := by
  refine ⟨fun k hk => Or.inl ?_, Or.inl ?_⟩
  · rw [zM0_obj (by omega) (h k hk).2, (h k hk).1]
    rfl
  · rw [zM0_obj (by omega) h2.2, h2.1]
    rfl
theorem brep_0 : BRep zR0 86 (zM0 X) := by
  have ho : oM zR0 = 0 := by decide +kernel
  have hg : gM zR0 = 0 := by decide +kernel
  have hp : pM zR0 = 0 := by decide +kernel
  have ha : aM zR0 = 0 := by decide +kernel
  refine ⟨⟨⟨m0o (by omega) (by decide +kernel) (by decide +kernel), m0o (by omega) (by decide +kernel) (by decide +kernel)⟩, m0o (by omega) (by decide +kernel) (by decide +kernel), m0o (by omega) (by decide +kernel) (by decide +kernel)⟩, ⟨⟨by rw [ho]; rfl, by rw [hg]; rfl⟩, by rw [hp]; rfl, by rw [ha]; exact m0o (by omega) (by decide +kernel) (by decide +kernel)⟩, fun c hc => m0a c (by omega) (by decide +kernel), fun k hk => absurd hk (Nat.not_lt_zero _)⟩
theorem zv_0 : ZV 0 (zM0 X) := by
  refine ⟨zR0, [], fun _ => none, [], ⟨⟨brep_0, wf_z0⟩, ⟨⟨0, by omega, ⟨m0o (by omega) (by decide +kernel) (by decide +kernel), m0o (by omega) (by decide +kernel) (by decide +kernel), Nat.zero_le _⟩, fun j hj => absurd hj (Nat.not_lt_zero _)⟩, m0o (by omega) (by decide +kernel) (by decide +kernel), fun i _ r hr => by cases hr⟩, ⟨⟨m0o (by omega) (by decide +kernel) (by decide +kernel), Nat.zero_le _⟩, fun k hk => absurd hk (Nat.not_lt_zero _)⟩, 0, Nat.le_refl _, ⟨rsi_0 (by decide +kernel) (by decide +kernel) (by omega), rsi_0 (by decide +kernel) (by decide +kernel) (by omega)⟩, ⟨rsi_0 (by decide +kernel) (by decide +kernel) (by omega), rfl⟩, fun s hs => ⟨0, 0, ⟨rfl, rfl⟩, by omega, by omega⟩⟩,
    ⟨fun k hk => m0a k (by omega) (by decide +kernel), ⟨m0o (by omega) (by decide +kernel) (by decide +kernel), Nat.zero_le _⟩, fun i hi => absurd hi (Nat.not_lt_zero _)⟩, fun i hi => ⟨m0a i (by omega) (by decide +kernel), fun r hr => by cases hr⟩, ⟨m0o (by omega) (by decide +kernel) (by decide +kernel), Nat.zero_le _⟩, fun k hk => absurd hk (Nat.not_lt_zero _)⟩
end QZ0
