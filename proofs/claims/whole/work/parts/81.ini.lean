/-! what holds when both are made -/
def cv0 (S1 : VV) : Nat → VV := fun i => if i = 0 then vX11 else if i = 2 then vX7 else if i = 3 then vX9 else if i = 4 then vX6 else if i = 5 then vX3 else if i = 6 then vX6 else if i = 7 then vX3 else if i = 8 then S1 else if i = 9 then vX8 else if i = 10 then vX8 else if i = 11 then vX0 else if i = 12 then vX10 else if i = 13 then si vX10 0 1 else if i = 14 then vX10 else if i = 15 then vX2 else if i = 16 then vX5 else if i = 17 then vX1 else if i = 18 then vX4 else vX11
theorem PR_0 : PR 0 0 vX6 vX3 vX12 := by
  refine ⟨⟨by omega, by omega⟩, ⟨rfl, rfl, rfl, rfl⟩, fun p hp => by omega, fun t ht => by omega, fun t _ ht => rfl, ⟨rfl, rfl, rfl, rfl, rfl, rfl⟩, ⟨⟨12, by omega, by omega, rfl⟩, ⟨30, by omega, by omega, rfl⟩, ⟨20, by omega, rfl⟩, ⟨2, by omega, by omega, rfl⟩, ⟨0, by omega, rfl⟩, ⟨0, by omega, rfl⟩⟩, fun r hr => ⟨0, 0, rfl, rfl, rfl, rfl, by omega, by omega, fun h => by omega, fun i _ h => by omega⟩, rfl⟩
theorem inv_start (N : Nat) (hN : 66 < N) : ∃ S1 v1, f_X8_begin N vX8 vX6 = some S1 ∧ f_X12_begins N vX12 = some v1 ∧ INV (cv0 S1) (fun _ => 0) (fun _ => 0) v1 := by
  obtain ⟨S1, w, b1, b2, b3, b4⟩ := beginR N hN vX8 PR_0
  have wk : ∀ q, q ≠ 31 → q ≠ 55 → q ≠ 56 → q ≠ 57 → w.1 q = vX12.1 q := b3.1
  refine ⟨S1, w, b1, b2, 0, 0, ?_⟩
  have g : INV0 0 0 vX11 (fun _ => 0) vX7 vX6 vX3 S1 vX8 vX10 (si vX10 0 1) vX2 vX5 vX1 vX4 w := by
    refine ⟨PR_tr PR_0 (fun q hq => b3.2.1 q (by omega)) rfl (fun _ _ => rfl), b4, ⟨0, by omega, rfl, ?_, fun i hi => by omega⟩, Or.inl ⟨rfl, ?_⟩, ⟨⟨rfl, rfl, rfl, rfl, rfl, rfl, rfl⟩, fun _ _ => rfl⟩, ⟨⟨rfl, rfl, rfl, rfl, rfl, rfl, rfl⟩, fun _ _ => rfl⟩, ⟨⟨?_, ?_, ?_, ?_⟩, fun u hu => ?_⟩, ⟨0, by omega, rfl, ?_, trivial⟩, ⟨0, by omega, rfl, ?_, ?_, Or.inl ?_, fun i hi => by omega⟩, ⟨?_, ?_⟩, Or.inl rfl, Or.inl rfl⟩
    · rw [wk 2 (by omega) (by omega) (by omega) (by omega)]; rfl
    · rw [wk 48 (by omega) (by omega) (by omega) (by omega)]; rfl
    · rw [wk 50 (by omega) (by omega) (by omega) (by omega)]; rfl
    · rw [wk 51 (by omega) (by omega) (by omega) (by omega)]; rfl
    · rw [wk 52 (by omega) (by omega) (by omega) (by omega)]; rfl
    · rw [wk 53 (by omega) (by omega) (by omega) (by omega)]; rfl
    · rw [b3.2.1 54 (by omega)]; rfl
    · rw [wk 49 (by omega) (by omega) (by omega) (by omega)]; rfl
    · rw [wk 64 (by omega) (by omega) (by omega) (by omega)]; rfl
    · rw [wk 65 (by omega) (by omega) (by omega) (by omega)]; rfl
    · rw [wk 65 (by omega) (by omega) (by omega) (by omega)]; rfl
    · rw [wk 25 (by omega) (by omega) (by omega) (by omega)]; rfl
    · rw [wk 26 (by omega) (by omega) (by omega) (by omega)]; rfl
  exact g
