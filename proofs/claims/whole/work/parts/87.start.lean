/-! ===== the world behind the two constructors ===== -/
def hz : HP := fun k => match k with
  | 20 => dk 100
  | 71 => dk 100
  | 0 => fun j => if j = 10 then -1 else 0
  | 67 => fun j => if j = 58 then -1 else 0
  | _ => fun _ => 0
theorem dk_in (d : Nat) : IN 6 (dk 100 d) := by
  unfold dk
  split
  · exact IN_nI (by omega) (by decide)
  · exact IN_0 6
theorem net_hz : NetOK hz := by
  have nt : nT hz = 0 := rfl
  have nc : ∀ t, nC hz t = 0 := fun t => rfl
  have nw : nW hz = 0 := rfl
  refine ⟨⟨IN_0 _, fun _ => IN_0 _, fun _ => IN_0 _, fun _ => IN_0 _⟩, ⟨IN_0 _, fun _ => IN_0 _, fun _ => IN_0 _, rfl⟩, ⟨IN_0 _, fun _ => IN_0 _, fun _ => IN_0 _, fun _ => IN_0 _, fun _ => IN_0 _, fun _ _ => rfl, fun t ht => by rw [nt] at ht; omega⟩, ⟨fun _ => IN_0 _, fun _ => IN_0 _, fun _ => IN_0 _, fun t k hk => by rw [nc] at hk; omega, fun t k hk => by rw [nc] at hk; omega, fun t k _ => b_0 k, dk_in⟩, ⟨IN_0 _, fun _ => IN_0 _, fun _ => IN_0 _, fun _ => IN_0 _, fun _ => IN_0 _, fun _ => IN_0 _, fun _ => IN_0 _, fun _ => IN_0 _, fun w hw => by rw [nw] at hw; omega⟩⟩
theorem onm_hz : OnM hz hz := by
  refine ⟨fun p hp => ?_, ⟨rfl, rfl, rfl, rfl⟩, fun t k _ _ => ⟨fun _ => b_0 k, fun _ => rfl⟩, fun t d _ _ => ⟨fun _ => b_0 t, fun _ => rfl⟩, fun t d k _ _ _ => rfl⟩
  simp only [mP, List.mem_cons, List.not_mem_nil, or_false] at hp
  rcases hp with rfl | rfl | rfl | rfl | rfl | rfl | rfl | rfl | rfl | rfl | rfl | rfl | rfl | rfl | rfl | rfl | rfl | rfl | rfl | rfl | rfl | rfl | rfl <;> rfl
theorem rel_hz : Rel hz := by
  refine ⟨net_hz, IN_0 90, onm_hz, rfl, ⟨0, 0, by omega, by omega, rfl, rfl, rfl, fun i hi => by omega⟩, ⟨0, by omega, rfl, rfl, rfl, fun j hj => by omega, ⟨Nat.le_refl _, fun _ _ => rfl, fun _ _ => rfl⟩, fun t d k _ _ _ => ⟨?_, ?_⟩⟩⟩
  · show -(3 * ((0 : Nat) : Int)) ≤ (0 : Int32).toInt
    decide
  · show (0 : Int32).toInt ≤ 3 * ((0 : Nat) : Int)
    decide
