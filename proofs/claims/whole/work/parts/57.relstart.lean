theorem rel_start : Rel (fun _ => 0) (fun _ => 0) 0 60 12 1 1 0 0 (fun _ => gs0) gs0 0 0 (fun _ => gs0) 0 (fun _ => 0) 0 (fun _ _ => 0) (fun _ => 0) (fun _ => 0) (fun _ => 0) (upd (upd (upd (upd (fun _ => 0) 266 (60 : Int32)) 267 (12 : Int32)) 268 (1 : Int32)) 278 (1 : Int32)) (fun _ => 0) 0 (fun _ => 0) (fun _ => 0) (-1 : Int32) (fun _ => 0) 0 (upd (upd (upd (upd (fun _ => 0) 0 (-4 : Int32)) 1 (-4 : Int32)) 2 (-4 : Int32)) 3 (-4 : Int32)) (fun _ => 0) (fun _ => 0) := by
  have z : ∀ p, p < 266 → (upd (upd (upd (upd (fun _ => (0 : Int32)) 266 (60 : Int32)) 267 (12 : Int32)) 268 (1 : Int32)) 278 (1 : Int32)) p = 0 := fun p hp => by
    rw [pk_un (by omega), pk_un (by omega), pk_un (by omega), pk_un (by omega)]
  refine ⟨⟨⟨fun p hp => Or.inl (z p hp), ⟨60, by omega, by omega, rfl⟩, ⟨12, by omega, rfl⟩, ⟨1, by omega, rfl⟩, ⟨0, by omega, rfl, fun i hi => absurd hi (by omega)⟩, ⟨1, by omega, rfl⟩⟩, fun p hp => ?_, fun i hi => ?_, rfl, rfl, rfl, rfl, rfl⟩, ⟨0, 0, by omega, by omega, rfl, rfl, rfl, fun i hi => absurd hi (by omega)⟩, Or.inl ⟨rfl, rfl⟩, ⟨0, by omega, rfl, rfl, fun i hi => absurd hi (by omega)⟩, fun k hk => ⟨0, by omega, rfl, rfl, Or.inl ⟨rfl, ?_⟩⟩⟩
  · have e : bitAt (fun _ => 0) p = false := by unfold bitAt; simp
    refine e.trans ?_
    symm
    refine decide_eq_false ?_
    rintro ⟨hq, h1⟩
    rw [z p hq] at h1
    exact absurd h1 (by decide)
  · show (0 : Int32) = _
    rw [pk_un (by omega), pk_un (by omega), pk_un (by omega), pk_un (by omega)]
  · rcases (show k = 0 ∨ k = 1 ∨ k = 2 ∨ k = 3 by omega) with e | e | e | e <;> subst e <;> rfl
