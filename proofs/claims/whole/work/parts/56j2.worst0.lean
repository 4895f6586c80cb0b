theorem t_worst : ∀ a, a < 266 → ((List.range (nbn a)).map (nb a)).filter (fun b => decide (a < b)) = (List.range 266).filter (fun b => decide (a < b) && adjB a b) := by decide +kernel
