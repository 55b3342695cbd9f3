theorem fbI (b : Bool) : fits .boolean (.int (bI b)) = true := by cases b <;> rfl
