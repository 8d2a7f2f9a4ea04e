theorem all_steps : AllSteps Inv := sorry
