theorem s34 : sim34 Rr := sorry
