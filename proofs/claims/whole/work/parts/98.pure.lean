theorem qz_pure : qz_Pure := sorry
