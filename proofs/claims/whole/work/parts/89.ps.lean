theorem ps_all : PSall := sorry
