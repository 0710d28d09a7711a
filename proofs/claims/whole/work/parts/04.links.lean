/-! the shapes of the two worlds (names of cells: see the remark behind each) -/
-- C0: NearCopies 
-- C1: NearCopies$Nets 
-- C2: NearCopies$Nets asking
-- C3: NearCopies$Nets guesses
-- C4: NearCopies$Nets bonds
-- C5: NearCopies$Nets joined
-- C6: NearCopies$Nets sellers
-- C7: NearCopies$Sites 
-- C8: NearCopies$Sites homes
-- C9: NearCopies$Sites rooms
-- C10: NearCopies$Sites aims
-- C11: NearCopies$Sites lates
-- C12: NearCopies$Words 
-- C13: NearCopies$Words kinds
-- C14: NearCopies$Words holds
-- C15: NearCopies$Words nears
-- C16: NearCopies$Words ups
-- C17: NearCopies$Flow 
-- C18: NearCopies$Flow rules
-- C19: NearCopies$Flow chosen
-- C20: NearCopies$Flow fresh
-- C21: NearCopies$Flow offers
-- C22: NearCopies$Flow ranks
-- C23: NearCopies$Chart 
-- C24: NearCopies$Words 
-- C25: NearCopies$Words kinds
-- C26: NearCopies$Words holds
-- C27: NearCopies$Words nears
-- C28: NearCopies$Words ups
-- C29: NearCopies$Chart loads
-- C30: NearCopies$Chart excesses
-- C31: NearCopies$Chart sums
-- C32: NearCopies$Chart picked
-- C33: NearCopies$Chart bestKinds
-- C34: NearCopies$Order 
-- C35: NearCopies$Order behind
-- C36: NearCopies$Order still
-- C37: NearCopies$Order row
-- C38: NearCopies$Cases 
-- C39: NearCopies$Words 
-- C40: NearCopies$Words kinds
-- C41: NearCopies$Words holds
-- C42: NearCopies$Words nears
-- C43: NearCopies$Words ups
-- C44: NearCopies$Cases trials
-- C45: NearCopies$Cases left
-- C46: NearCopies$Cases outcomes
-- C47: NearCopies$Cases alikes
-- C48: NearCopies$Trial 
-- C49: NearCopies$Words 
-- C50: NearCopies$Words kinds
-- C51: NearCopies$Words holds
-- C52: NearCopies$Words nears
-- C53: NearCopies$Words ups
-- C54: NearCopies$Trial seen
-- C55: NearCopies$Trial 
-- C56: NearCopies$Words 
-- C57: NearCopies$Words kinds
-- C58: NearCopies$Words holds
-- C59: NearCopies$Words nears
-- C60: NearCopies$Words ups
-- C61: NearCopies$Trial seen
-- C62: NearCopies$Trial 
-- C63: NearCopies$Words 
-- C64: NearCopies$Words kinds
-- C65: NearCopies$Words holds
-- C66: NearCopies$Words nears
-- C67: NearCopies$Words ups
-- C68: NearCopies$Trial seen
-- C69: NearCopies$Trial 
-- C70: NearCopies$Words 
-- C71: NearCopies$Words kinds
-- C72: NearCopies$Words holds
-- C73: NearCopies$Words nears
-- C74: NearCopies$Words ups
-- C75: NearCopies$Trial seen
-- C76: NearCopies$Trial 
-- C77: NearCopies$Words 
-- C78: NearCopies$Words kinds
-- C79: NearCopies$Words holds
-- C80: NearCopies$Words nears
-- C81: NearCopies$Words ups
-- C82: NearCopies$Trial seen
-- C83: NearCopies$Trial 
-- C84: NearCopies$Words 
-- C85: NearCopies$Words kinds
-- C86: NearCopies$Words holds
-- C87: NearCopies$Words nears
-- C88: NearCopies$Words ups
-- C89: NearCopies$Trial seen
def shC : List ZS := [.inl (8, [some (some 1), some (some 7), some (some 12), some (some 17), some (some 23), some (some 34), some (some 38)]),
  .inl (3, [none, none, some (some 2), some (some 3), some (some 4), some (some 5), some (some 6)]),
  .inr (.inl (0, 10)),
  .inr (.inl (0, 10)),
  .inr (.inl (0, 100)),
  .inr (.inl (0, 10)),
  .inr (.inl (0, 10)),
  .inl (5, [some (some 8), some (some 9), some (some 10), some (some 11)]),
  .inr (.inl (0, 4)),
  .inr (.inl (0, 4)),
  .inr (.inl (0, 4)),
  .inr (.inl (0, 40)),
  .inl (7, [none, some (some 13), some (some 14), some (some 15), some (some 16)]),
  .inr (.inl (0, 4)),
  .inr (.inl (0, 4)),
  .inr (.inl (1, 4)),
  .inr (.inl (1, 4)),
  .inl (2, [some (some 1), some (some 7), some (some 18), some (some 19), some (some 20), none, some (some 21), some (some 22)]),
  .inr (.inl (0, 10)),
  .inr (.inl (2, 10)),
  .inr (.inl (2, 10)),
  .inr (.inl (2, 14)),
  .inr (.inl (0, 14)),
  .inl (1, [some (some 1), some (some 7), some (some 12), some (some 17), some (some 24), some (some 29), some (some 30), some (some 31), some (some 32), some (some 33), none, none, none, none, none]),
  .inl (7, [none, some (some 25), some (some 26), some (some 27), some (some 28)]),
  .inr (.inl (0, 4)),
  .inr (.inl (0, 4)),
  .inr (.inl (1, 4)),
  .inr (.inl (1, 4)),
  .inr (.inl (0, 4)),
  .inr (.inl (0, 625)),
  .inr (.inl (0, 625)),
  .inr (.inl (0, 4)),
  .inr (.inl (0, 4)),
  .inl (4, [some (some 7), some (some 12), some (some 23), some (some 35), some (some 36), some (some 37), none, none]),
  .inr (.inl (0, 16)),
  .inr (.inl (0, 16)),
  .inr (.inl (0, 4)),
  .inl (0, [some (some 1), some (some 12), some (some 17), some (some 39), some (some 44), none, some (some 45), none, none, some (some 46), some (some 47), none, none, none, none, none, none]),
  .inl (7, [none, some (some 40), some (some 41), some (some 42), some (some 43)]),
  .inr (.inl (0, 4)),
  .inr (.inl (0, 4)),
  .inr (.inl (1, 4)),
  .inr (.inl (1, 4)),
  .inr (.inr [48, 55, 62, 69, 76, 83]),
  .inr (.inl (0, 256)),
  .inr (.inl (0, 256)),
  .inr (.inl (0, 256)),
  .inl (6, [some (some 49), some (some 54)]),
  .inl (7, [none, some (some 50), some (some 51), some (some 52), some (some 53)]),
  .inr (.inl (0, 4)),
  .inr (.inl (0, 4)),
  .inr (.inl (1, 4)),
  .inr (.inl (1, 4)),
  .inr (.inl (0, 10)),
  .inl (6, [some (some 56), some (some 61)]),
  .inl (7, [none, some (some 57), some (some 58), some (some 59), some (some 60)]),
  .inr (.inl (0, 4)),
  .inr (.inl (0, 4)),
  .inr (.inl (1, 4)),
  .inr (.inl (1, 4)),
  .inr (.inl (0, 10)),
  .inl (6, [some (some 63), some (some 68)]),
  .inl (7, [none, some (some 64), some (some 65), some (some 66), some (some 67)]),
  .inr (.inl (0, 4)),
  .inr (.inl (0, 4)),
  .inr (.inl (1, 4)),
  .inr (.inl (1, 4)),
  .inr (.inl (0, 10)),
  .inl (6, [some (some 70), some (some 75)]),
  .inl (7, [none, some (some 71), some (some 72), some (some 73), some (some 74)]),
  .inr (.inl (0, 4)),
  .inr (.inl (0, 4)),
  .inr (.inl (1, 4)),
  .inr (.inl (1, 4)),
  .inr (.inl (0, 10)),
  .inl (6, [some (some 77), some (some 82)]),
  .inl (7, [none, some (some 78), some (some 79), some (some 80), some (some 81)]),
  .inr (.inl (0, 4)),
  .inr (.inl (0, 4)),
  .inr (.inl (1, 4)),
  .inr (.inl (1, 4)),
  .inr (.inl (0, 10)),
  .inl (6, [some (some 84), some (some 89)]),
  .inl (7, [none, some (some 85), some (some 86), some (some 87), some (some 88)]),
  .inr (.inl (0, 4)),
  .inr (.inl (0, 4)),
  .inr (.inl (1, 4)),
  .inr (.inl (1, 4)),
  .inr (.inl (0, 10))]
theorem sc0 {G : ZG} (hG : zSH G = shC) : (zSH G)[0]? = some (.inl (8, [some (some 1), some (some 7), some (some 12), some (some 17), some (some 23), some (some 34), some (some 38)])) := by rw [hG]; rfl
theorem sc1 {G : ZG} (hG : zSH G = shC) : (zSH G)[1]? = some (.inl (3, [none, none, some (some 2), some (some 3), some (some 4), some (some 5), some (some 6)])) := by rw [hG]; rfl
theorem sc2 {G : ZG} (hG : zSH G = shC) : (zSH G)[2]? = some (.inr (.inl (0, 10))) := by rw [hG]; rfl
theorem sc3 {G : ZG} (hG : zSH G = shC) : (zSH G)[3]? = some (.inr (.inl (0, 10))) := by rw [hG]; rfl
theorem sc4 {G : ZG} (hG : zSH G = shC) : (zSH G)[4]? = some (.inr (.inl (0, 100))) := by rw [hG]; rfl
theorem sc5 {G : ZG} (hG : zSH G = shC) : (zSH G)[5]? = some (.inr (.inl (0, 10))) := by rw [hG]; rfl
theorem sc6 {G : ZG} (hG : zSH G = shC) : (zSH G)[6]? = some (.inr (.inl (0, 10))) := by rw [hG]; rfl
theorem sc7 {G : ZG} (hG : zSH G = shC) : (zSH G)[7]? = some (.inl (5, [some (some 8), some (some 9), some (some 10), some (some 11)])) := by rw [hG]; rfl
theorem sc8 {G : ZG} (hG : zSH G = shC) : (zSH G)[8]? = some (.inr (.inl (0, 4))) := by rw [hG]; rfl
theorem sc9 {G : ZG} (hG : zSH G = shC) : (zSH G)[9]? = some (.inr (.inl (0, 4))) := by rw [hG]; rfl
theorem sc10 {G : ZG} (hG : zSH G = shC) : (zSH G)[10]? = some (.inr (.inl (0, 4))) := by rw [hG]; rfl
theorem sc11 {G : ZG} (hG : zSH G = shC) : (zSH G)[11]? = some (.inr (.inl (0, 40))) := by rw [hG]; rfl
theorem sc12 {G : ZG} (hG : zSH G = shC) : (zSH G)[12]? = some (.inl (7, [none, some (some 13), some (some 14), some (some 15), some (some 16)])) := by rw [hG]; rfl
theorem sc13 {G : ZG} (hG : zSH G = shC) : (zSH G)[13]? = some (.inr (.inl (0, 4))) := by rw [hG]; rfl
theorem sc14 {G : ZG} (hG : zSH G = shC) : (zSH G)[14]? = some (.inr (.inl (0, 4))) := by rw [hG]; rfl
theorem sc15 {G : ZG} (hG : zSH G = shC) : (zSH G)[15]? = some (.inr (.inl (1, 4))) := by rw [hG]; rfl
theorem sc16 {G : ZG} (hG : zSH G = shC) : (zSH G)[16]? = some (.inr (.inl (1, 4))) := by rw [hG]; rfl
theorem sc17 {G : ZG} (hG : zSH G = shC) : (zSH G)[17]? = some (.inl (2, [some (some 1), some (some 7), some (some 18), some (some 19), some (some 20), none, some (some 21), some (some 22)])) := by rw [hG]; rfl
theorem sc18 {G : ZG} (hG : zSH G = shC) : (zSH G)[18]? = some (.inr (.inl (0, 10))) := by rw [hG]; rfl
theorem sc19 {G : ZG} (hG : zSH G = shC) : (zSH G)[19]? = some (.inr (.inl (2, 10))) := by rw [hG]; rfl
theorem sc20 {G : ZG} (hG : zSH G = shC) : (zSH G)[20]? = some (.inr (.inl (2, 10))) := by rw [hG]; rfl
theorem sc21 {G : ZG} (hG : zSH G = shC) : (zSH G)[21]? = some (.inr (.inl (2, 14))) := by rw [hG]; rfl
theorem sc22 {G : ZG} (hG : zSH G = shC) : (zSH G)[22]? = some (.inr (.inl (0, 14))) := by rw [hG]; rfl
theorem sc23 {G : ZG} (hG : zSH G = shC) : (zSH G)[23]? = some (.inl (1, [some (some 1), some (some 7), some (some 12), some (some 17), some (some 24), some (some 29), some (some 30), some (some 31), some (some 32), some (some 33), none, none, none, none, none])) := by rw [hG]; rfl
theorem sc24 {G : ZG} (hG : zSH G = shC) : (zSH G)[24]? = some (.inl (7, [none, some (some 25), some (some 26), some (some 27), some (some 28)])) := by rw [hG]; rfl
theorem sc25 {G : ZG} (hG : zSH G = shC) : (zSH G)[25]? = some (.inr (.inl (0, 4))) := by rw [hG]; rfl
theorem sc26 {G : ZG} (hG : zSH G = shC) : (zSH G)[26]? = some (.inr (.inl (0, 4))) := by rw [hG]; rfl
theorem sc27 {G : ZG} (hG : zSH G = shC) : (zSH G)[27]? = some (.inr (.inl (1, 4))) := by rw [hG]; rfl
theorem sc28 {G : ZG} (hG : zSH G = shC) : (zSH G)[28]? = some (.inr (.inl (1, 4))) := by rw [hG]; rfl
theorem sc29 {G : ZG} (hG : zSH G = shC) : (zSH G)[29]? = some (.inr (.inl (0, 4))) := by rw [hG]; rfl
theorem sc30 {G : ZG} (hG : zSH G = shC) : (zSH G)[30]? = some (.inr (.inl (0, 625))) := by rw [hG]; rfl
theorem sc31 {G : ZG} (hG : zSH G = shC) : (zSH G)[31]? = some (.inr (.inl (0, 625))) := by rw [hG]; rfl
theorem sc32 {G : ZG} (hG : zSH G = shC) : (zSH G)[32]? = some (.inr (.inl (0, 4))) := by rw [hG]; rfl
theorem sc33 {G : ZG} (hG : zSH G = shC) : (zSH G)[33]? = some (.inr (.inl (0, 4))) := by rw [hG]; rfl
theorem sc34 {G : ZG} (hG : zSH G = shC) : (zSH G)[34]? = some (.inl (4, [some (some 7), some (some 12), some (some 23), some (some 35), some (some 36), some (some 37), none, none])) := by rw [hG]; rfl
theorem sc35 {G : ZG} (hG : zSH G = shC) : (zSH G)[35]? = some (.inr (.inl (0, 16))) := by rw [hG]; rfl
theorem sc36 {G : ZG} (hG : zSH G = shC) : (zSH G)[36]? = some (.inr (.inl (0, 16))) := by rw [hG]; rfl
theorem sc37 {G : ZG} (hG : zSH G = shC) : (zSH G)[37]? = some (.inr (.inl (0, 4))) := by rw [hG]; rfl
theorem sc38 {G : ZG} (hG : zSH G = shC) : (zSH G)[38]? = some (.inl (0, [some (some 1), some (some 12), some (some 17), some (some 39), some (some 44), none, some (some 45), none, none, some (some 46), some (some 47), none, none, none, none, none, none])) := by rw [hG]; rfl
theorem sc39 {G : ZG} (hG : zSH G = shC) : (zSH G)[39]? = some (.inl (7, [none, some (some 40), some (some 41), some (some 42), some (some 43)])) := by rw [hG]; rfl
theorem sc40 {G : ZG} (hG : zSH G = shC) : (zSH G)[40]? = some (.inr (.inl (0, 4))) := by rw [hG]; rfl
theorem sc41 {G : ZG} (hG : zSH G = shC) : (zSH G)[41]? = some (.inr (.inl (0, 4))) := by rw [hG]; rfl
theorem sc42 {G : ZG} (hG : zSH G = shC) : (zSH G)[42]? = some (.inr (.inl (1, 4))) := by rw [hG]; rfl
theorem sc43 {G : ZG} (hG : zSH G = shC) : (zSH G)[43]? = some (.inr (.inl (1, 4))) := by rw [hG]; rfl
theorem sc44 {G : ZG} (hG : zSH G = shC) : (zSH G)[44]? = some (.inr (.inr [48, 55, 62, 69, 76, 83])) := by rw [hG]; rfl
theorem sc45 {G : ZG} (hG : zSH G = shC) : (zSH G)[45]? = some (.inr (.inl (0, 256))) := by rw [hG]; rfl
theorem sc46 {G : ZG} (hG : zSH G = shC) : (zSH G)[46]? = some (.inr (.inl (0, 256))) := by rw [hG]; rfl
theorem sc47 {G : ZG} (hG : zSH G = shC) : (zSH G)[47]? = some (.inr (.inl (0, 256))) := by rw [hG]; rfl
theorem sc48 {G : ZG} (hG : zSH G = shC) : (zSH G)[48]? = some (.inl (6, [some (some 49), some (some 54)])) := by rw [hG]; rfl
theorem sc49 {G : ZG} (hG : zSH G = shC) : (zSH G)[49]? = some (.inl (7, [none, some (some 50), some (some 51), some (some 52), some (some 53)])) := by rw [hG]; rfl
theorem sc50 {G : ZG} (hG : zSH G = shC) : (zSH G)[50]? = some (.inr (.inl (0, 4))) := by rw [hG]; rfl
theorem sc51 {G : ZG} (hG : zSH G = shC) : (zSH G)[51]? = some (.inr (.inl (0, 4))) := by rw [hG]; rfl
theorem sc52 {G : ZG} (hG : zSH G = shC) : (zSH G)[52]? = some (.inr (.inl (1, 4))) := by rw [hG]; rfl
theorem sc53 {G : ZG} (hG : zSH G = shC) : (zSH G)[53]? = some (.inr (.inl (1, 4))) := by rw [hG]; rfl
theorem sc54 {G : ZG} (hG : zSH G = shC) : (zSH G)[54]? = some (.inr (.inl (0, 10))) := by rw [hG]; rfl
theorem sc55 {G : ZG} (hG : zSH G = shC) : (zSH G)[55]? = some (.inl (6, [some (some 56), some (some 61)])) := by rw [hG]; rfl
theorem sc56 {G : ZG} (hG : zSH G = shC) : (zSH G)[56]? = some (.inl (7, [none, some (some 57), some (some 58), some (some 59), some (some 60)])) := by rw [hG]; rfl
theorem sc57 {G : ZG} (hG : zSH G = shC) : (zSH G)[57]? = some (.inr (.inl (0, 4))) := by rw [hG]; rfl
theorem sc58 {G : ZG} (hG : zSH G = shC) : (zSH G)[58]? = some (.inr (.inl (0, 4))) := by rw [hG]; rfl
theorem sc59 {G : ZG} (hG : zSH G = shC) : (zSH G)[59]? = some (.inr (.inl (1, 4))) := by rw [hG]; rfl
theorem sc60 {G : ZG} (hG : zSH G = shC) : (zSH G)[60]? = some (.inr (.inl (1, 4))) := by rw [hG]; rfl
theorem sc61 {G : ZG} (hG : zSH G = shC) : (zSH G)[61]? = some (.inr (.inl (0, 10))) := by rw [hG]; rfl
theorem sc62 {G : ZG} (hG : zSH G = shC) : (zSH G)[62]? = some (.inl (6, [some (some 63), some (some 68)])) := by rw [hG]; rfl
theorem sc63 {G : ZG} (hG : zSH G = shC) : (zSH G)[63]? = some (.inl (7, [none, some (some 64), some (some 65), some (some 66), some (some 67)])) := by rw [hG]; rfl
theorem sc64 {G : ZG} (hG : zSH G = shC) : (zSH G)[64]? = some (.inr (.inl (0, 4))) := by rw [hG]; rfl
theorem sc65 {G : ZG} (hG : zSH G = shC) : (zSH G)[65]? = some (.inr (.inl (0, 4))) := by rw [hG]; rfl
theorem sc66 {G : ZG} (hG : zSH G = shC) : (zSH G)[66]? = some (.inr (.inl (1, 4))) := by rw [hG]; rfl
theorem sc67 {G : ZG} (hG : zSH G = shC) : (zSH G)[67]? = some (.inr (.inl (1, 4))) := by rw [hG]; rfl
theorem sc68 {G : ZG} (hG : zSH G = shC) : (zSH G)[68]? = some (.inr (.inl (0, 10))) := by rw [hG]; rfl
theorem sc69 {G : ZG} (hG : zSH G = shC) : (zSH G)[69]? = some (.inl (6, [some (some 70), some (some 75)])) := by rw [hG]; rfl
theorem sc70 {G : ZG} (hG : zSH G = shC) : (zSH G)[70]? = some (.inl (7, [none, some (some 71), some (some 72), some (some 73), some (some 74)])) := by rw [hG]; rfl
theorem sc71 {G : ZG} (hG : zSH G = shC) : (zSH G)[71]? = some (.inr (.inl (0, 4))) := by rw [hG]; rfl
theorem sc72 {G : ZG} (hG : zSH G = shC) : (zSH G)[72]? = some (.inr (.inl (0, 4))) := by rw [hG]; rfl
theorem sc73 {G : ZG} (hG : zSH G = shC) : (zSH G)[73]? = some (.inr (.inl (1, 4))) := by rw [hG]; rfl
theorem sc74 {G : ZG} (hG : zSH G = shC) : (zSH G)[74]? = some (.inr (.inl (1, 4))) := by rw [hG]; rfl
theorem sc75 {G : ZG} (hG : zSH G = shC) : (zSH G)[75]? = some (.inr (.inl (0, 10))) := by rw [hG]; rfl
theorem sc76 {G : ZG} (hG : zSH G = shC) : (zSH G)[76]? = some (.inl (6, [some (some 77), some (some 82)])) := by rw [hG]; rfl
theorem sc77 {G : ZG} (hG : zSH G = shC) : (zSH G)[77]? = some (.inl (7, [none, some (some 78), some (some 79), some (some 80), some (some 81)])) := by rw [hG]; rfl
theorem sc78 {G : ZG} (hG : zSH G = shC) : (zSH G)[78]? = some (.inr (.inl (0, 4))) := by rw [hG]; rfl
theorem sc79 {G : ZG} (hG : zSH G = shC) : (zSH G)[79]? = some (.inr (.inl (0, 4))) := by rw [hG]; rfl
theorem sc80 {G : ZG} (hG : zSH G = shC) : (zSH G)[80]? = some (.inr (.inl (1, 4))) := by rw [hG]; rfl
theorem sc81 {G : ZG} (hG : zSH G = shC) : (zSH G)[81]? = some (.inr (.inl (1, 4))) := by rw [hG]; rfl
theorem sc82 {G : ZG} (hG : zSH G = shC) : (zSH G)[82]? = some (.inr (.inl (0, 10))) := by rw [hG]; rfl
theorem sc83 {G : ZG} (hG : zSH G = shC) : (zSH G)[83]? = some (.inl (6, [some (some 84), some (some 89)])) := by rw [hG]; rfl
theorem sc84 {G : ZG} (hG : zSH G = shC) : (zSH G)[84]? = some (.inl (7, [none, some (some 85), some (some 86), some (some 87), some (some 88)])) := by rw [hG]; rfl
theorem sc85 {G : ZG} (hG : zSH G = shC) : (zSH G)[85]? = some (.inr (.inl (0, 4))) := by rw [hG]; rfl
theorem sc86 {G : ZG} (hG : zSH G = shC) : (zSH G)[86]? = some (.inr (.inl (0, 4))) := by rw [hG]; rfl
theorem sc87 {G : ZG} (hG : zSH G = shC) : (zSH G)[87]? = some (.inr (.inl (1, 4))) := by rw [hG]; rfl
theorem sc88 {G : ZG} (hG : zSH G = shC) : (zSH G)[88]? = some (.inr (.inl (1, 4))) := by rw [hG]; rfl
theorem sc89 {G : ZG} (hG : zSH G = shC) : (zSH G)[89]? = some (.inr (.inl (0, 10))) := by rw [hG]; rfl
-- M0: NearCopiesModel 
-- M1: NearCopiesModel tie
-- M2: NearCopiesModel askers
-- M3: NearCopiesModel guess
-- M4: NearCopiesModel home
-- M5: NearCopiesModel room
-- M6: NearCopiesModel isUp
-- M7: NearCopiesModel kind
-- M8: NearCopiesModel held
-- M9: NearCopiesModel isNear
-- M10: NearCopiesModel late
-- M11: NearCopiesModel aimed
-- M12: NearCopiesModel askKind
-- M13: NearCopiesModel askHeld
-- M14: NearCopiesModel askNear
-- M15: NearCopiesModel askUp
-- M16: NearCopiesModel askRule
-- M17: NearCopiesModel wordSite
-- M18: NearCopiesModel wordNames
-- M19: NearCopiesModel wordFrom
-- M20: NearCopiesModel wordMany
-- M21: NearCopiesModel wordNets
-- M22: NearCopiesModel nextSite
-- M23: NearCopiesModel nextNames
-- M24: NearCopiesModel nextFrom
-- M25: NearCopiesModel nextMany
-- M26: NearCopiesModel nextNets
-- M27: NearCopiesModel before
-- M28: NearCopiesModel trialSites
-- M29: NearCopiesModel trialKind
-- M30: NearCopiesModel trialHeld
-- M31: NearCopiesModel trialNear
-- M32: NearCopiesModel trialUp
-- M33: NearCopiesModel trialSeen
-- M34: NearCopiesModel agreed
-- M35: NearCopiesModel learnt
-- M36: NearCopiesModel outcome
-- M37: NearCopiesModel chosen
-- M38: NearCopiesModel bestKinds
-- M39: NearCopiesModel order
-- M40: NearCopiesModel bestOrder
def shM : List ZS := [.inl (9, [none, none, some (some 1), some (some 2), some (some 3), none, some (some 4), some (some 5), some (some 6), some (some 7), some (some 8), some (some 9), some (some 10), some (some 11), none, some (some 12), some (some 13), some (some 14), some (some 15), some (some 16), some (some 17), some (some 18), some (some 19), some (some 20), some (some 21), some (some 22), some (some 23), some (some 24), some (some 25), some (some 26), none, none, some (some 27), none, some (some 28), some (some 29), some (some 30), some (some 31), some (some 32), some (some 33), none, some (some 34), some (some 35), some (some 36), none, none, some (some 37), none, some none, none, some (some 38), none, some none, none, some (some 39), some (some 40), none]),
  .inr (.inl (0, 100)),
  .inr (.inl (0, 10)),
  .inr (.inl (0, 10)),
  .inr (.inl (0, 4)),
  .inr (.inl (0, 4)),
  .inr (.inl (1, 4)),
  .inr (.inl (0, 4)),
  .inr (.inl (0, 4)),
  .inr (.inl (1, 4)),
  .inr (.inl (0, 40)),
  .inr (.inl (0, 4)),
  .inr (.inl (0, 4)),
  .inr (.inl (0, 4)),
  .inr (.inl (1, 4)),
  .inr (.inl (1, 4)),
  .inr (.inl (0, 10)),
  .inr (.inl (0, 10)),
  .inr (.inl (0, 10)),
  .inr (.inl (0, 10)),
  .inr (.inl (0, 10)),
  .inr (.inl (0, 100)),
  .inr (.inl (0, 10)),
  .inr (.inl (0, 10)),
  .inr (.inl (0, 10)),
  .inr (.inl (0, 10)),
  .inr (.inl (0, 100)),
  .inr (.inl (0, 10)),
  .inr (.inl (0, 6)),
  .inr (.inl (0, 24)),
  .inr (.inl (0, 24)),
  .inr (.inl (1, 24)),
  .inr (.inl (1, 24)),
  .inr (.inl (0, 60)),
  .inr (.inl (0, 256)),
  .inr (.inl (0, 10)),
  .inr (.inl (2, 256)),
  .inr (.inl (0, 4)),
  .inr (.inl (0, 4)),
  .inr (.inl (0, 4)),
  .inr (.inl (0, 4))]
theorem sm0 {G : ZG} (hG : zSH G = shM) : (zSH G)[0]? = some (.inl (9, [none, none, some (some 1), some (some 2), some (some 3), none, some (some 4), some (some 5), some (some 6), some (some 7), some (some 8), some (some 9), some (some 10), some (some 11), none, some (some 12), some (some 13), some (some 14), some (some 15), some (some 16), some (some 17), some (some 18), some (some 19), some (some 20), some (some 21), some (some 22), some (some 23), some (some 24), some (some 25), some (some 26), none, none, some (some 27), none, some (some 28), some (some 29), some (some 30), some (some 31), some (some 32), some (some 33), none, some (some 34), some (some 35), some (some 36), none, none, some (some 37), none, some none, none, some (some 38), none, some none, none, some (some 39), some (some 40), none])) := by rw [hG]; rfl
theorem sm1 {G : ZG} (hG : zSH G = shM) : (zSH G)[1]? = some (.inr (.inl (0, 100))) := by rw [hG]; rfl
theorem sm2 {G : ZG} (hG : zSH G = shM) : (zSH G)[2]? = some (.inr (.inl (0, 10))) := by rw [hG]; rfl
theorem sm3 {G : ZG} (hG : zSH G = shM) : (zSH G)[3]? = some (.inr (.inl (0, 10))) := by rw [hG]; rfl
theorem sm4 {G : ZG} (hG : zSH G = shM) : (zSH G)[4]? = some (.inr (.inl (0, 4))) := by rw [hG]; rfl
theorem sm5 {G : ZG} (hG : zSH G = shM) : (zSH G)[5]? = some (.inr (.inl (0, 4))) := by rw [hG]; rfl
theorem sm6 {G : ZG} (hG : zSH G = shM) : (zSH G)[6]? = some (.inr (.inl (1, 4))) := by rw [hG]; rfl
theorem sm7 {G : ZG} (hG : zSH G = shM) : (zSH G)[7]? = some (.inr (.inl (0, 4))) := by rw [hG]; rfl
theorem sm8 {G : ZG} (hG : zSH G = shM) : (zSH G)[8]? = some (.inr (.inl (0, 4))) := by rw [hG]; rfl
theorem sm9 {G : ZG} (hG : zSH G = shM) : (zSH G)[9]? = some (.inr (.inl (1, 4))) := by rw [hG]; rfl
theorem sm10 {G : ZG} (hG : zSH G = shM) : (zSH G)[10]? = some (.inr (.inl (0, 40))) := by rw [hG]; rfl
theorem sm11 {G : ZG} (hG : zSH G = shM) : (zSH G)[11]? = some (.inr (.inl (0, 4))) := by rw [hG]; rfl
theorem sm12 {G : ZG} (hG : zSH G = shM) : (zSH G)[12]? = some (.inr (.inl (0, 4))) := by rw [hG]; rfl
theorem sm13 {G : ZG} (hG : zSH G = shM) : (zSH G)[13]? = some (.inr (.inl (0, 4))) := by rw [hG]; rfl
theorem sm14 {G : ZG} (hG : zSH G = shM) : (zSH G)[14]? = some (.inr (.inl (1, 4))) := by rw [hG]; rfl
theorem sm15 {G : ZG} (hG : zSH G = shM) : (zSH G)[15]? = some (.inr (.inl (1, 4))) := by rw [hG]; rfl
theorem sm16 {G : ZG} (hG : zSH G = shM) : (zSH G)[16]? = some (.inr (.inl (0, 10))) := by rw [hG]; rfl
theorem sm17 {G : ZG} (hG : zSH G = shM) : (zSH G)[17]? = some (.inr (.inl (0, 10))) := by rw [hG]; rfl
theorem sm18 {G : ZG} (hG : zSH G = shM) : (zSH G)[18]? = some (.inr (.inl (0, 10))) := by rw [hG]; rfl
theorem sm19 {G : ZG} (hG : zSH G = shM) : (zSH G)[19]? = some (.inr (.inl (0, 10))) := by rw [hG]; rfl
theorem sm20 {G : ZG} (hG : zSH G = shM) : (zSH G)[20]? = some (.inr (.inl (0, 10))) := by rw [hG]; rfl
theorem sm21 {G : ZG} (hG : zSH G = shM) : (zSH G)[21]? = some (.inr (.inl (0, 100))) := by rw [hG]; rfl
theorem sm22 {G : ZG} (hG : zSH G = shM) : (zSH G)[22]? = some (.inr (.inl (0, 10))) := by rw [hG]; rfl
theorem sm23 {G : ZG} (hG : zSH G = shM) : (zSH G)[23]? = some (.inr (.inl (0, 10))) := by rw [hG]; rfl
theorem sm24 {G : ZG} (hG : zSH G = shM) : (zSH G)[24]? = some (.inr (.inl (0, 10))) := by rw [hG]; rfl
theorem sm25 {G : ZG} (hG : zSH G = shM) : (zSH G)[25]? = some (.inr (.inl (0, 10))) := by rw [hG]; rfl
theorem sm26 {G : ZG} (hG : zSH G = shM) : (zSH G)[26]? = some (.inr (.inl (0, 100))) := by rw [hG]; rfl
theorem sm27 {G : ZG} (hG : zSH G = shM) : (zSH G)[27]? = some (.inr (.inl (0, 10))) := by rw [hG]; rfl
theorem sm28 {G : ZG} (hG : zSH G = shM) : (zSH G)[28]? = some (.inr (.inl (0, 6))) := by rw [hG]; rfl
theorem sm29 {G : ZG} (hG : zSH G = shM) : (zSH G)[29]? = some (.inr (.inl (0, 24))) := by rw [hG]; rfl
theorem sm30 {G : ZG} (hG : zSH G = shM) : (zSH G)[30]? = some (.inr (.inl (0, 24))) := by rw [hG]; rfl
theorem sm31 {G : ZG} (hG : zSH G = shM) : (zSH G)[31]? = some (.inr (.inl (1, 24))) := by rw [hG]; rfl
theorem sm32 {G : ZG} (hG : zSH G = shM) : (zSH G)[32]? = some (.inr (.inl (1, 24))) := by rw [hG]; rfl
theorem sm33 {G : ZG} (hG : zSH G = shM) : (zSH G)[33]? = some (.inr (.inl (0, 60))) := by rw [hG]; rfl
theorem sm34 {G : ZG} (hG : zSH G = shM) : (zSH G)[34]? = some (.inr (.inl (0, 256))) := by rw [hG]; rfl
theorem sm35 {G : ZG} (hG : zSH G = shM) : (zSH G)[35]? = some (.inr (.inl (0, 10))) := by rw [hG]; rfl
theorem sm36 {G : ZG} (hG : zSH G = shM) : (zSH G)[36]? = some (.inr (.inl (2, 256))) := by rw [hG]; rfl
theorem sm37 {G : ZG} (hG : zSH G = shM) : (zSH G)[37]? = some (.inr (.inl (0, 4))) := by rw [hG]; rfl
theorem sm38 {G : ZG} (hG : zSH G = shM) : (zSH G)[38]? = some (.inr (.inl (0, 4))) := by rw [hG]; rfl
theorem sm39 {G : ZG} (hG : zSH G = shM) : (zSH G)[39]? = some (.inr (.inl (0, 4))) := by rw [hG]; rfl
theorem sm40 {G : ZG} (hG : zSH G = shM) : (zSH G)[40]? = some (.inr (.inl (0, 4))) := by rw [hG]; rfl
theorem shC60 {G : ZG} (hG : zSH G = shC) : 60 ≤ (zSH G).length := by rw [hG]; decide
def zWd (G : ZG) (w : Nat) : Prop := (zSH G)[w]? = some (.inl (7, [none, some (some (w + 1)), some (some (w + 2)), some (some (w + 3)), some (some (w + 4))])) ∧ (zSH G)[w + 1]? = some (.inr (.inl (0, 4))) ∧ (zSH G)[w + 2]? = some (.inr (.inl (0, 4))) ∧ (zSH G)[w + 3]? = some (.inr (.inl (1, 4))) ∧ (zSH G)[w + 4]? = some (.inr (.inl (1, 4)))
theorem wd12 {G : ZG} (hG : zSH G = shC) : zWd G 12 := ⟨sc12 hG, sc13 hG, sc14 hG, sc15 hG, sc16 hG⟩
theorem wd24 {G : ZG} (hG : zSH G = shC) : zWd G 24 := ⟨sc24 hG, sc25 hG, sc26 hG, sc27 hG, sc28 hG⟩
theorem wd39 {G : ZG} (hG : zSH G = shC) : zWd G 39 := ⟨sc39 hG, sc40 hG, sc41 hG, sc42 hG, sc43 hG⟩
theorem wd49 {G : ZG} (hG : zSH G = shC) : zWd G 49 := ⟨sc49 hG, sc50 hG, sc51 hG, sc52 hG, sc53 hG⟩
theorem wd56 {G : ZG} (hG : zSH G = shC) : zWd G 56 := ⟨sc56 hG, sc57 hG, sc58 hG, sc59 hG, sc60 hG⟩
theorem wd63 {G : ZG} (hG : zSH G = shC) : zWd G 63 := ⟨sc63 hG, sc64 hG, sc65 hG, sc66 hG, sc67 hG⟩
theorem wd70 {G : ZG} (hG : zSH G = shC) : zWd G 70 := ⟨sc70 hG, sc71 hG, sc72 hG, sc73 hG, sc74 hG⟩
theorem wd77 {G : ZG} (hG : zSH G = shC) : zWd G 77 := ⟨sc77 hG, sc78 hG, sc79 hG, sc80 hG, sc81 hG⟩
theorem wd84 {G : ZG} (hG : zSH G = shC) : zWd G 84 := ⟨sc84 hG, sc85 hG, sc86 hG, sc87 hG, sc88 hG⟩
def zTr (G : ZG) (t : Nat) : Prop := (zSH G)[t]? = some (.inl (6, [some (some (t + 1)), some (some (t + 6))])) ∧ zWd G (t + 1) ∧ (zSH G)[t + 6]? = some (.inr (.inl (0, 10)))
theorem tr48 {G : ZG} (hG : zSH G = shC) : zTr G 48 := ⟨sc48 hG, wd49 hG, sc54 hG⟩
theorem tr55 {G : ZG} (hG : zSH G = shC) : zTr G 55 := ⟨sc55 hG, wd56 hG, sc61 hG⟩
theorem tr62 {G : ZG} (hG : zSH G = shC) : zTr G 62 := ⟨sc62 hG, wd63 hG, sc68 hG⟩
theorem tr69 {G : ZG} (hG : zSH G = shC) : zTr G 69 := ⟨sc69 hG, wd70 hG, sc75 hG⟩
theorem tr76 {G : ZG} (hG : zSH G = shC) : zTr G 76 := ⟨sc76 hG, wd77 hG, sc82 hG⟩
theorem tr83 {G : ZG} (hG : zSH G = shC) : zTr G 83 := ⟨sc83 hG, wd84 hG, sc89 hG⟩
def ztrl : List Nat := [48, 55, 62, 69, 76, 83]
theorem tr_of {G : ZG} (hG : zSH G = shC) {i : Int32} {t : Nat} (h : zalR ztrl i = some t) : zTr G t := by
  unfold zalR at h
  split at h
  · cases h
  · have hm := List.mem_of_getElem? h
    simp only [ztrl, List.mem_cons, List.not_mem_nil, or_false] at hm
    rcases hm with rfl | rfl | rfl | rfl | rfl | rfl
    · exact tr48 hG
    · exact tr55 hG
    · exact tr62 hG
    · exact tr69 hG
    · exact tr76 hG
    · exact tr83 hG
/-! links, by their places in the tables -/
theorem lf_RX8_26 : zLk RX8 26 8 0 := ⟨(RX8, TX8, 7), rfl, by decide, ztb_mem (List.mem_of_getElem? (i := 350) (by decide +kernel)) rfl⟩
theorem lf_RX8_32 : zLk RX8 32 8 1 := ⟨(RX8, TX8, 7), rfl, by decide, ztb_mem (List.mem_of_getElem? (i := 351) (by decide +kernel)) rfl⟩
theorem lf_RX8_36 : zLk RX8 36 8 2 := ⟨(RX8, TX8, 7), rfl, by decide, ztb_mem (List.mem_of_getElem? (i := 352) (by decide +kernel)) rfl⟩
theorem lf_RX8_40 : zLk RX8 40 8 3 := ⟨(RX8, TX8, 7), rfl, by decide, ztb_mem (List.mem_of_getElem? (i := 353) (by decide +kernel)) rfl⟩
theorem lf_RX8_44 : zLk RX8 44 8 4 := ⟨(RX8, TX8, 7), rfl, by decide, ztb_mem (List.mem_of_getElem? (i := 354) (by decide +kernel)) rfl⟩
theorem lf_RX8_53 : zLk RX8 53 8 5 := ⟨(RX8, TX8, 7), rfl, by decide, ztb_mem (List.mem_of_getElem? (i := 355) (by decide +kernel)) rfl⟩
theorem lf_RX8_62 : zLk RX8 62 8 6 := ⟨(RX8, TX8, 7), rfl, by decide, ztb_mem (List.mem_of_getElem? (i := 356) (by decide +kernel)) rfl⟩
theorem lf_RX8_70 : zLk RX8 70 3 0 := ⟨(RX3, TX3, 7), rfl, by decide, ztb_mem (List.mem_of_getElem? (i := 30) (by decide +kernel)) rfl⟩
theorem lp_RX8_70 : zLp RX8 70 3 0 .int := ⟨(RX3, TX3, 7), rfl, by decide, ztb_mem (List.mem_of_getElem? (i := 30) (by decide +kernel)) rfl, rfl, by decide +kernel⟩
theorem lf_RX8_92 : zLk RX8 92 3 1 := ⟨(RX3, TX3, 7), rfl, by decide, ztb_mem (List.mem_of_getElem? (i := 34) (by decide +kernel)) rfl⟩
theorem lp_RX8_92 : zLp RX8 92 3 1 .int := ⟨(RX3, TX3, 7), rfl, by decide, ztb_mem (List.mem_of_getElem? (i := 34) (by decide +kernel)) rfl, rfl, by decide +kernel⟩
theorem lf_RX8_99 : zLk RX8 99 3 2 := ⟨(RX3, TX3, 7), rfl, by decide, ztb_mem (List.mem_of_getElem? (i := 37) (by decide +kernel)) rfl⟩
theorem lf_RX8_107 : zLk RX8 107 3 3 := ⟨(RX3, TX3, 7), rfl, by decide, ztb_mem (List.mem_of_getElem? (i := 41) (by decide +kernel)) rfl⟩
theorem lf_RX8_111 : zLk RX8 111 7 0 := ⟨(RX7, TX7, 5), rfl, by decide, ztb_mem (List.mem_of_getElem? (i := 101) (by decide +kernel)) rfl⟩
theorem lp_RX8_111 : zLp RX8 111 7 0 .int := ⟨(RX7, TX7, 5), rfl, by decide, ztb_mem (List.mem_of_getElem? (i := 101) (by decide +kernel)) rfl, rfl, by decide +kernel⟩
theorem lf_RX8_112 : zLk RX8 112 5 0 := ⟨(RX5, TX5, 4), rfl, by decide, ztb_mem (List.mem_of_getElem? (i := 72) (by decide +kernel)) rfl⟩
theorem lf_RX8_115 : zLk RX8 115 5 1 := ⟨(RX5, TX5, 4), rfl, by decide, ztb_mem (List.mem_of_getElem? (i := 75) (by decide +kernel)) rfl⟩
theorem lf_RX8_122 : zLk RX8 122 7 4 := ⟨(RX7, TX7, 5), rfl, by decide, ztb_mem (List.mem_of_getElem? (i := 119) (by decide +kernel)) rfl⟩
theorem lf_RX8_129 : zLk RX8 129 7 1 := ⟨(RX7, TX7, 5), rfl, by decide, ztb_mem (List.mem_of_getElem? (i := 107) (by decide +kernel)) rfl⟩
theorem lf_RX8_135 : zLk RX8 135 7 2 := ⟨(RX7, TX7, 5), rfl, by decide, ztb_mem (List.mem_of_getElem? (i := 111) (by decide +kernel)) rfl⟩
theorem lf_RX8_138 : zLk RX8 138 7 3 := ⟨(RX7, TX7, 5), rfl, by decide, ztb_mem (List.mem_of_getElem? (i := 115) (by decide +kernel)) rfl⟩
theorem lf_RX8_141 : zLk RX8 141 5 3 := ⟨(RX5, TX5, 4), rfl, by decide, ztb_mem (List.mem_of_getElem? (i := 82) (by decide +kernel)) rfl⟩
theorem lf_RX8_154 : zLk RX8 154 2 3 := ⟨(RX2, TX2, 8), rfl, by decide, ztb_mem (List.mem_of_getElem? (i := 144) (by decide +kernel)) rfl⟩
theorem lf_RX8_170 : zLk RX8 170 2 5 := ⟨(RX2, TX2, 8), rfl, by decide, ztb_mem (List.mem_of_getElem? (i := 147) (by decide +kernel)) rfl⟩
theorem lp_RX8_170 : zLp RX8 170 2 5 .int := ⟨(RX2, TX2, 8), rfl, by decide, ztb_mem (List.mem_of_getElem? (i := 147) (by decide +kernel)) rfl, rfl, by decide +kernel⟩
theorem lf_RX8_179 : zLk RX8 179 1 6 := ⟨(RX1, TX1, 15), rfl, by decide, ztb_mem (List.mem_of_getElem? (i := 184) (by decide +kernel)) rfl⟩
theorem lf_RX8_190 : zLk RX8 190 1 7 := ⟨(RX1, TX1, 15), rfl, by decide, ztb_mem (List.mem_of_getElem? (i := 186) (by decide +kernel)) rfl⟩
theorem lf_RX8_193 : zLk RX8 193 1 8 := ⟨(RX1, TX1, 15), rfl, by decide, ztb_mem (List.mem_of_getElem? (i := 189) (by decide +kernel)) rfl⟩
theorem lf_RX8_202 : zLk RX8 202 0 5 := ⟨(RX0, TX0, 17), rfl, by decide, ztb_mem (List.mem_of_getElem? (i := 298) (by decide +kernel)) rfl⟩
theorem lp_RX8_202 : zLp RX8 202 0 5 .int := ⟨(RX0, TX0, 17), rfl, by decide, ztb_mem (List.mem_of_getElem? (i := 298) (by decide +kernel)) rfl, rfl, by decide +kernel⟩
theorem lf_RX8_211 : zLk RX8 211 0 4 := ⟨(RX0, TX0, 17), rfl, by decide, ztb_mem (List.mem_of_getElem? (i := 296) (by decide +kernel)) rfl⟩
theorem lf_RX8_215 : zLk RX8 215 6 1 := ⟨(RX6, TX6, 2), rfl, by decide, ztb_mem (List.mem_of_getElem? (i := 285) (by decide +kernel)) rfl⟩
theorem lf_RX8_227 : zLk RX8 227 0 7 := ⟨(RX0, TX0, 17), rfl, by decide, ztb_mem (List.mem_of_getElem? (i := 301) (by decide +kernel)) rfl⟩
theorem lp_RX8_227 : zLp RX8 227 0 7 .int := ⟨(RX0, TX0, 17), rfl, by decide, ztb_mem (List.mem_of_getElem? (i := 301) (by decide +kernel)) rfl, rfl, by decide +kernel⟩
theorem lf_RX8_236 : zLk RX8 236 0 8 := ⟨(RX0, TX0, 17), rfl, by decide, ztb_mem (List.mem_of_getElem? (i := 303) (by decide +kernel)) rfl⟩
theorem lp_RX8_236 : zLp RX8 236 0 8 .int := ⟨(RX0, TX0, 17), rfl, by decide, ztb_mem (List.mem_of_getElem? (i := 303) (by decide +kernel)) rfl, rfl, by decide +kernel⟩
theorem lf_RX8_245 : zLk RX8 245 0 14 := ⟨(RX0, TX0, 17), rfl, by decide, ztb_mem (List.mem_of_getElem? (i := 312) (by decide +kernel)) rfl⟩
theorem lp_RX8_245 : zLp RX8 245 0 14 .int := ⟨(RX0, TX0, 17), rfl, by decide, ztb_mem (List.mem_of_getElem? (i := 312) (by decide +kernel)) rfl, rfl, by decide +kernel⟩
theorem lf_RX8_248 : zLk RX8 248 0 12 := ⟨(RX0, TX0, 17), rfl, by decide, ztb_mem (List.mem_of_getElem? (i := 308) (by decide +kernel)) rfl⟩
theorem lp_RX8_248 : zLp RX8 248 0 12 .int := ⟨(RX0, TX0, 17), rfl, by decide, ztb_mem (List.mem_of_getElem? (i := 308) (by decide +kernel)) rfl, rfl, by decide +kernel⟩
theorem lf_RX8_251 : zLk RX8 251 0 13 := ⟨(RX0, TX0, 17), rfl, by decide, ztb_mem (List.mem_of_getElem? (i := 310) (by decide +kernel)) rfl⟩
theorem lp_RX8_251 : zLp RX8 251 0 13 .int := ⟨(RX0, TX0, 17), rfl, by decide, ztb_mem (List.mem_of_getElem? (i := 310) (by decide +kernel)) rfl, rfl, by decide +kernel⟩
theorem lf_RX8_261 : zLk RX8 261 1 10 := ⟨(RX1, TX1, 15), rfl, by decide, ztb_mem (List.mem_of_getElem? (i := 193) (by decide +kernel)) rfl⟩
theorem lp_RX8_261 : zLp RX8 261 1 10 .int := ⟨(RX1, TX1, 15), rfl, by decide, ztb_mem (List.mem_of_getElem? (i := 193) (by decide +kernel)) rfl, rfl, by decide +kernel⟩
theorem lf_RX8_266 : zLk RX8 266 1 11 := ⟨(RX1, TX1, 15), rfl, by decide, ztb_mem (List.mem_of_getElem? (i := 195) (by decide +kernel)) rfl⟩
theorem lp_RX8_266 : zLp RX8 266 1 11 .int := ⟨(RX1, TX1, 15), rfl, by decide, ztb_mem (List.mem_of_getElem? (i := 195) (by decide +kernel)) rfl, rfl, by decide +kernel⟩
theorem lf_RX8_269 : zLk RX8 269 1 9 := ⟨(RX1, TX1, 15), rfl, by decide, ztb_mem (List.mem_of_getElem? (i := 191) (by decide +kernel)) rfl⟩
theorem lf_RX8_275 : zLk RX8 275 5 2 := ⟨(RX5, TX5, 4), rfl, by decide, ztb_mem (List.mem_of_getElem? (i := 79) (by decide +kernel)) rfl⟩
theorem lf_RX8_289 : zLk RX8 289 4 6 := ⟨(RX4, TX4, 8), rfl, by decide, ztb_mem (List.mem_of_getElem? (i := 244) (by decide +kernel)) rfl⟩
theorem lp_RX8_289 : zLp RX8 289 4 6 .int := ⟨(RX4, TX4, 8), rfl, by decide, ztb_mem (List.mem_of_getElem? (i := 244) (by decide +kernel)) rfl, rfl, by decide +kernel⟩
theorem lf_RX8_292 : zLk RX8 292 4 5 := ⟨(RX4, TX4, 8), rfl, by decide, ztb_mem (List.mem_of_getElem? (i := 242) (by decide +kernel)) rfl⟩
theorem lf_RX8_295 : zLk RX8 295 4 7 := ⟨(RX4, TX4, 8), rfl, by decide, ztb_mem (List.mem_of_getElem? (i := 246) (by decide +kernel)) rfl⟩
theorem lp_RX8_295 : zLp RX8 295 4 7 .int := ⟨(RX4, TX4, 8), rfl, by decide, ztb_mem (List.mem_of_getElem? (i := 246) (by decide +kernel)) rfl, rfl, by decide +kernel⟩
theorem lf_RX0_12 : zLk RX0 12 0 3 := ⟨(RX0, TX0, 17), rfl, by decide, ztb_mem (List.mem_of_getElem? (i := 294) (by decide +kernel)) rfl⟩
theorem lf_RX0_20 : zLk RX0 20 0 4 := ⟨(RX0, TX0, 17), rfl, by decide, ztb_mem (List.mem_of_getElem? (i := 295) (by decide +kernel)) rfl⟩
theorem lf_RX0_24 : zLk RX0 24 0 6 := ⟨(RX0, TX0, 17), rfl, by decide, ztb_mem (List.mem_of_getElem? (i := 299) (by decide +kernel)) rfl⟩
theorem lf_RX0_28 : zLk RX0 28 0 9 := ⟨(RX0, TX0, 17), rfl, by decide, ztb_mem (List.mem_of_getElem? (i := 304) (by decide +kernel)) rfl⟩
theorem lf_RX0_31 : zLk RX0 31 0 10 := ⟨(RX0, TX0, 17), rfl, by decide, ztb_mem (List.mem_of_getElem? (i := 305) (by decide +kernel)) rfl⟩
theorem lf_RX0_34 : zLk RX0 34 0 15 := ⟨(RX0, TX0, 17), rfl, by decide, ztb_mem (List.mem_of_getElem? (i := 313) (by decide +kernel)) rfl⟩
theorem lp_RX0_34 : zLp RX0 34 0 15 .boolean := ⟨(RX0, TX0, 17), rfl, by decide, ztb_mem (List.mem_of_getElem? (i := 313) (by decide +kernel)) rfl, rfl, by decide +kernel⟩
theorem lf_RX0_38 : zLk RX0 38 0 0 := ⟨(RX0, TX0, 17), rfl, by decide, ztb_mem (List.mem_of_getElem? (i := 291) (by decide +kernel)) rfl⟩
theorem lf_RX0_42 : zLk RX0 42 0 1 := ⟨(RX0, TX0, 17), rfl, by decide, ztb_mem (List.mem_of_getElem? (i := 292) (by decide +kernel)) rfl⟩
theorem lf_RX0_45 : zLk RX0 45 0 2 := ⟨(RX0, TX0, 17), rfl, by decide, ztb_mem (List.mem_of_getElem? (i := 293) (by decide +kernel)) rfl⟩
theorem lf_RX0_50 : zLk RX0 50 0 16 := ⟨(RX0, TX0, 17), rfl, by decide, ztb_mem (List.mem_of_getElem? (i := 314) (by decide +kernel)) rfl⟩
theorem lp_RX0_50 : zLp RX0 50 0 16 .boolean := ⟨(RX0, TX0, 17), rfl, by decide, ztb_mem (List.mem_of_getElem? (i := 314) (by decide +kernel)) rfl, rfl, by decide +kernel⟩
theorem lf_RX0_53 : zLk RX0 53 0 5 := ⟨(RX0, TX0, 17), rfl, by decide, ztb_mem (List.mem_of_getElem? (i := 297) (by decide +kernel)) rfl⟩
theorem lp_RX0_53 : zLp RX0 53 0 5 .int := ⟨(RX0, TX0, 17), rfl, by decide, ztb_mem (List.mem_of_getElem? (i := 297) (by decide +kernel)) rfl, rfl, by decide +kernel⟩
theorem lf_RX0_57 : zLk RX0 57 6 0 := ⟨(RX6, TX6, 2), rfl, by decide, ztb_mem (List.mem_of_getElem? (i := 283) (by decide +kernel)) rfl⟩
theorem lf_RX0_70 : zLk RX0 70 0 7 := ⟨(RX0, TX0, 17), rfl, by decide, ztb_mem (List.mem_of_getElem? (i := 300) (by decide +kernel)) rfl⟩
theorem lp_RX0_70 : zLp RX0 70 0 7 .int := ⟨(RX0, TX0, 17), rfl, by decide, ztb_mem (List.mem_of_getElem? (i := 300) (by decide +kernel)) rfl, rfl, by decide +kernel⟩
theorem lf_RX0_73 : zLk RX0 73 0 8 := ⟨(RX0, TX0, 17), rfl, by decide, ztb_mem (List.mem_of_getElem? (i := 302) (by decide +kernel)) rfl⟩
theorem lp_RX0_73 : zLp RX0 73 0 8 .int := ⟨(RX0, TX0, 17), rfl, by decide, ztb_mem (List.mem_of_getElem? (i := 302) (by decide +kernel)) rfl, rfl, by decide +kernel⟩
theorem lf_RX0_97 : zLk RX0 97 3 0 := ⟨(RX3, TX3, 7), rfl, by decide, ztb_mem (List.mem_of_getElem? (i := 31) (by decide +kernel)) rfl⟩
theorem lp_RX0_97 : zLp RX0 97 3 0 .int := ⟨(RX3, TX3, 7), rfl, by decide, ztb_mem (List.mem_of_getElem? (i := 31) (by decide +kernel)) rfl, rfl, by decide +kernel⟩
theorem lf_RX0_100 : zLk RX0 100 3 3 := ⟨(RX3, TX3, 7), rfl, by decide, ztb_mem (List.mem_of_getElem? (i := 40) (by decide +kernel)) rfl⟩
theorem lf_RX0_103 : zLk RX0 103 2 2 := ⟨(RX2, TX2, 8), rfl, by decide, ztb_mem (List.mem_of_getElem? (i := 142) (by decide +kernel)) rfl⟩
theorem lf_RX0_133 : zLk RX0 133 0 14 := ⟨(RX0, TX0, 17), rfl, by decide, ztb_mem (List.mem_of_getElem? (i := 311) (by decide +kernel)) rfl⟩
theorem lp_RX0_133 : zLp RX0 133 0 14 .int := ⟨(RX0, TX0, 17), rfl, by decide, ztb_mem (List.mem_of_getElem? (i := 311) (by decide +kernel)) rfl, rfl, by decide +kernel⟩
theorem lf_RX0_136 : zLk RX0 136 7 0 := ⟨(RX7, TX7, 5), rfl, by decide, ztb_mem (List.mem_of_getElem? (i := 103) (by decide +kernel)) rfl⟩
theorem lp_RX0_136 : zLp RX0 136 7 0 .int := ⟨(RX7, TX7, 5), rfl, by decide, ztb_mem (List.mem_of_getElem? (i := 103) (by decide +kernel)) rfl, rfl, by decide +kernel⟩
theorem lf_RX0_137 : zLk RX0 137 7 4 := ⟨(RX7, TX7, 5), rfl, by decide, ztb_mem (List.mem_of_getElem? (i := 120) (by decide +kernel)) rfl⟩
theorem lf_RX0_141 : zLk RX0 141 7 1 := ⟨(RX7, TX7, 5), rfl, by decide, ztb_mem (List.mem_of_getElem? (i := 109) (by decide +kernel)) rfl⟩
theorem lf_RX0_147 : zLk RX0 147 0 12 := ⟨(RX0, TX0, 17), rfl, by decide, ztb_mem (List.mem_of_getElem? (i := 307) (by decide +kernel)) rfl⟩
theorem lp_RX0_147 : zLp RX0 147 0 12 .int := ⟨(RX0, TX0, 17), rfl, by decide, ztb_mem (List.mem_of_getElem? (i := 307) (by decide +kernel)) rfl, rfl, by decide +kernel⟩
theorem lf_RX0_150 : zLk RX0 150 0 13 := ⟨(RX0, TX0, 17), rfl, by decide, ztb_mem (List.mem_of_getElem? (i := 309) (by decide +kernel)) rfl⟩
theorem lp_RX0_150 : zLp RX0 150 0 13 .int := ⟨(RX0, TX0, 17), rfl, by decide, ztb_mem (List.mem_of_getElem? (i := 309) (by decide +kernel)) rfl, rfl, by decide +kernel⟩
theorem lf_RX0_153 : zLk RX0 153 0 11 := ⟨(RX0, TX0, 17), rfl, by decide, ztb_mem (List.mem_of_getElem? (i := 306) (by decide +kernel)) rfl⟩
theorem lp_RX0_153 : zLp RX0 153 0 11 .int := ⟨(RX0, TX0, 17), rfl, by decide, ztb_mem (List.mem_of_getElem? (i := 306) (by decide +kernel)) rfl, rfl, by decide +kernel⟩
theorem lf_RX1_12 : zLk RX1 12 1 4 := ⟨(RX1, TX1, 15), rfl, by decide, ztb_mem (List.mem_of_getElem? (i := 180) (by decide +kernel)) rfl⟩
theorem lf_RX1_18 : zLk RX1 18 1 5 := ⟨(RX1, TX1, 15), rfl, by decide, ztb_mem (List.mem_of_getElem? (i := 181) (by decide +kernel)) rfl⟩
theorem lf_RX1_22 : zLk RX1 22 1 6 := ⟨(RX1, TX1, 15), rfl, by decide, ztb_mem (List.mem_of_getElem? (i := 182) (by decide +kernel)) rfl⟩
theorem lf_RX1_25 : zLk RX1 25 1 7 := ⟨(RX1, TX1, 15), rfl, by decide, ztb_mem (List.mem_of_getElem? (i := 185) (by decide +kernel)) rfl⟩
theorem lf_RX1_28 : zLk RX1 28 1 8 := ⟨(RX1, TX1, 15), rfl, by decide, ztb_mem (List.mem_of_getElem? (i := 187) (by decide +kernel)) rfl⟩
theorem lf_RX1_31 : zLk RX1 31 1 9 := ⟨(RX1, TX1, 15), rfl, by decide, ztb_mem (List.mem_of_getElem? (i := 190) (by decide +kernel)) rfl⟩
theorem lf_RX1_34 : zLk RX1 34 1 14 := ⟨(RX1, TX1, 15), rfl, by decide, ztb_mem (List.mem_of_getElem? (i := 198) (by decide +kernel)) rfl⟩
theorem lp_RX1_34 : zLp RX1 34 1 14 .boolean := ⟨(RX1, TX1, 15), rfl, by decide, ztb_mem (List.mem_of_getElem? (i := 198) (by decide +kernel)) rfl, rfl, by decide +kernel⟩
theorem lf_RX1_38 : zLk RX1 38 1 0 := ⟨(RX1, TX1, 15), rfl, by decide, ztb_mem (List.mem_of_getElem? (i := 176) (by decide +kernel)) rfl⟩
theorem lf_RX1_42 : zLk RX1 42 1 1 := ⟨(RX1, TX1, 15), rfl, by decide, ztb_mem (List.mem_of_getElem? (i := 177) (by decide +kernel)) rfl⟩
theorem lf_RX1_46 : zLk RX1 46 1 2 := ⟨(RX1, TX1, 15), rfl, by decide, ztb_mem (List.mem_of_getElem? (i := 178) (by decide +kernel)) rfl⟩
theorem lf_RX1_49 : zLk RX1 49 1 3 := ⟨(RX1, TX1, 15), rfl, by decide, ztb_mem (List.mem_of_getElem? (i := 179) (by decide +kernel)) rfl⟩
theorem lf_RX1_57 : zLk RX1 57 7 1 := ⟨(RX7, TX7, 5), rfl, by decide, ztb_mem (List.mem_of_getElem? (i := 106) (by decide +kernel)) rfl⟩
theorem lf_RX1_63 : zLk RX1 63 7 4 := ⟨(RX7, TX7, 5), rfl, by decide, ztb_mem (List.mem_of_getElem? (i := 117) (by decide +kernel)) rfl⟩
theorem lf_RX1_67 : zLk RX1 67 7 0 := ⟨(RX7, TX7, 5), rfl, by decide, ztb_mem (List.mem_of_getElem? (i := 100) (by decide +kernel)) rfl⟩
theorem lp_RX1_67 : zLp RX1 67 7 0 .int := ⟨(RX7, TX7, 5), rfl, by decide, ztb_mem (List.mem_of_getElem? (i := 100) (by decide +kernel)) rfl, rfl, by decide +kernel⟩
theorem lf_RX1_104 : zLk RX1 104 3 0 := ⟨(RX3, TX3, 7), rfl, by decide, ztb_mem (List.mem_of_getElem? (i := 33) (by decide +kernel)) rfl⟩
theorem lp_RX1_104 : zLp RX1 104 3 0 .int := ⟨(RX3, TX3, 7), rfl, by decide, ztb_mem (List.mem_of_getElem? (i := 33) (by decide +kernel)) rfl, rfl, by decide +kernel⟩
theorem lf_RX1_111 : zLk RX1 111 3 2 := ⟨(RX3, TX3, 7), rfl, by decide, ztb_mem (List.mem_of_getElem? (i := 38) (by decide +kernel)) rfl⟩
theorem lf_RX1_114 : zLk RX1 114 5 3 := ⟨(RX5, TX5, 4), rfl, by decide, ztb_mem (List.mem_of_getElem? (i := 81) (by decide +kernel)) rfl⟩
theorem lf_RX1_119 : zLk RX1 119 5 1 := ⟨(RX5, TX5, 4), rfl, by decide, ztb_mem (List.mem_of_getElem? (i := 76) (by decide +kernel)) rfl⟩
theorem lf_RX1_138 : zLk RX1 138 1 10 := ⟨(RX1, TX1, 15), rfl, by decide, ztb_mem (List.mem_of_getElem? (i := 192) (by decide +kernel)) rfl⟩
theorem lp_RX1_138 : zLp RX1 138 1 10 .int := ⟨(RX1, TX1, 15), rfl, by decide, ztb_mem (List.mem_of_getElem? (i := 192) (by decide +kernel)) rfl, rfl, by decide +kernel⟩
theorem lf_RX1_141 : zLk RX1 141 1 11 := ⟨(RX1, TX1, 15), rfl, by decide, ztb_mem (List.mem_of_getElem? (i := 194) (by decide +kernel)) rfl⟩
theorem lp_RX1_141 : zLp RX1 141 1 11 .int := ⟨(RX1, TX1, 15), rfl, by decide, ztb_mem (List.mem_of_getElem? (i := 194) (by decide +kernel)) rfl, rfl, by decide +kernel⟩
theorem lf_RX1_151 : zLk RX1 151 1 12 := ⟨(RX1, TX1, 15), rfl, by decide, ztb_mem (List.mem_of_getElem? (i := 196) (by decide +kernel)) rfl⟩
theorem lp_RX1_151 : zLp RX1 151 1 12 .int := ⟨(RX1, TX1, 15), rfl, by decide, ztb_mem (List.mem_of_getElem? (i := 196) (by decide +kernel)) rfl, rfl, by decide +kernel⟩
theorem lf_RX1_154 : zLk RX1 154 1 13 := ⟨(RX1, TX1, 15), rfl, by decide, ztb_mem (List.mem_of_getElem? (i := 197) (by decide +kernel)) rfl⟩
theorem lp_RX1_154 : zLp RX1 154 1 13 .int := ⟨(RX1, TX1, 15), rfl, by decide, ztb_mem (List.mem_of_getElem? (i := 197) (by decide +kernel)) rfl, rfl, by decide +kernel⟩
theorem lf_RX2_9 : zLk RX2 9 2 2 := ⟨(RX2, TX2, 8), rfl, by decide, ztb_mem (List.mem_of_getElem? (i := 141) (by decide +kernel)) rfl⟩
theorem lf_RX2_15 : zLk RX2 15 2 3 := ⟨(RX2, TX2, 8), rfl, by decide, ztb_mem (List.mem_of_getElem? (i := 143) (by decide +kernel)) rfl⟩
theorem lf_RX2_19 : zLk RX2 19 2 4 := ⟨(RX2, TX2, 8), rfl, by decide, ztb_mem (List.mem_of_getElem? (i := 145) (by decide +kernel)) rfl⟩
theorem lf_RX2_22 : zLk RX2 22 2 6 := ⟨(RX2, TX2, 8), rfl, by decide, ztb_mem (List.mem_of_getElem? (i := 148) (by decide +kernel)) rfl⟩
theorem lf_RX2_25 : zLk RX2 25 2 7 := ⟨(RX2, TX2, 8), rfl, by decide, ztb_mem (List.mem_of_getElem? (i := 149) (by decide +kernel)) rfl⟩
theorem lf_RX2_28 : zLk RX2 28 2 0 := ⟨(RX2, TX2, 8), rfl, by decide, ztb_mem (List.mem_of_getElem? (i := 139) (by decide +kernel)) rfl⟩
theorem lf_RX2_32 : zLk RX2 32 2 1 := ⟨(RX2, TX2, 8), rfl, by decide, ztb_mem (List.mem_of_getElem? (i := 140) (by decide +kernel)) rfl⟩
theorem lf_RX2_44 : zLk RX2 44 3 0 := ⟨(RX3, TX3, 7), rfl, by decide, ztb_mem (List.mem_of_getElem? (i := 32) (by decide +kernel)) rfl⟩
theorem lp_RX2_44 : zLp RX2 44 3 0 .int := ⟨(RX3, TX3, 7), rfl, by decide, ztb_mem (List.mem_of_getElem? (i := 32) (by decide +kernel)) rfl, rfl, by decide +kernel⟩
theorem lf_RX2_75 : zLk RX2 75 3 5 := ⟨(RX3, TX3, 7), rfl, by decide, ztb_mem (List.mem_of_getElem? (i := 44) (by decide +kernel)) rfl⟩
theorem lf_RX2_82 : zLk RX2 82 2 5 := ⟨(RX2, TX2, 8), rfl, by decide, ztb_mem (List.mem_of_getElem? (i := 146) (by decide +kernel)) rfl⟩
theorem lp_RX2_82 : zLp RX2 82 2 5 .int := ⟨(RX2, TX2, 8), rfl, by decide, ztb_mem (List.mem_of_getElem? (i := 146) (by decide +kernel)) rfl, rfl, by decide +kernel⟩
theorem lf_RX2_85 : zLk RX2 85 7 0 := ⟨(RX7, TX7, 5), rfl, by decide, ztb_mem (List.mem_of_getElem? (i := 102) (by decide +kernel)) rfl⟩
theorem lp_RX2_85 : zLp RX2 85 7 0 .int := ⟨(RX7, TX7, 5), rfl, by decide, ztb_mem (List.mem_of_getElem? (i := 102) (by decide +kernel)) rfl, rfl, by decide +kernel⟩
theorem lf_RX2_88 : zLk RX2 88 5 0 := ⟨(RX5, TX5, 4), rfl, by decide, ztb_mem (List.mem_of_getElem? (i := 73) (by decide +kernel)) rfl⟩
theorem lf_RX2_97 : zLk RX2 97 7 1 := ⟨(RX7, TX7, 5), rfl, by decide, ztb_mem (List.mem_of_getElem? (i := 108) (by decide +kernel)) rfl⟩
theorem lf_RX2_116 : zLk RX2 116 7 2 := ⟨(RX7, TX7, 5), rfl, by decide, ztb_mem (List.mem_of_getElem? (i := 112) (by decide +kernel)) rfl⟩
theorem lf_RX2_127 : zLk RX2 127 7 3 := ⟨(RX7, TX7, 5), rfl, by decide, ztb_mem (List.mem_of_getElem? (i := 114) (by decide +kernel)) rfl⟩
theorem lf_RX3_9 : zLk RX3 9 3 2 := ⟨(RX3, TX3, 7), rfl, by decide, ztb_mem (List.mem_of_getElem? (i := 36) (by decide +kernel)) rfl⟩
theorem lf_RX3_15 : zLk RX3 15 3 3 := ⟨(RX3, TX3, 7), rfl, by decide, ztb_mem (List.mem_of_getElem? (i := 39) (by decide +kernel)) rfl⟩
theorem lf_RX3_18 : zLk RX3 18 3 4 := ⟨(RX3, TX3, 7), rfl, by decide, ztb_mem (List.mem_of_getElem? (i := 42) (by decide +kernel)) rfl⟩
theorem lf_RX3_21 : zLk RX3 21 3 5 := ⟨(RX3, TX3, 7), rfl, by decide, ztb_mem (List.mem_of_getElem? (i := 43) (by decide +kernel)) rfl⟩
theorem lf_RX3_24 : zLk RX3 24 3 6 := ⟨(RX3, TX3, 7), rfl, by decide, ztb_mem (List.mem_of_getElem? (i := 45) (by decide +kernel)) rfl⟩
theorem lf_RX3_27 : zLk RX3 27 3 0 := ⟨(RX3, TX3, 7), rfl, by decide, ztb_mem (List.mem_of_getElem? (i := 29) (by decide +kernel)) rfl⟩
theorem lp_RX3_27 : zLp RX3 27 3 0 .int := ⟨(RX3, TX3, 7), rfl, by decide, ztb_mem (List.mem_of_getElem? (i := 29) (by decide +kernel)) rfl, rfl, by decide +kernel⟩
theorem lf_RX3_31 : zLk RX3 31 3 1 := ⟨(RX3, TX3, 7), rfl, by decide, ztb_mem (List.mem_of_getElem? (i := 35) (by decide +kernel)) rfl⟩
theorem lp_RX3_31 : zLp RX3 31 3 1 .int := ⟨(RX3, TX3, 7), rfl, by decide, ztb_mem (List.mem_of_getElem? (i := 35) (by decide +kernel)) rfl, rfl, by decide +kernel⟩
theorem lf_RX4_11 : zLk RX4 11 4 3 := ⟨(RX4, TX4, 8), rfl, by decide, ztb_mem (List.mem_of_getElem? (i := 239) (by decide +kernel)) rfl⟩
theorem lf_RX4_15 : zLk RX4 15 4 4 := ⟨(RX4, TX4, 8), rfl, by decide, ztb_mem (List.mem_of_getElem? (i := 240) (by decide +kernel)) rfl⟩
theorem lf_RX4_18 : zLk RX4 18 4 5 := ⟨(RX4, TX4, 8), rfl, by decide, ztb_mem (List.mem_of_getElem? (i := 241) (by decide +kernel)) rfl⟩
theorem lf_RX4_21 : zLk RX4 21 4 0 := ⟨(RX4, TX4, 8), rfl, by decide, ztb_mem (List.mem_of_getElem? (i := 236) (by decide +kernel)) rfl⟩
theorem lf_RX4_25 : zLk RX4 25 4 1 := ⟨(RX4, TX4, 8), rfl, by decide, ztb_mem (List.mem_of_getElem? (i := 237) (by decide +kernel)) rfl⟩
theorem lf_RX4_29 : zLk RX4 29 4 2 := ⟨(RX4, TX4, 8), rfl, by decide, ztb_mem (List.mem_of_getElem? (i := 238) (by decide +kernel)) rfl⟩
theorem lf_RX4_33 : zLk RX4 33 5 2 := ⟨(RX5, TX5, 4), rfl, by decide, ztb_mem (List.mem_of_getElem? (i := 78) (by decide +kernel)) rfl⟩
theorem lf_RX4_38 : zLk RX4 38 7 1 := ⟨(RX7, TX7, 5), rfl, by decide, ztb_mem (List.mem_of_getElem? (i := 105) (by decide +kernel)) rfl⟩
theorem lf_RX4_43 : zLk RX4 43 7 0 := ⟨(RX7, TX7, 5), rfl, by decide, ztb_mem (List.mem_of_getElem? (i := 99) (by decide +kernel)) rfl⟩
theorem lp_RX4_43 : zLp RX4 43 7 0 .int := ⟨(RX7, TX7, 5), rfl, by decide, ztb_mem (List.mem_of_getElem? (i := 99) (by decide +kernel)) rfl, rfl, by decide +kernel⟩
theorem lf_RX4_59 : zLk RX4 59 1 6 := ⟨(RX1, TX1, 15), rfl, by decide, ztb_mem (List.mem_of_getElem? (i := 183) (by decide +kernel)) rfl⟩
theorem lf_RX4_72 : zLk RX4 72 4 7 := ⟨(RX4, TX4, 8), rfl, by decide, ztb_mem (List.mem_of_getElem? (i := 245) (by decide +kernel)) rfl⟩
theorem lp_RX4_72 : zLp RX4 72 4 7 .int := ⟨(RX4, TX4, 8), rfl, by decide, ztb_mem (List.mem_of_getElem? (i := 245) (by decide +kernel)) rfl, rfl, by decide +kernel⟩
theorem lf_RX4_75 : zLk RX4 75 4 6 := ⟨(RX4, TX4, 8), rfl, by decide, ztb_mem (List.mem_of_getElem? (i := 243) (by decide +kernel)) rfl⟩
theorem lp_RX4_75 : zLp RX4 75 4 6 .int := ⟨(RX4, TX4, 8), rfl, by decide, ztb_mem (List.mem_of_getElem? (i := 243) (by decide +kernel)) rfl, rfl, by decide +kernel⟩
theorem lf_RX4_84 : zLk RX4 84 7 4 := ⟨(RX7, TX7, 5), rfl, by decide, ztb_mem (List.mem_of_getElem? (i := 118) (by decide +kernel)) rfl⟩
theorem lf_RX4_88 : zLk RX4 88 1 8 := ⟨(RX1, TX1, 15), rfl, by decide, ztb_mem (List.mem_of_getElem? (i := 188) (by decide +kernel)) rfl⟩
theorem lf_RX5_9 : zLk RX5 9 5 0 := ⟨(RX5, TX5, 4), rfl, by decide, ztb_mem (List.mem_of_getElem? (i := 71) (by decide +kernel)) rfl⟩
theorem lf_RX5_15 : zLk RX5 15 5 1 := ⟨(RX5, TX5, 4), rfl, by decide, ztb_mem (List.mem_of_getElem? (i := 74) (by decide +kernel)) rfl⟩
theorem lf_RX5_18 : zLk RX5 18 5 2 := ⟨(RX5, TX5, 4), rfl, by decide, ztb_mem (List.mem_of_getElem? (i := 77) (by decide +kernel)) rfl⟩
theorem lf_RX5_21 : zLk RX5 21 5 3 := ⟨(RX5, TX5, 4), rfl, by decide, ztb_mem (List.mem_of_getElem? (i := 80) (by decide +kernel)) rfl⟩
theorem lf_RX6_12 : zLk RX6 12 6 0 := ⟨(RX6, TX6, 2), rfl, by decide, ztb_mem (List.mem_of_getElem? (i := 282) (by decide +kernel)) rfl⟩
theorem lf_RX6_18 : zLk RX6 18 6 1 := ⟨(RX6, TX6, 2), rfl, by decide, ztb_mem (List.mem_of_getElem? (i := 284) (by decide +kernel)) rfl⟩
theorem lf_RX7_9 : zLk RX7 9 7 1 := ⟨(RX7, TX7, 5), rfl, by decide, ztb_mem (List.mem_of_getElem? (i := 104) (by decide +kernel)) rfl⟩
theorem lf_RX7_15 : zLk RX7 15 7 2 := ⟨(RX7, TX7, 5), rfl, by decide, ztb_mem (List.mem_of_getElem? (i := 110) (by decide +kernel)) rfl⟩
theorem lf_RX7_18 : zLk RX7 18 7 3 := ⟨(RX7, TX7, 5), rfl, by decide, ztb_mem (List.mem_of_getElem? (i := 113) (by decide +kernel)) rfl⟩
theorem lf_RX7_22 : zLk RX7 22 7 4 := ⟨(RX7, TX7, 5), rfl, by decide, ztb_mem (List.mem_of_getElem? (i := 116) (by decide +kernel)) rfl⟩
theorem lf_RX7_25 : zLk RX7 25 7 0 := ⟨(RX7, TX7, 5), rfl, by decide, ztb_mem (List.mem_of_getElem? (i := 98) (by decide +kernel)) rfl⟩
theorem lp_RX7_25 : zLp RX7 25 7 0 .int := ⟨(RX7, TX7, 5), rfl, by decide, ztb_mem (List.mem_of_getElem? (i := 98) (by decide +kernel)) rfl, rfl, by decide +kernel⟩
theorem lf_RX9_7 : zLk RX9 7 9 2 := ⟨(RX9, TX9, 57), rfl, by decide, ztb_mem (List.mem_of_getElem? (i := 888) (by decide +kernel)) rfl⟩
theorem lf_RX9_13 : zLk RX9 13 9 3 := ⟨(RX9, TX9, 57), rfl, by decide, ztb_mem (List.mem_of_getElem? (i := 889) (by decide +kernel)) rfl⟩
theorem lf_RX9_16 : zLk RX9 16 9 4 := ⟨(RX9, TX9, 57), rfl, by decide, ztb_mem (List.mem_of_getElem? (i := 890) (by decide +kernel)) rfl⟩
theorem lf_RX9_19 : zLk RX9 19 9 6 := ⟨(RX9, TX9, 57), rfl, by decide, ztb_mem (List.mem_of_getElem? (i := 892) (by decide +kernel)) rfl⟩
theorem lf_RX9_22 : zLk RX9 22 9 7 := ⟨(RX9, TX9, 57), rfl, by decide, ztb_mem (List.mem_of_getElem? (i := 893) (by decide +kernel)) rfl⟩
theorem lf_RX9_25 : zLk RX9 25 9 8 := ⟨(RX9, TX9, 57), rfl, by decide, ztb_mem (List.mem_of_getElem? (i := 894) (by decide +kernel)) rfl⟩
theorem lf_RX9_29 : zLk RX9 29 9 9 := ⟨(RX9, TX9, 57), rfl, by decide, ztb_mem (List.mem_of_getElem? (i := 895) (by decide +kernel)) rfl⟩
theorem lf_RX9_32 : zLk RX9 32 9 10 := ⟨(RX9, TX9, 57), rfl, by decide, ztb_mem (List.mem_of_getElem? (i := 896) (by decide +kernel)) rfl⟩
theorem lf_RX9_35 : zLk RX9 35 9 11 := ⟨(RX9, TX9, 57), rfl, by decide, ztb_mem (List.mem_of_getElem? (i := 897) (by decide +kernel)) rfl⟩
theorem lf_RX9_38 : zLk RX9 38 9 12 := ⟨(RX9, TX9, 57), rfl, by decide, ztb_mem (List.mem_of_getElem? (i := 898) (by decide +kernel)) rfl⟩
theorem lf_RX9_41 : zLk RX9 41 9 13 := ⟨(RX9, TX9, 57), rfl, by decide, ztb_mem (List.mem_of_getElem? (i := 899) (by decide +kernel)) rfl⟩
theorem lf_RX9_44 : zLk RX9 44 9 15 := ⟨(RX9, TX9, 57), rfl, by decide, ztb_mem (List.mem_of_getElem? (i := 901) (by decide +kernel)) rfl⟩
theorem lf_RX9_47 : zLk RX9 47 9 16 := ⟨(RX9, TX9, 57), rfl, by decide, ztb_mem (List.mem_of_getElem? (i := 902) (by decide +kernel)) rfl⟩
theorem lf_RX9_50 : zLk RX9 50 9 17 := ⟨(RX9, TX9, 57), rfl, by decide, ztb_mem (List.mem_of_getElem? (i := 903) (by decide +kernel)) rfl⟩
theorem lf_RX9_53 : zLk RX9 53 9 18 := ⟨(RX9, TX9, 57), rfl, by decide, ztb_mem (List.mem_of_getElem? (i := 904) (by decide +kernel)) rfl⟩
theorem lf_RX9_56 : zLk RX9 56 9 19 := ⟨(RX9, TX9, 57), rfl, by decide, ztb_mem (List.mem_of_getElem? (i := 905) (by decide +kernel)) rfl⟩
theorem lf_RX9_59 : zLk RX9 59 9 20 := ⟨(RX9, TX9, 57), rfl, by decide, ztb_mem (List.mem_of_getElem? (i := 906) (by decide +kernel)) rfl⟩
theorem lf_RX9_62 : zLk RX9 62 9 21 := ⟨(RX9, TX9, 57), rfl, by decide, ztb_mem (List.mem_of_getElem? (i := 907) (by decide +kernel)) rfl⟩
theorem lf_RX9_65 : zLk RX9 65 9 22 := ⟨(RX9, TX9, 57), rfl, by decide, ztb_mem (List.mem_of_getElem? (i := 908) (by decide +kernel)) rfl⟩
theorem lf_RX9_68 : zLk RX9 68 9 23 := ⟨(RX9, TX9, 57), rfl, by decide, ztb_mem (List.mem_of_getElem? (i := 909) (by decide +kernel)) rfl⟩
theorem lf_RX9_71 : zLk RX9 71 9 24 := ⟨(RX9, TX9, 57), rfl, by decide, ztb_mem (List.mem_of_getElem? (i := 910) (by decide +kernel)) rfl⟩
theorem lf_RX9_74 : zLk RX9 74 9 25 := ⟨(RX9, TX9, 57), rfl, by decide, ztb_mem (List.mem_of_getElem? (i := 911) (by decide +kernel)) rfl⟩
theorem lf_RX9_77 : zLk RX9 77 9 26 := ⟨(RX9, TX9, 57), rfl, by decide, ztb_mem (List.mem_of_getElem? (i := 912) (by decide +kernel)) rfl⟩
theorem lf_RX9_80 : zLk RX9 80 9 27 := ⟨(RX9, TX9, 57), rfl, by decide, ztb_mem (List.mem_of_getElem? (i := 913) (by decide +kernel)) rfl⟩
theorem lf_RX9_83 : zLk RX9 83 9 28 := ⟨(RX9, TX9, 57), rfl, by decide, ztb_mem (List.mem_of_getElem? (i := 914) (by decide +kernel)) rfl⟩
theorem lf_RX9_86 : zLk RX9 86 9 29 := ⟨(RX9, TX9, 57), rfl, by decide, ztb_mem (List.mem_of_getElem? (i := 915) (by decide +kernel)) rfl⟩
theorem lf_RX9_89 : zLk RX9 89 9 32 := ⟨(RX9, TX9, 57), rfl, by decide, ztb_mem (List.mem_of_getElem? (i := 918) (by decide +kernel)) rfl⟩
theorem lf_RX9_92 : zLk RX9 92 9 34 := ⟨(RX9, TX9, 57), rfl, by decide, ztb_mem (List.mem_of_getElem? (i := 920) (by decide +kernel)) rfl⟩
theorem lf_RX9_95 : zLk RX9 95 9 35 := ⟨(RX9, TX9, 57), rfl, by decide, ztb_mem (List.mem_of_getElem? (i := 921) (by decide +kernel)) rfl⟩
theorem lf_RX9_98 : zLk RX9 98 9 36 := ⟨(RX9, TX9, 57), rfl, by decide, ztb_mem (List.mem_of_getElem? (i := 922) (by decide +kernel)) rfl⟩
theorem lf_RX9_101 : zLk RX9 101 9 37 := ⟨(RX9, TX9, 57), rfl, by decide, ztb_mem (List.mem_of_getElem? (i := 923) (by decide +kernel)) rfl⟩
theorem lf_RX9_104 : zLk RX9 104 9 38 := ⟨(RX9, TX9, 57), rfl, by decide, ztb_mem (List.mem_of_getElem? (i := 924) (by decide +kernel)) rfl⟩
theorem lf_RX9_107 : zLk RX9 107 9 39 := ⟨(RX9, TX9, 57), rfl, by decide, ztb_mem (List.mem_of_getElem? (i := 925) (by decide +kernel)) rfl⟩
theorem lf_RX9_110 : zLk RX9 110 9 41 := ⟨(RX9, TX9, 57), rfl, by decide, ztb_mem (List.mem_of_getElem? (i := 927) (by decide +kernel)) rfl⟩
theorem lf_RX9_113 : zLk RX9 113 9 42 := ⟨(RX9, TX9, 57), rfl, by decide, ztb_mem (List.mem_of_getElem? (i := 928) (by decide +kernel)) rfl⟩
theorem lf_RX9_116 : zLk RX9 116 9 43 := ⟨(RX9, TX9, 57), rfl, by decide, ztb_mem (List.mem_of_getElem? (i := 929) (by decide +kernel)) rfl⟩
theorem lf_RX9_120 : zLk RX9 120 9 46 := ⟨(RX9, TX9, 57), rfl, by decide, ztb_mem (List.mem_of_getElem? (i := 932) (by decide +kernel)) rfl⟩
theorem lf_RX9_123 : zLk RX9 123 9 50 := ⟨(RX9, TX9, 57), rfl, by decide, ztb_mem (List.mem_of_getElem? (i := 936) (by decide +kernel)) rfl⟩
theorem lf_RX9_126 : zLk RX9 126 9 54 := ⟨(RX9, TX9, 57), rfl, by decide, ztb_mem (List.mem_of_getElem? (i := 940) (by decide +kernel)) rfl⟩
theorem lf_RX9_129 : zLk RX9 129 9 55 := ⟨(RX9, TX9, 57), rfl, by decide, ztb_mem (List.mem_of_getElem? (i := 941) (by decide +kernel)) rfl⟩
theorem lf_RX9_132 : zLk RX9 132 9 0 := ⟨(RX9, TX9, 57), rfl, by decide, ztb_mem (List.mem_of_getElem? (i := 886) (by decide +kernel)) rfl⟩
theorem lp_RX9_132 : zLp RX9 132 9 0 .int := ⟨(RX9, TX9, 57), rfl, by decide, ztb_mem (List.mem_of_getElem? (i := 886) (by decide +kernel)) rfl, rfl, by decide +kernel⟩
theorem lf_RX9_140 : zLk RX9 140 9 5 := ⟨(RX9, TX9, 57), rfl, by decide, ztb_mem (List.mem_of_getElem? (i := 891) (by decide +kernel)) rfl⟩
theorem lp_RX9_140 : zLp RX9 140 9 5 .int := ⟨(RX9, TX9, 57), rfl, by decide, ztb_mem (List.mem_of_getElem? (i := 891) (by decide +kernel)) rfl, rfl, by decide +kernel⟩
theorem lf_RX9_153 : zLk RX9 153 9 1 := ⟨(RX9, TX9, 57), rfl, by decide, ztb_mem (List.mem_of_getElem? (i := 887) (by decide +kernel)) rfl⟩
theorem lp_RX9_153 : zLp RX9 153 9 1 .int := ⟨(RX9, TX9, 57), rfl, by decide, ztb_mem (List.mem_of_getElem? (i := 887) (by decide +kernel)) rfl, rfl, by decide +kernel⟩
theorem lf_RX9_167 : zLk RX9 167 9 14 := ⟨(RX9, TX9, 57), rfl, by decide, ztb_mem (List.mem_of_getElem? (i := 900) (by decide +kernel)) rfl⟩
theorem lp_RX9_167 : zLp RX9 167 9 14 .int := ⟨(RX9, TX9, 57), rfl, by decide, ztb_mem (List.mem_of_getElem? (i := 900) (by decide +kernel)) rfl, rfl, by decide +kernel⟩
theorem lf_RX9_195 : zLk RX9 195 9 30 := ⟨(RX9, TX9, 57), rfl, by decide, ztb_mem (List.mem_of_getElem? (i := 916) (by decide +kernel)) rfl⟩
theorem lp_RX9_195 : zLp RX9 195 9 30 .int := ⟨(RX9, TX9, 57), rfl, by decide, ztb_mem (List.mem_of_getElem? (i := 916) (by decide +kernel)) rfl, rfl, by decide +kernel⟩
theorem lf_RX9_205 : zLk RX9 205 9 31 := ⟨(RX9, TX9, 57), rfl, by decide, ztb_mem (List.mem_of_getElem? (i := 917) (by decide +kernel)) rfl⟩
theorem lp_RX9_205 : zLp RX9 205 9 31 .boolean := ⟨(RX9, TX9, 57), rfl, by decide, ztb_mem (List.mem_of_getElem? (i := 917) (by decide +kernel)) rfl, rfl, by decide +kernel⟩
theorem lf_RX9_238 : zLk RX9 238 9 33 := ⟨(RX9, TX9, 57), rfl, by decide, ztb_mem (List.mem_of_getElem? (i := 919) (by decide +kernel)) rfl⟩
theorem lp_RX9_238 : zLp RX9 238 9 33 .int := ⟨(RX9, TX9, 57), rfl, by decide, ztb_mem (List.mem_of_getElem? (i := 919) (by decide +kernel)) rfl, rfl, by decide +kernel⟩
theorem lf_RX9_253 : zLk RX9 253 9 40 := ⟨(RX9, TX9, 57), rfl, by decide, ztb_mem (List.mem_of_getElem? (i := 926) (by decide +kernel)) rfl⟩
theorem lp_RX9_253 : zLp RX9 253 9 40 .int := ⟨(RX9, TX9, 57), rfl, by decide, ztb_mem (List.mem_of_getElem? (i := 926) (by decide +kernel)) rfl, rfl, by decide +kernel⟩
theorem lf_RX9_269 : zLk RX9 269 9 44 := ⟨(RX9, TX9, 57), rfl, by decide, ztb_mem (List.mem_of_getElem? (i := 930) (by decide +kernel)) rfl⟩
theorem lp_RX9_269 : zLp RX9 269 9 44 .int := ⟨(RX9, TX9, 57), rfl, by decide, ztb_mem (List.mem_of_getElem? (i := 930) (by decide +kernel)) rfl, rfl, by decide +kernel⟩
theorem lf_RX9_272 : zLk RX9 272 9 45 := ⟨(RX9, TX9, 57), rfl, by decide, ztb_mem (List.mem_of_getElem? (i := 931) (by decide +kernel)) rfl⟩
theorem lp_RX9_272 : zLp RX9 272 9 45 .int := ⟨(RX9, TX9, 57), rfl, by decide, ztb_mem (List.mem_of_getElem? (i := 931) (by decide +kernel)) rfl, rfl, by decide +kernel⟩
theorem lf_RX9_278 : zLk RX9 278 9 51 := ⟨(RX9, TX9, 57), rfl, by decide, ztb_mem (List.mem_of_getElem? (i := 937) (by decide +kernel)) rfl⟩
theorem lp_RX9_278 : zLp RX9 278 9 51 .int := ⟨(RX9, TX9, 57), rfl, by decide, ztb_mem (List.mem_of_getElem? (i := 937) (by decide +kernel)) rfl, rfl, by decide +kernel⟩
theorem lf_RX9_281 : zLk RX9 281 9 52 := ⟨(RX9, TX9, 57), rfl, by decide, ztb_mem (List.mem_of_getElem? (i := 938) (by decide +kernel)) rfl⟩
theorem lp_RX9_281 : zLp RX9 281 9 52 .long := ⟨(RX9, TX9, 57), rfl, by decide, ztb_mem (List.mem_of_getElem? (i := 938) (by decide +kernel)) rfl, rfl, by decide +kernel⟩
theorem lf_RX9_288 : zLk RX9 288 9 49 := ⟨(RX9, TX9, 57), rfl, by decide, ztb_mem (List.mem_of_getElem? (i := 935) (by decide +kernel)) rfl⟩
theorem lp_RX9_288 : zLp RX9 288 9 49 .boolean := ⟨(RX9, TX9, 57), rfl, by decide, ztb_mem (List.mem_of_getElem? (i := 935) (by decide +kernel)) rfl, rfl, by decide +kernel⟩
theorem lf_RX9_298 : zLk RX9 298 9 47 := ⟨(RX9, TX9, 57), rfl, by decide, ztb_mem (List.mem_of_getElem? (i := 933) (by decide +kernel)) rfl⟩
theorem lp_RX9_298 : zLp RX9 298 9 47 .int := ⟨(RX9, TX9, 57), rfl, by decide, ztb_mem (List.mem_of_getElem? (i := 933) (by decide +kernel)) rfl, rfl, by decide +kernel⟩
theorem lf_RX9_301 : zLk RX9 301 9 48 := ⟨(RX9, TX9, 57), rfl, by decide, ztb_mem (List.mem_of_getElem? (i := 934) (by decide +kernel)) rfl⟩
theorem lp_RX9_301 : zLp RX9 301 9 48 .long := ⟨(RX9, TX9, 57), rfl, by decide, ztb_mem (List.mem_of_getElem? (i := 934) (by decide +kernel)) rfl, rfl, by decide +kernel⟩
theorem lf_RX9_313 : zLk RX9 313 9 53 := ⟨(RX9, TX9, 57), rfl, by decide, ztb_mem (List.mem_of_getElem? (i := 939) (by decide +kernel)) rfl⟩
theorem lp_RX9_313 : zLp RX9 313 9 53 .int := ⟨(RX9, TX9, 57), rfl, by decide, ztb_mem (List.mem_of_getElem? (i := 939) (by decide +kernel)) rfl, rfl, by decide +kernel⟩
theorem lf_RX9_320 : zLk RX9 320 9 56 := ⟨(RX9, TX9, 57), rfl, by decide, ztb_mem (List.mem_of_getElem? (i := 942) (by decide +kernel)) rfl⟩
theorem lp_RX9_320 : zLp RX9 320 9 56 .int := ⟨(RX9, TX9, 57), rfl, by decide, ztb_mem (List.mem_of_getElem? (i := 942) (by decide +kernel)) rfl, rfl, by decide +kernel⟩
theorem co_RX8_110 : Jvm.Cond.constant RX8 110 100000 ∈ ztb := ztb_mem (List.mem_of_getElem? (i := 438) (by decide +kernel)) rfl
theorem co_RX4_67 : Jvm.Cond.constant RX4 67 1000000 ∈ ztb := ztb_mem (List.mem_of_getElem? (i := 843) (by decide +kernel)) rfl
theorem co_RX9_316 : Jvm.Cond.constant RX9 316 1000000 ∈ ztb := ztb_mem (List.mem_of_getElem? (i := 1367) (by decide +kernel)) rfl
theorem co_RJ6_264 : Jvm.Cond.constant RJ6 264 65536 ∈ ztb := ztb_mem (List.mem_of_getElem? (i := 497) (by decide +kernel)) rfl
theorem co_RJ6_265 : Jvm.Cond.constant RJ6 265 1431655765 ∈ ztb := ztb_mem (List.mem_of_getElem? (i := 679) (by decide +kernel)) rfl
theorem co_RJ6_266 : Jvm.Cond.constant RJ6 266 858993459 ∈ ztb := ztb_mem (List.mem_of_getElem? (i := 680) (by decide +kernel)) rfl
theorem co_RJ6_267 : Jvm.Cond.constant RJ6 267 252645135 ∈ ztb := ztb_mem (List.mem_of_getElem? (i := 681) (by decide +kernel)) rfl
theorem cl_RX8_188 : Jvm.Cond.constantLong RX8 188 (-3) ∈ ztb := ztb_mem (List.mem_of_getElem? (i := 638) (by decide +kernel)) rfl
theorem cl_RX8_264 : Jvm.Cond.constantLong RX8 264 (-9) ∈ ztb := ztb_mem (List.mem_of_getElem? (i := 805) (by decide +kernel)) rfl
theorem cl_RX2_36 : Jvm.Cond.constantLong RX2 36 (17592186044416) ∈ ztb := ztb_mem (List.mem_of_getElem? (i := 532) (by decide +kernel)) rfl
theorem cl_RX2_38 : Jvm.Cond.constantLong RX2 38 (-1099511627776) ∈ ztb := ztb_mem (List.mem_of_getElem? (i := 533) (by decide +kernel)) rfl
theorem cl_RX2_40 : Jvm.Cond.constantLong RX2 40 (1099511627775) ∈ ztb := ztb_mem (List.mem_of_getElem? (i := 534) (by decide +kernel)) rfl
theorem cl_RX2_42 : Jvm.Cond.constantLong RX2 42 (15) ∈ ztb := ztb_mem (List.mem_of_getElem? (i := 524) (by decide +kernel)) rfl
theorem cl_RX9_143 : Jvm.Cond.constantLong RX9 143 (10000) ∈ ztb := ztb_mem (List.mem_of_getElem? (i := 1062) (by decide +kernel)) rfl
theorem cl_RX9_156 : Jvm.Cond.constantLong RX9 156 (15) ∈ ztb := ztb_mem (List.mem_of_getElem? (i := 1090) (by decide +kernel)) rfl
theorem cl_RX9_158 : Jvm.Cond.constantLong RX9 158 (100000) ∈ ztb := ztb_mem (List.mem_of_getElem? (i := 1095) (by decide +kernel)) rfl
theorem cl_RX9_163 : Jvm.Cond.constantLong RX9 163 (4) ∈ ztb := ztb_mem (List.mem_of_getElem? (i := 1112) (by decide +kernel)) rfl
theorem cl_RX9_165 : Jvm.Cond.constantLong RX9 165 (999) ∈ ztb := ztb_mem (List.mem_of_getElem? (i := 1125) (by decide +kernel)) rfl
theorem cl_RX9_236 : Jvm.Cond.constantLong RX9 236 (-3) ∈ ztb := ztb_mem (List.mem_of_getElem? (i := 1228) (by decide +kernel)) rfl
theorem cl_RX9_265 : Jvm.Cond.constantLong RX9 265 (-1) ∈ ztb := ztb_mem (List.mem_of_getElem? (i := 1304) (by decide +kernel)) rfl
theorem cl_RX9_267 : Jvm.Cond.constantLong RX9 267 (6) ∈ ztb := ztb_mem (List.mem_of_getElem? (i := 1305) (by decide +kernel)) rfl
theorem cl_RX9_308 : Jvm.Cond.constantLong RX9 308 (-9) ∈ ztb := ztb_mem (List.mem_of_getElem? (i := 1330) (by decide +kernel)) rfl
abbrev MX0_init : ZY := (yX0_init, cX0_init, 5, none)
theorem cd_X0_init : Cond.code MX0_init.1 MX0_init.2.1 MX0_init.2.2.1 MX0_init.2.2.2 ∈ ztb := ztb_mem (List.mem_of_getElem? (i := 268) (by decide +kernel)) rfl
abbrev MX0_forget : ZY := (yX0_forget, cX0_forget, 1, none)
theorem cd_X0_forget : Cond.code MX0_forget.1 MX0_forget.2.1 MX0_forget.2.2.1 MX0_forget.2.2.2 ∈ ztb := ztb_mem (List.mem_of_getElem? (i := 390) (by decide +kernel)) rfl
theorem si_X0_forget : Cond.instanceMethod MX0_forget.1 ∈ ztb := ztb_mem (List.mem_of_getElem? (i := 388) (by decide +kernel)) rfl
theorem se_X0_forget : Cond.selects MX0_forget.1.cls MX0_forget.1 MX0_forget.1 ∈ ztb := ztb_mem (List.mem_of_getElem? (i := 389) (by decide +kernel)) rfl
abbrev MX0_keepTrial : ZY := (yX0_keepTrial, cX0_keepTrial, 1, (some .int))
theorem cd_X0_keepTrial : Cond.code MX0_keepTrial.1 MX0_keepTrial.2.1 MX0_keepTrial.2.2.1 MX0_keepTrial.2.2.2 ∈ ztb := ztb_mem (List.mem_of_getElem? (i := 662) (by decide +kernel)) rfl
theorem si_X0_keepTrial : Cond.instanceMethod MX0_keepTrial.1 ∈ ztb := ztb_mem (List.mem_of_getElem? (i := 660) (by decide +kernel)) rfl
theorem se_X0_keepTrial : Cond.selects MX0_keepTrial.1.cls MX0_keepTrial.1 MX0_keepTrial.1 ∈ ztb := ztb_mem (List.mem_of_getElem? (i := 661) (by decide +kernel)) rfl
abbrev MX0_sift : ZY := (yX0_sift, cX0_sift, 4, (some .boolean))
theorem cd_X0_sift : Cond.code MX0_sift.1 MX0_sift.2.1 MX0_sift.2.2.1 MX0_sift.2.2.2 ∈ ztb := ztb_mem (List.mem_of_getElem? (i := 689) (by decide +kernel)) rfl
theorem si_X0_sift : Cond.instanceMethod MX0_sift.1 ∈ ztb := ztb_mem (List.mem_of_getElem? (i := 687) (by decide +kernel)) rfl
theorem se_X0_sift : Cond.selects MX0_sift.1.cls MX0_sift.1 MX0_sift.1 ∈ ztb := ztb_mem (List.mem_of_getElem? (i := 688) (by decide +kernel)) rfl
abbrev MX0_takeNextRules : ZY := (yX0_takeNextRules, cX0_takeNextRules, 3, (some .boolean))
theorem cd_X0_takeNextRules : Cond.code MX0_takeNextRules.1 MX0_takeNextRules.2.1 MX0_takeNextRules.2.2.1 MX0_takeNextRules.2.2.2 ∈ ztb := ztb_mem (List.mem_of_getElem? (i := 714) (by decide +kernel)) rfl
theorem si_X0_takeNextRules : Cond.instanceMethod MX0_takeNextRules.1 ∈ ztb := ztb_mem (List.mem_of_getElem? (i := 713) (by decide +kernel)) rfl
theorem se_X0_takeNextRules : Cond.selects MX0_takeNextRules.1.cls MX0_takeNextRules.1 MX0_takeNextRules.1 ∈ ztb := ztb_sel (List.mem_of_getElem? (i := 12) (by decide +kernel)) rfl
abbrev MX0_firstQuarrel : ZY := (yX0_firstQuarrel, cX0_firstQuarrel, 3, (some .int))
theorem cd_X0_firstQuarrel : Cond.code MX0_firstQuarrel.1 MX0_firstQuarrel.2.1 MX0_firstQuarrel.2.2.1 MX0_firstQuarrel.2.2.2 ∈ ztb := ztb_mem (List.mem_of_getElem? (i := 695) (by decide +kernel)) rfl
theorem si_X0_firstQuarrel : Cond.instanceMethod MX0_firstQuarrel.1 ∈ ztb := ztb_mem (List.mem_of_getElem? (i := 694) (by decide +kernel)) rfl
theorem se_X0_firstQuarrel : Cond.selects MX0_firstQuarrel.1.cls MX0_firstQuarrel.1 MX0_firstQuarrel.1 ∈ ztb := ztb_sel (List.mem_of_getElem? (i := 10) (by decide +kernel)) rfl
abbrev MX0_packedRules : ZY := (yX0_packedRules, cX0_packedRules, 3, (some .int))
theorem cd_X0_packedRules : Cond.code MX0_packedRules.1 MX0_packedRules.2.1 MX0_packedRules.2.2.1 MX0_packedRules.2.2.2 ∈ ztb := ztb_mem (List.mem_of_getElem? (i := 709) (by decide +kernel)) rfl
theorem si_X0_packedRules : Cond.instanceMethod MX0_packedRules.1 ∈ ztb := ztb_mem (List.mem_of_getElem? (i := 708) (by decide +kernel)) rfl
theorem se_X0_packedRules : Cond.selects MX0_packedRules.1.cls MX0_packedRules.1 MX0_packedRules.1 ∈ ztb := ztb_sel (List.mem_of_getElem? (i := 11) (by decide +kernel)) rfl
abbrev MX0_takeRules : ZY := (yX0_takeRules, cX0_takeRules, 3, none)
theorem cd_X0_takeRules : Cond.code MX0_takeRules.1 MX0_takeRules.2.1 MX0_takeRules.2.2.1 MX0_takeRules.2.2.2 ∈ ztb := ztb_mem (List.mem_of_getElem? (i := 728) (by decide +kernel)) rfl
theorem si_X0_takeRules : Cond.instanceMethod MX0_takeRules.1 ∈ ztb := ztb_mem (List.mem_of_getElem? (i := 727) (by decide +kernel)) rfl
theorem se_X0_takeRules : Cond.selects MX0_takeRules.1.cls MX0_takeRules.1 MX0_takeRules.1 ∈ ztb := ztb_sel (List.mem_of_getElem? (i := 13) (by decide +kernel)) rfl
abbrev MX0_rulesOf : ZY := (yX0_rulesOf, cX0_rulesOf, 4, (some .int))
theorem cd_X0_rulesOf : Cond.code MX0_rulesOf.1 MX0_rulesOf.2.1 MX0_rulesOf.2.2.1 MX0_rulesOf.2.2.2 ∈ ztb := ztb_mem (List.mem_of_getElem? (i := 737) (by decide +kernel)) rfl
theorem si_X0_rulesOf : Cond.instanceMethod MX0_rulesOf.1 ∈ ztb := ztb_mem (List.mem_of_getElem? (i := 735) (by decide +kernel)) rfl
theorem se_X0_rulesOf : Cond.selects MX0_rulesOf.1.cls MX0_rulesOf.1 MX0_rulesOf.1 ∈ ztb := ztb_mem (List.mem_of_getElem? (i := 736) (by decide +kernel)) rfl
abbrev MX0_sitesOf : ZY := (yX0_sitesOf, cX0_sitesOf, 6, (some .int))
theorem cd_X0_sitesOf : Cond.code MX0_sitesOf.1 MX0_sitesOf.2.1 MX0_sitesOf.2.2.1 MX0_sitesOf.2.2.2 ∈ ztb := ztb_mem (List.mem_of_getElem? (i := 724) (by decide +kernel)) rfl
theorem si_X0_sitesOf : Cond.instanceMethod MX0_sitesOf.1 ∈ ztb := ztb_mem (List.mem_of_getElem? (i := 722) (by decide +kernel)) rfl
theorem se_X0_sitesOf : Cond.selects MX0_sitesOf.1.cls MX0_sitesOf.1 MX0_sitesOf.1 ∈ ztb := ztb_mem (List.mem_of_getElem? (i := 723) (by decide +kernel)) rfl
abbrev MX0_seekTrial : ZY := (yX0_seekTrial, cX0_seekTrial, 4, none)
theorem cd_X0_seekTrial : Cond.code MX0_seekTrial.1 MX0_seekTrial.2.1 MX0_seekTrial.2.2.1 MX0_seekTrial.2.2.2 ∈ ztb := ztb_mem (List.mem_of_getElem? (i := 757) (by decide +kernel)) rfl
theorem si_X0_seekTrial : Cond.instanceMethod MX0_seekTrial.1 ∈ ztb := ztb_mem (List.mem_of_getElem? (i := 755) (by decide +kernel)) rfl
theorem se_X0_seekTrial : Cond.selects MX0_seekTrial.1.cls MX0_seekTrial.1 MX0_seekTrial.1 ∈ ztb := ztb_mem (List.mem_of_getElem? (i := 756) (by decide +kernel)) rfl
abbrev MX0_greatestAlike : ZY := (yX0_greatestAlike, cX0_greatestAlike, 6, (some .int))
theorem cd_X0_greatestAlike : Cond.code MX0_greatestAlike.1 MX0_greatestAlike.2.1 MX0_greatestAlike.2.2.1 MX0_greatestAlike.2.2.2 ∈ ztb := ztb_mem (List.mem_of_getElem? (i := 761) (by decide +kernel)) rfl
theorem si_X0_greatestAlike : Cond.instanceMethod MX0_greatestAlike.1 ∈ ztb := ztb_mem (List.mem_of_getElem? (i := 760) (by decide +kernel)) rfl
theorem se_X0_greatestAlike : Cond.selects MX0_greatestAlike.1.cls MX0_greatestAlike.1 MX0_greatestAlike.1 ∈ ztb := ztb_sel (List.mem_of_getElem? (i := 14) (by decide +kernel)) rfl
abbrev MX0_countAlike : ZY := (yX0_countAlike, cX0_countAlike, 3, (some .int))
theorem cd_X0_countAlike : Cond.code MX0_countAlike.1 MX0_countAlike.2.1 MX0_countAlike.2.2.1 MX0_countAlike.2.2.2 ∈ ztb := ztb_mem (List.mem_of_getElem? (i := 766) (by decide +kernel)) rfl
theorem si_X0_countAlike : Cond.instanceMethod MX0_countAlike.1 ∈ ztb := ztb_mem (List.mem_of_getElem? (i := 765) (by decide +kernel)) rfl
theorem se_X0_countAlike : Cond.selects MX0_countAlike.1.cls MX0_countAlike.1 MX0_countAlike.1 ∈ ztb := ztb_sel (List.mem_of_getElem? (i := 15) (by decide +kernel)) rfl
abbrev MX1_init : ZY := (yX1_init, cX1_init, 5, none)
theorem cd_X1_init : Cond.code MX1_init.1 MX1_init.2.1 MX1_init.2.2.1 MX1_init.2.2.2 ∈ ztb := ztb_mem (List.mem_of_getElem? (i := 172) (by decide +kernel)) rfl
abbrev MX1_forget : ZY := (yX1_forget, cX1_forget, 1, none)
theorem cd_X1_forget : Cond.code MX1_forget.1 MX1_forget.2.1 MX1_forget.2.2.1 MX1_forget.2.2.2 ∈ ztb := ztb_mem (List.mem_of_getElem? (i := 386) (by decide +kernel)) rfl
theorem si_X1_forget : Cond.instanceMethod MX1_forget.1 ∈ ztb := ztb_mem (List.mem_of_getElem? (i := 384) (by decide +kernel)) rfl
theorem se_X1_forget : Cond.selects MX1_forget.1.cls MX1_forget.1 MX1_forget.1 ∈ ztb := ztb_mem (List.mem_of_getElem? (i := 385) (by decide +kernel)) rfl
abbrev MX1_pickNow : ZY := (yX1_pickNow, cX1_pickNow, 2, none)
theorem cd_X1_pickNow : Cond.code MX1_pickNow.1 MX1_pickNow.2.1 MX1_pickNow.2.2.1 MX1_pickNow.2.2.2 ∈ ztb := ztb_mem (List.mem_of_getElem? (i := 603) (by decide +kernel)) rfl
theorem si_X1_pickNow : Cond.instanceMethod MX1_pickNow.1 ∈ ztb := ztb_mem (List.mem_of_getElem? (i := 601) (by decide +kernel)) rfl
theorem se_X1_pickNow : Cond.selects MX1_pickNow.1.cls MX1_pickNow.1 MX1_pickNow.1 ∈ ztb := ztb_mem (List.mem_of_getElem? (i := 602) (by decide +kernel)) rfl
abbrev MX1_pickFirst : ZY := (yX1_pickFirst, cX1_pickFirst, 2, none)
theorem cd_X1_pickFirst : Cond.code MX1_pickFirst.1 MX1_pickFirst.2.1 MX1_pickFirst.2.2.1 MX1_pickFirst.2.2.2 ∈ ztb := ztb_mem (List.mem_of_getElem? (i := 778) (by decide +kernel)) rfl
theorem si_X1_pickFirst : Cond.instanceMethod MX1_pickFirst.1 ∈ ztb := ztb_mem (List.mem_of_getElem? (i := 777) (by decide +kernel)) rfl
theorem se_X1_pickFirst : Cond.selects MX1_pickFirst.1.cls MX1_pickFirst.1 MX1_pickFirst.1 ∈ ztb := ztb_sel (List.mem_of_getElem? (i := 16) (by decide +kernel)) rfl
abbrev MX1_pickNext : ZY := (yX1_pickNext, cX1_pickNext, 2, (some .boolean))
theorem cd_X1_pickNext : Cond.code MX1_pickNext.1 MX1_pickNext.2.1 MX1_pickNext.2.2.1 MX1_pickNext.2.2.2 ∈ ztb := ztb_mem (List.mem_of_getElem? (i := 784) (by decide +kernel)) rfl
theorem si_X1_pickNext : Cond.instanceMethod MX1_pickNext.1 ∈ ztb := ztb_mem (List.mem_of_getElem? (i := 783) (by decide +kernel)) rfl
theorem se_X1_pickNext : Cond.selects MX1_pickNext.1.cls MX1_pickNext.1 MX1_pickNext.1 ∈ ztb := ztb_sel (List.mem_of_getElem? (i := 17) (by decide +kernel)) rfl
abbrev MX1_place : ZY := (yX1_place, cX1_place, 3, (some .int))
theorem cd_X1_place : Cond.code MX1_place.1 MX1_place.2.1 MX1_place.2.2.1 MX1_place.2.2.2 ∈ ztb := ztb_mem (List.mem_of_getElem? (i := 613) (by decide +kernel)) rfl
theorem si_X1_place : Cond.instanceMethod MX1_place.1 ∈ ztb := ztb_mem (List.mem_of_getElem? (i := 612) (by decide +kernel)) rfl
theorem se_X1_place : Cond.selects MX1_place.1.cls MX1_place.1 MX1_place.1 ∈ ztb := ztb_sel (List.mem_of_getElem? (i := 8) (by decide +kernel)) rfl
abbrev MX1_measure : ZY := (yX1_measure, cX1_measure, 2, (some .int))
theorem cd_X1_measure : Cond.code MX1_measure.1 MX1_measure.2.1 MX1_measure.2.2.1 MX1_measure.2.2.2 ∈ ztb := ztb_mem (List.mem_of_getElem? (i := 608) (by decide +kernel)) rfl
theorem si_X1_measure : Cond.instanceMethod MX1_measure.1 ∈ ztb := ztb_mem (List.mem_of_getElem? (i := 606) (by decide +kernel)) rfl
theorem se_X1_measure : Cond.selects MX1_measure.1.cls MX1_measure.1 MX1_measure.1 ∈ ztb := ztb_mem (List.mem_of_getElem? (i := 607) (by decide +kernel)) rfl
abbrev MX1_weighRest : ZY := (yX1_weighRest, cX1_weighRest, 5, none)
theorem cd_X1_weighRest : Cond.code MX1_weighRest.1 MX1_weighRest.2.1 MX1_weighRest.2.2.1 MX1_weighRest.2.2.2 ∈ ztb := ztb_mem (List.mem_of_getElem? (i := 626) (by decide +kernel)) rfl
theorem si_X1_weighRest : Cond.instanceMethod MX1_weighRest.1 ∈ ztb := ztb_mem (List.mem_of_getElem? (i := 625) (by decide +kernel)) rfl
theorem se_X1_weighRest : Cond.selects MX1_weighRest.1.cls MX1_weighRest.1 MX1_weighRest.1 ∈ ztb := ztb_sel (List.mem_of_getElem? (i := 9) (by decide +kernel)) rfl
abbrev MX1_measureAll : ZY := (yX1_measureAll, cX1_measureAll, 3, none)
theorem cd_X1_measureAll : Cond.code MX1_measureAll.1 MX1_measureAll.2.1 MX1_measureAll.2.2.1 MX1_measureAll.2.2.2 ∈ ztb := ztb_mem (List.mem_of_getElem? (i := 774) (by decide +kernel)) rfl
theorem si_X1_measureAll : Cond.instanceMethod MX1_measureAll.1 ∈ ztb := ztb_mem (List.mem_of_getElem? (i := 772) (by decide +kernel)) rfl
theorem se_X1_measureAll : Cond.selects MX1_measureAll.1.cls MX1_measureAll.1 MX1_measureAll.1 ∈ ztb := ztb_mem (List.mem_of_getElem? (i := 773) (by decide +kernel)) rfl
abbrev MX1_seek : ZY := (yX1_seek, cX1_seek, 5, none)
theorem cd_X1_seek : Cond.code MX1_seek.1 MX1_seek.2.1 MX1_seek.2.2.1 MX1_seek.2.2.2 ∈ ztb := ztb_mem (List.mem_of_getElem? (i := 788) (by decide +kernel)) rfl
theorem si_X1_seek : Cond.instanceMethod MX1_seek.1 ∈ ztb := ztb_mem (List.mem_of_getElem? (i := 786) (by decide +kernel)) rfl
theorem se_X1_seek : Cond.selects MX1_seek.1.cls MX1_seek.1 MX1_seek.1 ∈ ztb := ztb_mem (List.mem_of_getElem? (i := 787) (by decide +kernel)) rfl
abbrev MX1_isBetter : ZY := (yX1_isBetter, cX1_isBetter, 1, (some .boolean))
theorem cd_X1_isBetter : Cond.code MX1_isBetter.1 MX1_isBetter.2.1 MX1_isBetter.2.2.1 MX1_isBetter.2.2.2 ∈ ztb := ztb_mem (List.mem_of_getElem? (i := 800) (by decide +kernel)) rfl
theorem si_X1_isBetter : Cond.instanceMethod MX1_isBetter.1 ∈ ztb := ztb_mem (List.mem_of_getElem? (i := 799) (by decide +kernel)) rfl
theorem se_X1_isBetter : Cond.selects MX1_isBetter.1.cls MX1_isBetter.1 MX1_isBetter.1 ∈ ztb := ztb_sel (List.mem_of_getElem? (i := 20) (by decide +kernel)) rfl
abbrev MX1_weighPick : ZY := (yX1_weighPick, cX1_weighPick, 5, (some .boolean))
theorem cd_X1_weighPick : Cond.code MX1_weighPick.1 MX1_weighPick.2.1 MX1_weighPick.2.2.1 MX1_weighPick.2.2.2 ∈ ztb := ztb_mem (List.mem_of_getElem? (i := 792) (by decide +kernel)) rfl
theorem si_X1_weighPick : Cond.instanceMethod MX1_weighPick.1 ∈ ztb := ztb_mem (List.mem_of_getElem? (i := 791) (by decide +kernel)) rfl
theorem se_X1_weighPick : Cond.selects MX1_weighPick.1.cls MX1_weighPick.1 MX1_weighPick.1 ∈ ztb := ztb_sel (List.mem_of_getElem? (i := 18) (by decide +kernel)) rfl
abbrev MX1_weighPlace : ZY := (yX1_weighPlace, cX1_weighPlace, 2, (some .boolean))
theorem cd_X1_weighPlace : Cond.code MX1_weighPlace.1 MX1_weighPlace.2.1 MX1_weighPlace.2.2.1 MX1_weighPlace.2.2.2 ∈ ztb := ztb_mem (List.mem_of_getElem? (i := 796) (by decide +kernel)) rfl
theorem si_X1_weighPlace : Cond.instanceMethod MX1_weighPlace.1 ∈ ztb := ztb_mem (List.mem_of_getElem? (i := 795) (by decide +kernel)) rfl
theorem se_X1_weighPlace : Cond.selects MX1_weighPlace.1.cls MX1_weighPlace.1 MX1_weighPlace.1 ∈ ztb := ztb_sel (List.mem_of_getElem? (i := 19) (by decide +kernel)) rfl
abbrev MX2_init : ZY := (yX2_init, cX2_init, 3, none)
theorem cd_X2_init : Cond.code MX2_init.1 MX2_init.2.1 MX2_init.2.2.1 MX2_init.2.2.2 ∈ ztb := ztb_mem (List.mem_of_getElem? (i := 137) (by decide +kernel)) rfl
abbrev MX2_ofSite : ZY := (yX2_ofSite, cX2_ofSite, 3, (some .long))
theorem cd_X2_ofSite : Cond.code MX2_ofSite.1 MX2_ofSite.2.1 MX2_ofSite.2.2.1 MX2_ofSite.2.2.2 ∈ ztb := ztb_mem (List.mem_of_getElem? (i := 516) (by decide +kernel)) rfl
theorem ss_X2_ofSite : Cond.static MX2_ofSite.1 ∈ ztb := ztb_mem (List.mem_of_getElem? (i := 515) (by decide +kernel)) rfl
abbrev MX2_passedOn : ZY := (yX2_passedOn, cX2_passedOn, 5, (some .long))
theorem cd_X2_passedOn : Cond.code MX2_passedOn.1 MX2_passedOn.2.1 MX2_passedOn.2.2.1 MX2_passedOn.2.2.2 ∈ ztb := ztb_mem (List.mem_of_getElem? (i := 531) (by decide +kernel)) rfl
theorem ss_X2_passedOn : Cond.static MX2_passedOn.1 ∈ ztb := ztb_mem (List.mem_of_getElem? (i := 530) (by decide +kernel)) rfl
abbrev MX2_siteOf : ZY := (yX2_siteOf, cX2_siteOf, 2, (some .int))
theorem cd_X2_siteOf : Cond.code MX2_siteOf.1 MX2_siteOf.2.1 MX2_siteOf.2.2.1 MX2_siteOf.2.2.2 ∈ ztb := ztb_mem (List.mem_of_getElem? (i := 523) (by decide +kernel)) rfl
theorem ss_X2_siteOf : Cond.static MX2_siteOf.1 ∈ ztb := ztb_mem (List.mem_of_getElem? (i := 522) (by decide +kernel)) rfl
abbrev MX2_namesOf : ZY := (yX2_namesOf, cX2_namesOf, 2, (some .int))
theorem cd_X2_namesOf : Cond.code MX2_namesOf.1 MX2_namesOf.2.1 MX2_namesOf.2.2.1 MX2_namesOf.2.2.2 ∈ ztb := ztb_mem (List.mem_of_getElem? (i := 545) (by decide +kernel)) rfl
theorem ss_X2_namesOf : Cond.static MX2_namesOf.1 ∈ ztb := ztb_mem (List.mem_of_getElem? (i := 544) (by decide +kernel)) rfl
abbrev MX2_passedAt : ZY := (yX2_passedAt, cX2_passedAt, 4, (some .int))
theorem cd_X2_passedAt : Cond.code MX2_passedAt.1 MX2_passedAt.2.1 MX2_passedAt.2.2.1 MX2_passedAt.2.2.2 ∈ ztb := ztb_mem (List.mem_of_getElem? (i := 527) (by decide +kernel)) rfl
theorem ss_X2_passedAt : Cond.static MX2_passedAt.1 ∈ ztb := ztb_mem (List.mem_of_getElem? (i := 526) (by decide +kernel)) rfl
abbrev MX2_takeLeastRules : ZY := (yX2_takeLeastRules, cX2_takeLeastRules, 2, none)
theorem cd_X2_takeLeastRules : Cond.code MX2_takeLeastRules.1 MX2_takeLeastRules.2.1 MX2_takeLeastRules.2.2.1 MX2_takeLeastRules.2.2.2 ∈ ztb := ztb_mem (List.mem_of_getElem? (i := 489) (by decide +kernel)) rfl
theorem si_X2_takeLeastRules : Cond.instanceMethod MX2_takeLeastRules.1 ∈ ztb := ztb_mem (List.mem_of_getElem? (i := 487) (by decide +kernel)) rfl
theorem se_X2_takeLeastRules : Cond.selects MX2_takeLeastRules.1.cls MX2_takeLeastRules.1 MX2_takeLeastRules.1 ∈ ztb := ztb_mem (List.mem_of_getElem? (i := 488) (by decide +kernel)) rfl
abbrev MX2_settle : ZY := (yX2_settle, cX2_settle, 5, (some .int))
theorem cd_X2_settle : Cond.code MX2_settle.1 MX2_settle.2.1 MX2_settle.2.2.1 MX2_settle.2.2.2 ∈ ztb := ztb_mem (List.mem_of_getElem? (i := 501) (by decide +kernel)) rfl
theorem si_X2_settle : Cond.instanceMethod MX2_settle.1 ∈ ztb := ztb_mem (List.mem_of_getElem? (i := 499) (by decide +kernel)) rfl
theorem se_X2_settle : Cond.selects MX2_settle.1.cls MX2_settle.1 MX2_settle.1 ∈ ztb := ztb_mem (List.mem_of_getElem? (i := 500) (by decide +kernel)) rfl
abbrev MX2_takeFresh : ZY := (yX2_takeFresh, cX2_takeFresh, 4, (some .int))
theorem cd_X2_takeFresh : Cond.code MX2_takeFresh.1 MX2_takeFresh.2.1 MX2_takeFresh.2.2.1 MX2_takeFresh.2.2.2 ∈ ztb := ztb_mem (List.mem_of_getElem? (i := 549) (by decide +kernel)) rfl
theorem si_X2_takeFresh : Cond.instanceMethod MX2_takeFresh.1 ∈ ztb := ztb_mem (List.mem_of_getElem? (i := 548) (by decide +kernel)) rfl
theorem se_X2_takeFresh : Cond.selects MX2_takeFresh.1.cls MX2_takeFresh.1 MX2_takeFresh.1 ∈ ztb := ztb_sel (List.mem_of_getElem? (i := 5) (by decide +kernel)) rfl
abbrev MX2_hear : ZY := (yX2_hear, cX2_hear, 4, none)
theorem cd_X2_hear : Cond.code MX2_hear.1 MX2_hear.2.1 MX2_hear.2.2.1 MX2_hear.2.2.2 ∈ ztb := ztb_mem (List.mem_of_getElem? (i := 509) (by decide +kernel)) rfl
theorem si_X2_hear : Cond.instanceMethod MX2_hear.1 ∈ ztb := ztb_mem (List.mem_of_getElem? (i := 507) (by decide +kernel)) rfl
theorem se_X2_hear : Cond.selects MX2_hear.1.cls MX2_hear.1 MX2_hear.1 ∈ ztb := ztb_mem (List.mem_of_getElem? (i := 508) (by decide +kernel)) rfl
abbrev MX2_passesOn : ZY := (yX2_passesOn, cX2_passesOn, 9, (some .boolean))
theorem cd_X2_passesOn : Cond.code MX2_passesOn.1 MX2_passesOn.2.1 MX2_passesOn.2.2.1 MX2_passesOn.2.2.2 ∈ ztb := ztb_mem (List.mem_of_getElem? (i := 520) (by decide +kernel)) rfl
theorem si_X2_passesOn : Cond.instanceMethod MX2_passesOn.1 ∈ ztb := ztb_mem (List.mem_of_getElem? (i := 519) (by decide +kernel)) rfl
theorem se_X2_passesOn : Cond.selects MX2_passesOn.1.cls MX2_passesOn.1 MX2_passesOn.1 ∈ ztb := ztb_sel (List.mem_of_getElem? (i := 2) (by decide +kernel)) rfl
abbrev MX2_pick : ZY := (yX2_pick, cX2_pick, 4, (some .long))
theorem cd_X2_pick : Cond.code MX2_pick.1 MX2_pick.2.1 MX2_pick.2.2.1 MX2_pick.2.2.2 ∈ ztb := ztb_mem (List.mem_of_getElem? (i := 538) (by decide +kernel)) rfl
theorem si_X2_pick : Cond.instanceMethod MX2_pick.1 ∈ ztb := ztb_mem (List.mem_of_getElem? (i := 537) (by decide +kernel)) rfl
theorem se_X2_pick : Cond.selects MX2_pick.1.cls MX2_pick.1 MX2_pick.1 ∈ ztb := ztb_sel (List.mem_of_getElem? (i := 3) (by decide +kernel)) rfl
abbrev MX2_rank : ZY := (yX2_rank, cX2_rank, 8, (some .int))
theorem cd_X2_rank : Cond.code MX2_rank.1 MX2_rank.2.1 MX2_rank.2.2.1 MX2_rank.2.2.2 ∈ ztb := ztb_mem (List.mem_of_getElem? (i := 542) (by decide +kernel)) rfl
theorem si_X2_rank : Cond.instanceMethod MX2_rank.1 ∈ ztb := ztb_mem (List.mem_of_getElem? (i := 541) (by decide +kernel)) rfl
theorem se_X2_rank : Cond.selects MX2_rank.1.cls MX2_rank.1 MX2_rank.1 ∈ ztb := ztb_sel (List.mem_of_getElem? (i := 4) (by decide +kernel)) rfl
abbrev MX2_needed : ZY := (yX2_needed, cX2_needed, 4, (some .int))
theorem cd_X2_needed : Cond.code MX2_needed.1 MX2_needed.2.1 MX2_needed.2.2.1 MX2_needed.2.2.2 ∈ ztb := ztb_mem (List.mem_of_getElem? (i := 585) (by decide +kernel)) rfl
theorem si_X2_needed : Cond.instanceMethod MX2_needed.1 ∈ ztb := ztb_mem (List.mem_of_getElem? (i := 583) (by decide +kernel)) rfl
theorem se_X2_needed : Cond.selects MX2_needed.1.cls MX2_needed.1 MX2_needed.1 ∈ ztb := ztb_mem (List.mem_of_getElem? (i := 584) (by decide +kernel)) rfl
abbrev MX2_alike : ZY := (yX2_alike, cX2_alike, 5, (some .int))
theorem cd_X2_alike : Cond.code MX2_alike.1 MX2_alike.2.1 MX2_alike.2.2.1 MX2_alike.2.2.2 ∈ ztb := ztb_mem (List.mem_of_getElem? (i := 589) (by decide +kernel)) rfl
theorem si_X2_alike : Cond.instanceMethod MX2_alike.1 ∈ ztb := ztb_mem (List.mem_of_getElem? (i := 588) (by decide +kernel)) rfl
theorem se_X2_alike : Cond.selects MX2_alike.1.cls MX2_alike.1 MX2_alike.1 ∈ ztb := ztb_sel (List.mem_of_getElem? (i := 7) (by decide +kernel)) rfl
abbrev MX2_comesTo : ZY := (yX2_comesTo, cX2_comesTo, 2, (some .int))
theorem cd_X2_comesTo : Cond.code MX2_comesTo.1 MX2_comesTo.2.1 MX2_comesTo.2.2.1 MX2_comesTo.2.2.2 ∈ ztb := ztb_mem (List.mem_of_getElem? (i := 562) (by decide +kernel)) rfl
theorem si_X2_comesTo : Cond.instanceMethod MX2_comesTo.1 ∈ ztb := ztb_mem (List.mem_of_getElem? (i := 560) (by decide +kernel)) rfl
theorem se_X2_comesTo : Cond.selects MX2_comesTo.1.cls MX2_comesTo.1 MX2_comesTo.1 ∈ ztb := ztb_mem (List.mem_of_getElem? (i := 561) (by decide +kernel)) rfl
abbrev MX2_outcome : ZY := (yX2_outcome, cX2_outcome, 3, (some .int))
theorem cd_X2_outcome : Cond.code MX2_outcome.1 MX2_outcome.2.1 MX2_outcome.2.2.1 MX2_outcome.2.2.2 ∈ ztb := ztb_mem (List.mem_of_getElem? (i := 650) (by decide +kernel)) rfl
theorem si_X2_outcome : Cond.instanceMethod MX2_outcome.1 ∈ ztb := ztb_mem (List.mem_of_getElem? (i := 648) (by decide +kernel)) rfl
theorem se_X2_outcome : Cond.selects MX2_outcome.1.cls MX2_outcome.1 MX2_outcome.1 ∈ ztb := ztb_mem (List.mem_of_getElem? (i := 649) (by decide +kernel)) rfl
abbrev MX3_init : ZY := (yX3_init, cX3_init, 1, none)
theorem cd_X3_init : Cond.code MX3_init.1 MX3_init.2.1 MX3_init.2.2.1 MX3_init.2.2.2 ∈ ztb := ztb_mem (List.mem_of_getElem? (i := 27) (by decide +kernel)) rfl
abbrev MX3_has : ZY := (yX3_has, cX3_has, 2, (some .boolean))
theorem cd_X3_has : Cond.code MX3_has.1 MX3_has.2.1 MX3_has.2.2.1 MX3_has.2.2.2 ∈ ztb := ztb_mem (List.mem_of_getElem? (i := 402) (by decide +kernel)) rfl
theorem si_X3_has : Cond.instanceMethod MX3_has.1 ∈ ztb := ztb_mem (List.mem_of_getElem? (i := 400) (by decide +kernel)) rfl
theorem se_X3_has : Cond.selects MX3_has.1.cls MX3_has.1 MX3_has.1 ∈ ztb := ztb_mem (List.mem_of_getElem? (i := 401) (by decide +kernel)) rfl
abbrev MX3_everyone : ZY := (yX3_everyone, cX3_everyone, 1, (some .int))
theorem cd_X3_everyone : Cond.code MX3_everyone.1 MX3_everyone.2.1 MX3_everyone.2.2.1 MX3_everyone.2.2.2 ∈ ztb := ztb_mem (List.mem_of_getElem? (i := 469) (by decide +kernel)) rfl
theorem si_X3_everyone : Cond.instanceMethod MX3_everyone.1 ∈ ztb := ztb_mem (List.mem_of_getElem? (i := 467) (by decide +kernel)) rfl
theorem se_X3_everyone : Cond.selects MX3_everyone.1.cls MX3_everyone.1 MX3_everyone.1 ∈ ztb := ztb_mem (List.mem_of_getElem? (i := 468) (by decide +kernel)) rfl
abbrev MX3_add : ZY := (yX3_add, cX3_add, 2, (some .int))
theorem cd_X3_add : Cond.code MX3_add.1 MX3_add.2.1 MX3_add.2.2.1 MX3_add.2.2.2 ∈ ztb := ztb_mem (List.mem_of_getElem? (i := 394) (by decide +kernel)) rfl
theorem si_X3_add : Cond.instanceMethod MX3_add.1 ∈ ztb := ztb_mem (List.mem_of_getElem? (i := 392) (by decide +kernel)) rfl
theorem se_X3_add : Cond.selects MX3_add.1.cls MX3_add.1 MX3_add.1 ∈ ztb := ztb_mem (List.mem_of_getElem? (i := 393) (by decide +kernel)) rfl
abbrev MX3_bond : ZY := (yX3_bond, cX3_bond, 3, (some .int))
theorem cd_X3_bond : Cond.code MX3_bond.1 MX3_bond.2.1 MX3_bond.2.2.1 MX3_bond.2.2.2 ∈ ztb := ztb_mem (List.mem_of_getElem? (i := 406) (by decide +kernel)) rfl
theorem si_X3_bond : Cond.instanceMethod MX3_bond.1 ∈ ztb := ztb_mem (List.mem_of_getElem? (i := 404) (by decide +kernel)) rfl
theorem se_X3_bond : Cond.selects MX3_bond.1.cls MX3_bond.1 MX3_bond.1 ∈ ztb := ztb_mem (List.mem_of_getElem? (i := 405) (by decide +kernel)) rfl
abbrev MX3_join : ZY := (yX3_join, cX3_join, 4, (some .int))
theorem cd_X3_join : Cond.code MX3_join.1 MX3_join.2.1 MX3_join.2.2.1 MX3_join.2.2.2 ∈ ztb := ztb_mem (List.mem_of_getElem? (i := 418) (by decide +kernel)) rfl
theorem si_X3_join : Cond.instanceMethod MX3_join.1 ∈ ztb := ztb_mem (List.mem_of_getElem? (i := 416) (by decide +kernel)) rfl
theorem se_X3_join : Cond.selects MX3_join.1.cls MX3_join.1 MX3_join.1 ∈ ztb := ztb_mem (List.mem_of_getElem? (i := 417) (by decide +kernel)) rfl
abbrev MX3_buysFrom : ZY := (yX3_buysFrom, cX3_buysFrom, 5, (some .boolean))
theorem cd_X3_buysFrom : Cond.code MX3_buysFrom.1 MX3_buysFrom.2.1 MX3_buysFrom.2.2.1 MX3_buysFrom.2.2.2 ∈ ztb := ztb_mem (List.mem_of_getElem? (i := 410) (by decide +kernel)) rfl
theorem si_X3_buysFrom : Cond.instanceMethod MX3_buysFrom.1 ∈ ztb := ztb_mem (List.mem_of_getElem? (i := 408) (by decide +kernel)) rfl
theorem se_X3_buysFrom : Cond.selects MX3_buysFrom.1.cls MX3_buysFrom.1 MX3_buysFrom.1 ∈ ztb := ztb_mem (List.mem_of_getElem? (i := 409) (by decide +kernel)) rfl
abbrev MX3_union : ZY := (yX3_union, cX3_union, 5, (some .int))
theorem cd_X3_union : Cond.code MX3_union.1 MX3_union.2.1 MX3_union.2.2.1 MX3_union.2.2.2 ∈ ztb := ztb_mem (List.mem_of_getElem? (i := 414) (by decide +kernel)) rfl
theorem si_X3_union : Cond.instanceMethod MX3_union.1 ∈ ztb := ztb_mem (List.mem_of_getElem? (i := 412) (by decide +kernel)) rfl
theorem se_X3_union : Cond.selects MX3_union.1.cls MX3_union.1 MX3_union.1 ∈ ztb := ztb_mem (List.mem_of_getElem? (i := 413) (by decide +kernel)) rfl
abbrev MX3_leastRule : ZY := (yX3_leastRule, cX3_leastRule, 2, (some .int))
theorem cd_X3_leastRule : Cond.code MX3_leastRule.1 MX3_leastRule.2.1 MX3_leastRule.2.2.1 MX3_leastRule.2.2.2 ∈ ztb := ztb_mem (List.mem_of_getElem? (i := 493) (by decide +kernel)) rfl
theorem si_X3_leastRule : Cond.instanceMethod MX3_leastRule.1 ∈ ztb := ztb_mem (List.mem_of_getElem? (i := 491) (by decide +kernel)) rfl
theorem se_X3_leastRule : Cond.selects MX3_leastRule.1.cls MX3_leastRule.1 MX3_leastRule.1 ∈ ztb := ztb_mem (List.mem_of_getElem? (i := 492) (by decide +kernel)) rfl
abbrev MX3_caseCount : ZY := (yX3_caseCount, cX3_caseCount, 3, (some .int))
theorem cd_X3_caseCount : Cond.code MX3_caseCount.1 MX3_caseCount.2.1 MX3_caseCount.2.2.1 MX3_caseCount.2.2.2 ∈ ztb := ztb_mem (List.mem_of_getElem? (i := 675) (by decide +kernel)) rfl
theorem si_X3_caseCount : Cond.instanceMethod MX3_caseCount.1 ∈ ztb := ztb_mem (List.mem_of_getElem? (i := 673) (by decide +kernel)) rfl
theorem se_X3_caseCount : Cond.selects MX3_caseCount.1.cls MX3_caseCount.1 MX3_caseCount.1 ∈ ztb := ztb_mem (List.mem_of_getElem? (i := 674) (by decide +kernel)) rfl
abbrev MX3_surelyGuessed : ZY := (yX3_surelyGuessed, cX3_surelyGuessed, 3, (some .int))
theorem cd_X3_surelyGuessed : Cond.code MX3_surelyGuessed.1 MX3_surelyGuessed.2.1 MX3_surelyGuessed.2.2.1 MX3_surelyGuessed.2.2.2 ∈ ztb := ztb_mem (List.mem_of_getElem? (i := 879) (by decide +kernel)) rfl
theorem si_X3_surelyGuessed : Cond.instanceMethod MX3_surelyGuessed.1 ∈ ztb := ztb_mem (List.mem_of_getElem? (i := 877) (by decide +kernel)) rfl
theorem se_X3_surelyGuessed : Cond.selects MX3_surelyGuessed.1.cls MX3_surelyGuessed.1 MX3_surelyGuessed.1 ∈ ztb := ztb_mem (List.mem_of_getElem? (i := 878) (by decide +kernel)) rfl
abbrev MX3_allAskers : ZY := (yX3_allAskers, cX3_allAskers, 3, (some .int))
theorem cd_X3_allAskers : Cond.code MX3_allAskers.1 MX3_allAskers.2.1 MX3_allAskers.2.2.1 MX3_allAskers.2.2.2 ∈ ztb := ztb_mem (List.mem_of_getElem? (i := 875) (by decide +kernel)) rfl
theorem si_X3_allAskers : Cond.instanceMethod MX3_allAskers.1 ∈ ztb := ztb_mem (List.mem_of_getElem? (i := 873) (by decide +kernel)) rfl
theorem se_X3_allAskers : Cond.selects MX3_allAskers.1.cls MX3_allAskers.1 MX3_allAskers.1 ∈ ztb := ztb_mem (List.mem_of_getElem? (i := 874) (by decide +kernel)) rfl
abbrev MX3_askersUnlike : ZY := (yX3_askersUnlike, cX3_askersUnlike, 5, (some .int))
theorem cd_X3_askersUnlike : Cond.code MX3_askersUnlike.1 MX3_askersUnlike.2.1 MX3_askersUnlike.2.2.1 MX3_askersUnlike.2.2.2 ∈ ztb := ztb_mem (List.mem_of_getElem? (i := 654) (by decide +kernel)) rfl
theorem si_X3_askersUnlike : Cond.instanceMethod MX3_askersUnlike.1 ∈ ztb := ztb_mem (List.mem_of_getElem? (i := 652) (by decide +kernel)) rfl
theorem se_X3_askersUnlike : Cond.selects MX3_askersUnlike.1.cls MX3_askersUnlike.1 MX3_askersUnlike.1 ∈ ztb := ztb_mem (List.mem_of_getElem? (i := 653) (by decide +kernel)) rfl
abbrev MX4_init : ZY := (yX4_init, cX4_init, 4, none)
theorem cd_X4_init : Cond.code MX4_init.1 MX4_init.2.1 MX4_init.2.2.1 MX4_init.2.2.2 ∈ ztb := ztb_mem (List.mem_of_getElem? (i := 234) (by decide +kernel)) rfl
abbrev MX4_aimOf : ZY := (yX4_aimOf, cX4_aimOf, 2, (some .int))
theorem cd_X4_aimOf : Cond.code MX4_aimOf.1 MX4_aimOf.2.1 MX4_aimOf.2.2.1 MX4_aimOf.2.2.2 ∈ ztb := ztb_mem (List.mem_of_getElem? (i := 817) (by decide +kernel)) rfl
theorem si_X4_aimOf : Cond.instanceMethod MX4_aimOf.1 ∈ ztb := ztb_mem (List.mem_of_getElem? (i := 815) (by decide +kernel)) rfl
theorem se_X4_aimOf : Cond.selects MX4_aimOf.1.cls MX4_aimOf.1 MX4_aimOf.1 ∈ ztb := ztb_mem (List.mem_of_getElem? (i := 816) (by decide +kernel)) rfl
abbrev MX4_toChange : ZY := (yX4_toChange, cX4_toChange, 3, (some .int))
theorem cd_X4_toChange : Cond.code MX4_toChange.1 MX4_toChange.2.1 MX4_toChange.2.2.1 MX4_toChange.2.2.2 ∈ ztb := ztb_mem (List.mem_of_getElem? (i := 825) (by decide +kernel)) rfl
theorem si_X4_toChange : Cond.instanceMethod MX4_toChange.1 ∈ ztb := ztb_mem (List.mem_of_getElem? (i := 823) (by decide +kernel)) rfl
theorem se_X4_toChange : Cond.selects MX4_toChange.1.cls MX4_toChange.1 MX4_toChange.1 ∈ ztb := ztb_mem (List.mem_of_getElem? (i := 824) (by decide +kernel)) rfl
abbrev MX4_plan : ZY := (yX4_plan, cX4_plan, 4, none)
theorem cd_X4_plan : Cond.code MX4_plan.1 MX4_plan.2.1 MX4_plan.2.2.1 MX4_plan.2.2.2 ∈ ztb := ztb_mem (List.mem_of_getElem? (i := 835) (by decide +kernel)) rfl
theorem si_X4_plan : Cond.instanceMethod MX4_plan.1 ∈ ztb := ztb_mem (List.mem_of_getElem? (i := 833) (by decide +kernel)) rfl
theorem se_X4_plan : Cond.selects MX4_plan.1.cls MX4_plan.1 MX4_plan.1 ∈ ztb := ztb_mem (List.mem_of_getElem? (i := 834) (by decide +kernel)) rfl
abbrev MX4_pickBehind : ZY := (yX4_pickBehind, cX4_pickBehind, 3, none)
theorem cd_X4_pickBehind : Cond.code MX4_pickBehind.1 MX4_pickBehind.2.1 MX4_pickBehind.2.2.1 MX4_pickBehind.2.2.2 ∈ ztb := ztb_mem (List.mem_of_getElem? (i := 840) (by decide +kernel)) rfl
theorem si_X4_pickBehind : Cond.instanceMethod MX4_pickBehind.1 ∈ ztb := ztb_mem (List.mem_of_getElem? (i := 839) (by decide +kernel)) rfl
theorem se_X4_pickBehind : Cond.selects MX4_pickBehind.1.cls MX4_pickBehind.1 MX4_pickBehind.1 ∈ ztb := ztb_sel (List.mem_of_getElem? (i := 21) (by decide +kernel)) rfl
abbrev MX4_leastWorst : ZY := (yX4_leastWorst, cX4_leastWorst, 5, (some .int))
theorem cd_X4_leastWorst : Cond.code MX4_leastWorst.1 MX4_leastWorst.2.1 MX4_leastWorst.2.2.1 MX4_leastWorst.2.2.2 ∈ ztb := ztb_mem (List.mem_of_getElem? (i := 847) (by decide +kernel)) rfl
theorem si_X4_leastWorst : Cond.instanceMethod MX4_leastWorst.1 ∈ ztb := ztb_mem (List.mem_of_getElem? (i := 846) (by decide +kernel)) rfl
theorem se_X4_leastWorst : Cond.selects MX4_leastWorst.1.cls MX4_leastWorst.1 MX4_leastWorst.1 ∈ ztb := ztb_sel (List.mem_of_getElem? (i := 22) (by decide +kernel)) rfl
abbrev MX4_worstBy : ZY := (yX4_worstBy, cX4_worstBy, 2, (some .int))
theorem cd_X4_worstBy : Cond.code MX4_worstBy.1 MX4_worstBy.2.1 MX4_worstBy.2.2.1 MX4_worstBy.2.2.2 ∈ ztb := ztb_mem (List.mem_of_getElem? (i := 851) (by decide +kernel)) rfl
theorem si_X4_worstBy : Cond.instanceMethod MX4_worstBy.1 ∈ ztb := ztb_mem (List.mem_of_getElem? (i := 850) (by decide +kernel)) rfl
theorem se_X4_worstBy : Cond.selects MX4_worstBy.1.cls MX4_worstBy.1 MX4_worstBy.1 ∈ ztb := ztb_sel (List.mem_of_getElem? (i := 23) (by decide +kernel)) rfl
abbrev MX4_firstStep : ZY := (yX4_firstStep, cX4_firstStep, 5, (some .int))
theorem cd_X4_firstStep : Cond.code MX4_firstStep.1 MX4_firstStep.2.1 MX4_firstStep.2.2.1 MX4_firstStep.2.2.2 ∈ ztb := ztb_mem (List.mem_of_getElem? (i := 859) (by decide +kernel)) rfl
theorem si_X4_firstStep : Cond.instanceMethod MX4_firstStep.1 ∈ ztb := ztb_mem (List.mem_of_getElem? (i := 858) (by decide +kernel)) rfl
theorem se_X4_firstStep : Cond.selects MX4_firstStep.1.cls MX4_firstStep.1 MX4_firstStep.1 ∈ ztb := ztb_sel (List.mem_of_getElem? (i := 24) (by decide +kernel)) rfl
abbrev MX5_init : ZY := (yX5_init, cX5_init, 1, none)
theorem cd_X5_init : Cond.code MX5_init.1 MX5_init.2.1 MX5_init.2.2.1 MX5_init.2.2.2 ∈ ztb := ztb_mem (List.mem_of_getElem? (i := 66) (by decide +kernel)) rfl
abbrev MX6_init : ZY := (yX6_init, cX6_init, 1, none)
theorem cd_X6_init : Cond.code MX6_init.1 MX6_init.2.1 MX6_init.2.2.1 MX6_init.2.2.2 ∈ ztb := ztb_mem (List.mem_of_getElem? (i := 277) (by decide +kernel)) rfl
abbrev MX6_isSeen : ZY := (yX6_isSeen, cX6_isSeen, 2, (some .boolean))
theorem cd_X6_isSeen : Cond.code MX6_isSeen.1 MX6_isSeen.2.1 MX6_isSeen.2.2.1 MX6_isSeen.2.2.2 ∈ ztb := ztb_mem (List.mem_of_getElem? (i := 699) (by decide +kernel)) rfl
theorem si_X6_isSeen : Cond.instanceMethod MX6_isSeen.1 ∈ ztb := ztb_mem (List.mem_of_getElem? (i := 697) (by decide +kernel)) rfl
theorem se_X6_isSeen : Cond.selects MX6_isSeen.1.cls MX6_isSeen.1 MX6_isSeen.1 ∈ ztb := ztb_mem (List.mem_of_getElem? (i := 698) (by decide +kernel)) rfl
abbrev MX6_isAsSeen : ZY := (yX6_isAsSeen, cX6_isAsSeen, 3, (some .boolean))
theorem cd_X6_isAsSeen : Cond.code MX6_isAsSeen.1 MX6_isAsSeen.2.1 MX6_isAsSeen.2.2.1 MX6_isAsSeen.2.2.2 ∈ ztb := ztb_mem (List.mem_of_getElem? (i := 704) (by decide +kernel)) rfl
theorem si_X6_isAsSeen : Cond.instanceMethod MX6_isAsSeen.1 ∈ ztb := ztb_mem (List.mem_of_getElem? (i := 702) (by decide +kernel)) rfl
theorem se_X6_isAsSeen : Cond.selects MX6_isAsSeen.1.cls MX6_isAsSeen.1 MX6_isAsSeen.1 ∈ ztb := ztb_mem (List.mem_of_getElem? (i := 703) (by decide +kernel)) rfl
abbrev MX7_init : ZY := (yX7_init, cX7_init, 1, none)
theorem cd_X7_init : Cond.code MX7_init.1 MX7_init.2.1 MX7_init.2.2.1 MX7_init.2.2.2 ∈ ztb := ztb_mem (List.mem_of_getElem? (i := 96) (by decide +kernel)) rfl
abbrev MX7_has : ZY := (yX7_has, cX7_has, 2, (some .boolean))
theorem cd_X7_has : Cond.code MX7_has.1 MX7_has.2.1 MX7_has.2.2.1 MX7_has.2.2.2 ∈ ztb := ztb_mem (List.mem_of_getElem? (i := 450) (by decide +kernel)) rfl
theorem si_X7_has : Cond.instanceMethod MX7_has.1 ∈ ztb := ztb_mem (List.mem_of_getElem? (i := 448) (by decide +kernel)) rfl
theorem se_X7_has : Cond.selects MX7_has.1.cls MX7_has.1 MX7_has.1 ∈ ztb := ztb_mem (List.mem_of_getElem? (i := 449) (by decide +kernel)) rfl
abbrev MX7_add : ZY := (yX7_add, cX7_add, 1, (some .int))
theorem cd_X7_add : Cond.code MX7_add.1 MX7_add.2.1 MX7_add.2.2.1 MX7_add.2.2.2 ∈ ztb := ztb_mem (List.mem_of_getElem? (i := 442) (by decide +kernel)) rfl
theorem si_X7_add : Cond.instanceMethod MX7_add.1 ∈ ztb := ztb_mem (List.mem_of_getElem? (i := 440) (by decide +kernel)) rfl
theorem se_X7_add : Cond.selects MX7_add.1.cls MX7_add.1 MX7_add.1 ∈ ztb := ztb_mem (List.mem_of_getElem? (i := 441) (by decide +kernel)) rfl
abbrev MX7_isSaid : ZY := (yX7_isSaid, cX7_isSaid, 2, (some .boolean))
theorem cd_X7_isSaid : Cond.code MX7_isSaid.1 MX7_isSaid.2.1 MX7_isSaid.2.2.1 MX7_isSaid.2.2.2 ∈ ztb := ztb_mem (List.mem_of_getElem? (i := 513) (by decide +kernel)) rfl
theorem si_X7_isSaid : Cond.instanceMethod MX7_isSaid.1 ∈ ztb := ztb_mem (List.mem_of_getElem? (i := 511) (by decide +kernel)) rfl
theorem se_X7_isSaid : Cond.selects MX7_isSaid.1.cls MX7_isSaid.1 MX7_isSaid.1 ∈ ztb := ztb_mem (List.mem_of_getElem? (i := 512) (by decide +kernel)) rfl
abbrev MX7_upCount : ZY := (yX7_upCount, cX7_upCount, 3, (some .int))
theorem cd_X7_upCount : Cond.code MX7_upCount.1 MX7_upCount.2.1 MX7_upCount.2.2.1 MX7_upCount.2.2.2 ∈ ztb := ztb_mem (List.mem_of_getElem? (i := 753) (by decide +kernel)) rfl
theorem si_X7_upCount : Cond.instanceMethod MX7_upCount.1 ∈ ztb := ztb_mem (List.mem_of_getElem? (i := 751) (by decide +kernel)) rfl
theorem se_X7_upCount : Cond.selects MX7_upCount.1.cls MX7_upCount.1 MX7_upCount.1 ∈ ztb := ztb_mem (List.mem_of_getElem? (i := 752) (by decide +kernel)) rfl
abbrev MX7_copy : ZY := (yX7_copy, cX7_copy, 3, none)
theorem cd_X7_copy : Cond.code MX7_copy.1 MX7_copy.2.1 MX7_copy.2.2.1 MX7_copy.2.2.2 ∈ ztb := ztb_mem (List.mem_of_getElem? (i := 617) (by decide +kernel)) rfl
theorem si_X7_copy : Cond.instanceMethod MX7_copy.1 ∈ ztb := ztb_mem (List.mem_of_getElem? (i := 615) (by decide +kernel)) rfl
theorem se_X7_copy : Cond.selects MX7_copy.1.cls MX7_copy.1 MX7_copy.1 ∈ ztb := ztb_mem (List.mem_of_getElem? (i := 616) (by decide +kernel)) rfl
abbrev MX8_init : ZY := (yX8_init, cX8_init, 6, none)
theorem cd_X8_init : Cond.code MX8_init.1 MX8_init.2.1 MX8_init.2.2.1 MX8_init.2.2.2 ∈ ztb := ztb_mem (List.mem_of_getElem? (i := 19) (by decide +kernel)) rfl
abbrev MX8_net : ZY := (yX8_net, cX8_net, 2, (some .int))
theorem cd_X8_net : Cond.code MX8_net.1 MX8_net.2.1 MX8_net.2.2.1 MX8_net.2.2.2 ∈ ztb := ztb_mem (List.mem_of_getElem? (i := 375) (by decide +kernel)) rfl
theorem si_X8_net : Cond.instanceMethod MX8_net.1 ∈ ztb := ztb_mem (List.mem_of_getElem? (i := 373) (by decide +kernel)) rfl
theorem se_X8_net : Cond.selects MX8_net.1.cls MX8_net.1 MX8_net.1 ∈ ztb := ztb_mem (List.mem_of_getElem? (i := 374) (by decide +kernel)) rfl
abbrev MX8_tie : ZY := (yX8_tie, cX8_tie, 4, (some .int))
theorem cd_X8_tie : Cond.code MX8_tie.1 MX8_tie.2.1 MX8_tie.2.2.1 MX8_tie.2.2.2 ∈ ztb := ztb_mem (List.mem_of_getElem? (i := 398) (by decide +kernel)) rfl
theorem si_X8_tie : Cond.instanceMethod MX8_tie.1 ∈ ztb := ztb_mem (List.mem_of_getElem? (i := 396) (by decide +kernel)) rfl
theorem se_X8_tie : Cond.selects MX8_tie.1.cls MX8_tie.1 MX8_tie.1 ∈ ztb := ztb_mem (List.mem_of_getElem? (i := 397) (by decide +kernel)) rfl
abbrev MX8_tied : ZY := (yX8_tied, cX8_tied, 3, (some .int))
theorem cd_X8_tied : Cond.code MX8_tied.1 MX8_tied.2.1 MX8_tied.2.2.1 MX8_tied.2.2.2 ∈ ztb := ztb_mem (List.mem_of_getElem? (i := 422) (by decide +kernel)) rfl
theorem si_X8_tied : Cond.instanceMethod MX8_tied.1 ∈ ztb := ztb_mem (List.mem_of_getElem? (i := 420) (by decide +kernel)) rfl
theorem se_X8_tied : Cond.selects MX8_tied.1.cls MX8_tied.1 MX8_tied.1 ∈ ztb := ztb_mem (List.mem_of_getElem? (i := 421) (by decide +kernel)) rfl
abbrev MX8_askers : ZY := (yX8_askers, cX8_askers, 3, (some .int))
theorem cd_X8_askers : Cond.code MX8_askers.1 MX8_askers.2.1 MX8_askers.2.2.1 MX8_askers.2.2.2 ∈ ztb := ztb_mem (List.mem_of_getElem? (i := 426) (by decide +kernel)) rfl
theorem si_X8_askers : Cond.instanceMethod MX8_askers.1 ∈ ztb := ztb_mem (List.mem_of_getElem? (i := 424) (by decide +kernel)) rfl
theorem se_X8_askers : Cond.selects MX8_askers.1.cls MX8_askers.1 MX8_askers.1 ∈ ztb := ztb_mem (List.mem_of_getElem? (i := 425) (by decide +kernel)) rfl
abbrev MX8_guess : ZY := (yX8_guess, cX8_guess, 3, (some .int))
theorem cd_X8_guess : Cond.code MX8_guess.1 MX8_guess.2.1 MX8_guess.2.2.1 MX8_guess.2.2.2 ∈ ztb := ztb_mem (List.mem_of_getElem? (i := 433) (by decide +kernel)) rfl
theorem si_X8_guess : Cond.instanceMethod MX8_guess.1 ∈ ztb := ztb_mem (List.mem_of_getElem? (i := 431) (by decide +kernel)) rfl
theorem se_X8_guess : Cond.selects MX8_guess.1.cls MX8_guess.1 MX8_guess.1 ∈ ztb := ztb_mem (List.mem_of_getElem? (i := 432) (by decide +kernel)) rfl
abbrev MX8_site : ZY := (yX8_site, cX8_site, 3, (some .int))
theorem cd_X8_site : Cond.code MX8_site.1 MX8_site.2.1 MX8_site.2.2.1 MX8_site.2.2.2 ∈ ztb := ztb_mem (List.mem_of_getElem? (i := 437) (by decide +kernel)) rfl
theorem si_X8_site : Cond.instanceMethod MX8_site.1 ∈ ztb := ztb_mem (List.mem_of_getElem? (i := 435) (by decide +kernel)) rfl
theorem se_X8_site : Cond.selects MX8_site.1.cls MX8_site.1 MX8_site.1 ∈ ztb := ztb_mem (List.mem_of_getElem? (i := 436) (by decide +kernel)) rfl
abbrev MX8_room : ZY := (yX8_room, cX8_room, 3, (some .int))
theorem cd_X8_room : Cond.code MX8_room.1 MX8_room.2.1 MX8_room.2.2.1 MX8_room.2.2.2 ∈ ztb := ztb_mem (List.mem_of_getElem? (i := 446) (by decide +kernel)) rfl
theorem si_X8_room : Cond.instanceMethod MX8_room.1 ∈ ztb := ztb_mem (List.mem_of_getElem? (i := 444) (by decide +kernel)) rfl
theorem se_X8_room : Cond.selects MX8_room.1.cls MX8_room.1 MX8_room.1 ∈ ztb := ztb_mem (List.mem_of_getElem? (i := 445) (by decide +kernel)) rfl
abbrev MX8_up : ZY := (yX8_up, cX8_up, 3, (some .int))
theorem cd_X8_up : Cond.code MX8_up.1 MX8_up.2.1 MX8_up.2.2.1 MX8_up.2.2.2 ∈ ztb := ztb_mem (List.mem_of_getElem? (i := 454) (by decide +kernel)) rfl
theorem si_X8_up : Cond.instanceMethod MX8_up.1 ∈ ztb := ztb_mem (List.mem_of_getElem? (i := 452) (by decide +kernel)) rfl
theorem se_X8_up : Cond.selects MX8_up.1.cls MX8_up.1 MX8_up.1 ∈ ztb := ztb_mem (List.mem_of_getElem? (i := 453) (by decide +kernel)) rfl
abbrev MX8_kind : ZY := (yX8_kind, cX8_kind, 3, (some .int))
theorem cd_X8_kind : Cond.code MX8_kind.1 MX8_kind.2.1 MX8_kind.2.2.1 MX8_kind.2.2.2 ∈ ztb := ztb_mem (List.mem_of_getElem? (i := 461) (by decide +kernel)) rfl
theorem si_X8_kind : Cond.instanceMethod MX8_kind.1 ∈ ztb := ztb_mem (List.mem_of_getElem? (i := 459) (by decide +kernel)) rfl
theorem se_X8_kind : Cond.selects MX8_kind.1.cls MX8_kind.1 MX8_kind.1 ∈ ztb := ztb_mem (List.mem_of_getElem? (i := 460) (by decide +kernel)) rfl
abbrev MX8_held : ZY := (yX8_held, cX8_held, 3, (some .int))
theorem cd_X8_held : Cond.code MX8_held.1 MX8_held.2.1 MX8_held.2.2.1 MX8_held.2.2.2 ∈ ztb := ztb_mem (List.mem_of_getElem? (i := 465) (by decide +kernel)) rfl
theorem si_X8_held : Cond.instanceMethod MX8_held.1 ∈ ztb := ztb_mem (List.mem_of_getElem? (i := 463) (by decide +kernel)) rfl
theorem se_X8_held : Cond.selects MX8_held.1.cls MX8_held.1 MX8_held.1 ∈ ztb := ztb_mem (List.mem_of_getElem? (i := 464) (by decide +kernel)) rfl
abbrev MX8_near : ZY := (yX8_near, cX8_near, 3, (some .int))
theorem cd_X8_near : Cond.code MX8_near.1 MX8_near.2.1 MX8_near.2.2.1 MX8_near.2.2.2 ∈ ztb := ztb_mem (List.mem_of_getElem? (i := 473) (by decide +kernel)) rfl
theorem si_X8_near : Cond.instanceMethod MX8_near.1 ∈ ztb := ztb_mem (List.mem_of_getElem? (i := 471) (by decide +kernel)) rfl
theorem se_X8_near : Cond.selects MX8_near.1.cls MX8_near.1 MX8_near.1 ∈ ztb := ztb_mem (List.mem_of_getElem? (i := 472) (by decide +kernel)) rfl
abbrev MX8_late : ZY := (yX8_late, cX8_late, 4, (some .int))
theorem cd_X8_late : Cond.code MX8_late.1 MX8_late.2.1 MX8_late.2.2.1 MX8_late.2.2.2 ∈ ztb := ztb_mem (List.mem_of_getElem? (i := 477) (by decide +kernel)) rfl
theorem si_X8_late : Cond.instanceMethod MX8_late.1 ∈ ztb := ztb_mem (List.mem_of_getElem? (i := 475) (by decide +kernel)) rfl
theorem se_X8_late : Cond.selects MX8_late.1.cls MX8_late.1 MX8_late.1 ∈ ztb := ztb_mem (List.mem_of_getElem? (i := 476) (by decide +kernel)) rfl
abbrev MX8_rounds : ZY := (yX8_rounds, cX8_rounds, 1, (some .int))
theorem cd_X8_rounds : Cond.code MX8_rounds.1 MX8_rounds.2.1 MX8_rounds.2.2.1 MX8_rounds.2.2.2 ∈ ztb := ztb_mem (List.mem_of_getElem? (i := 481) (by decide +kernel)) rfl
theorem si_X8_rounds : Cond.instanceMethod MX8_rounds.1 ∈ ztb := ztb_mem (List.mem_of_getElem? (i := 479) (by decide +kernel)) rfl
theorem se_X8_rounds : Cond.selects MX8_rounds.1.cls MX8_rounds.1 MX8_rounds.1 ∈ ztb := ztb_mem (List.mem_of_getElem? (i := 480) (by decide +kernel)) rfl
abbrev MX8_comes : ZY := (yX8_comes, cX8_comes, 3, (some .int))
theorem cd_X8_comes : Cond.code MX8_comes.1 MX8_comes.2.1 MX8_comes.2.2.1 MX8_comes.2.2.2 ∈ ztb := ztb_mem (List.mem_of_getElem? (i := 554) (by decide +kernel)) rfl
theorem si_X8_comes : Cond.instanceMethod MX8_comes.1 ∈ ztb := ztb_mem (List.mem_of_getElem? (i := 552) (by decide +kernel)) rfl
theorem se_X8_comes : Cond.selects MX8_comes.1.cls MX8_comes.1 MX8_comes.1 ∈ ztb := ztb_mem (List.mem_of_getElem? (i := 553) (by decide +kernel)) rfl
abbrev MX8_names : ZY := (yX8_names, cX8_names, 3, (some .int))
theorem cd_X8_names : Cond.code MX8_names.1 MX8_names.2.1 MX8_names.2.2.1 MX8_names.2.2.2 ∈ ztb := ztb_mem (List.mem_of_getElem? (i := 566) (by decide +kernel)) rfl
theorem si_X8_names : Cond.instanceMethod MX8_names.1 ∈ ztb := ztb_mem (List.mem_of_getElem? (i := 564) (by decide +kernel)) rfl
theorem se_X8_names : Cond.selects MX8_names.1.cls MX8_names.1 MX8_names.1 ∈ ztb := ztb_mem (List.mem_of_getElem? (i := 565) (by decide +kernel)) rfl
abbrev MX8_way : ZY := (yX8_way, cX8_way, 4, (some .int))
theorem cd_X8_way : Cond.code MX8_way.1 MX8_way.2.1 MX8_way.2.2.1 MX8_way.2.2.2 ∈ ztb := ztb_mem (List.mem_of_getElem? (i := 571) (by decide +kernel)) rfl
theorem si_X8_way : Cond.instanceMethod MX8_way.1 ∈ ztb := ztb_mem (List.mem_of_getElem? (i := 569) (by decide +kernel)) rfl
theorem se_X8_way : Cond.selects MX8_way.1.cls MX8_way.1 MX8_way.1 ∈ ztb := ztb_mem (List.mem_of_getElem? (i := 570) (by decide +kernel)) rfl
abbrev MX8_told : ZY := (yX8_told, cX8_told, 3, (some .int))
theorem cd_X8_told : Cond.code MX8_told.1 MX8_told.2.1 MX8_told.2.2.1 MX8_told.2.2.2 ∈ ztb := ztb_mem (List.mem_of_getElem? (i := 576) (by decide +kernel)) rfl
theorem si_X8_told : Cond.instanceMethod MX8_told.1 ∈ ztb := ztb_mem (List.mem_of_getElem? (i := 574) (by decide +kernel)) rfl
theorem se_X8_told : Cond.selects MX8_told.1.cls MX8_told.1 MX8_told.1 ∈ ztb := ztb_mem (List.mem_of_getElem? (i := 575) (by decide +kernel)) rfl
abbrev MX8_why : ZY := (yX8_why, cX8_why, 3, (some .int))
theorem cd_X8_why : Cond.code MX8_why.1 MX8_why.2.1 MX8_why.2.2.1 MX8_why.2.2.2 ∈ ztb := ztb_mem (List.mem_of_getElem? (i := 581) (by decide +kernel)) rfl
theorem si_X8_why : Cond.instanceMethod MX8_why.1 ∈ ztb := ztb_mem (List.mem_of_getElem? (i := 579) (by decide +kernel)) rfl
theorem se_X8_why : Cond.selects MX8_why.1.cls MX8_why.1 MX8_why.1 ∈ ztb := ztb_mem (List.mem_of_getElem? (i := 580) (by decide +kernel)) rfl
abbrev MX8_load : ZY := (yX8_load, cX8_load, 5, (some .int))
theorem cd_X8_load : Cond.code MX8_load.1 MX8_load.2.1 MX8_load.2.2.1 MX8_load.2.2.2 ∈ ztb := ztb_mem (List.mem_of_getElem? (i := 595) (by decide +kernel)) rfl
theorem si_X8_load : Cond.instanceMethod MX8_load.1 ∈ ztb := ztb_mem (List.mem_of_getElem? (i := 593) (by decide +kernel)) rfl
theorem se_X8_load : Cond.selects MX8_load.1.cls MX8_load.1 MX8_load.1 ∈ ztb := ztb_mem (List.mem_of_getElem? (i := 594) (by decide +kernel)) rfl
abbrev MX8_excess : ZY := (yX8_excess, cX8_excess, 1, (some .int))
theorem cd_X8_excess : Cond.code MX8_excess.1 MX8_excess.2.1 MX8_excess.2.2.1 MX8_excess.2.2.2 ∈ ztb := ztb_mem (List.mem_of_getElem? (i := 599) (by decide +kernel)) rfl
theorem si_X8_excess : Cond.instanceMethod MX8_excess.1 ∈ ztb := ztb_mem (List.mem_of_getElem? (i := 597) (by decide +kernel)) rfl
theorem se_X8_excess : Cond.selects MX8_excess.1.cls MX8_excess.1 MX8_excess.1 ∈ ztb := ztb_mem (List.mem_of_getElem? (i := 598) (by decide +kernel)) rfl
abbrev MX8_sum : ZY := (yX8_sum, cX8_sum, 2, (some .long))
theorem cd_X8_sum : Cond.code MX8_sum.1 MX8_sum.2.1 MX8_sum.2.2.1 MX8_sum.2.2.2 ∈ ztb := ztb_mem (List.mem_of_getElem? (i := 637) (by decide +kernel)) rfl
theorem si_X8_sum : Cond.instanceMethod MX8_sum.1 ∈ ztb := ztb_mem (List.mem_of_getElem? (i := 635) (by decide +kernel)) rfl
theorem se_X8_sum : Cond.selects MX8_sum.1.cls MX8_sum.1 MX8_sum.1 ∈ ztb := ztb_mem (List.mem_of_getElem? (i := 636) (by decide +kernel)) rfl
abbrev MX8_without : ZY := (yX8_without, cX8_without, 2, (some .int))
theorem cd_X8_without : Cond.code MX8_without.1 MX8_without.2.1 MX8_without.2.2.1 MX8_without.2.2.2 ∈ ztb := ztb_mem (List.mem_of_getElem? (i := 642) (by decide +kernel)) rfl
theorem si_X8_without : Cond.instanceMethod MX8_without.1 ∈ ztb := ztb_mem (List.mem_of_getElem? (i := 640) (by decide +kernel)) rfl
theorem se_X8_without : Cond.selects MX8_without.1.cls MX8_without.1 MX8_without.1 ∈ ztb := ztb_mem (List.mem_of_getElem? (i := 641) (by decide +kernel)) rfl
abbrev MX8_moves : ZY := (yX8_moves, cX8_moves, 6, (some .int))
theorem cd_X8_moves : Cond.code MX8_moves.1 MX8_moves.2.1 MX8_moves.2.2.1 MX8_moves.2.2.2 ∈ ztb := ztb_mem (List.mem_of_getElem? (i := 646) (by decide +kernel)) rfl
theorem si_X8_moves : Cond.instanceMethod MX8_moves.1 ∈ ztb := ztb_mem (List.mem_of_getElem? (i := 644) (by decide +kernel)) rfl
theorem se_X8_moves : Cond.selects MX8_moves.1.cls MX8_moves.1 MX8_moves.1 ∈ ztb := ztb_mem (List.mem_of_getElem? (i := 645) (by decide +kernel)) rfl
abbrev MX8_trial : ZY := (yX8_trial, cX8_trial, 1, (some .int))
theorem cd_X8_trial : Cond.code MX8_trial.1 MX8_trial.2.1 MX8_trial.2.2.1 MX8_trial.2.2.2 ∈ ztb := ztb_mem (List.mem_of_getElem? (i := 658) (by decide +kernel)) rfl
theorem si_X8_trial : Cond.instanceMethod MX8_trial.1 ∈ ztb := ztb_mem (List.mem_of_getElem? (i := 656) (by decide +kernel)) rfl
theorem se_X8_trial : Cond.selects MX8_trial.1.cls MX8_trial.1 MX8_trial.1 ∈ ztb := ztb_mem (List.mem_of_getElem? (i := 657) (by decide +kernel)) rfl
abbrev MX8_seen : ZY := (yX8_seen, cX8_seen, 5, (some .int))
theorem cd_X8_seen : Cond.code MX8_seen.1 MX8_seen.2.1 MX8_seen.2.2.1 MX8_seen.2.2.2 ∈ ztb := ztb_mem (List.mem_of_getElem? (i := 667) (by decide +kernel)) rfl
theorem si_X8_seen : Cond.instanceMethod MX8_seen.1 ∈ ztb := ztb_mem (List.mem_of_getElem? (i := 665) (by decide +kernel)) rfl
theorem se_X8_seen : Cond.selects MX8_seen.1.cls MX8_seen.1 MX8_seen.1 ∈ ztb := ztb_mem (List.mem_of_getElem? (i := 666) (by decide +kernel)) rfl
abbrev MX8_cases : ZY := (yX8_cases, cX8_cases, 2, (some .int))
theorem cd_X8_cases : Cond.code MX8_cases.1 MX8_cases.2.1 MX8_cases.2.2.1 MX8_cases.2.2.2 ∈ ztb := ztb_mem (List.mem_of_getElem? (i := 671) (by decide +kernel)) rfl
theorem si_X8_cases : Cond.instanceMethod MX8_cases.1 ∈ ztb := ztb_mem (List.mem_of_getElem? (i := 669) (by decide +kernel)) rfl
theorem se_X8_cases : Cond.selects MX8_cases.1.cls MX8_cases.1 MX8_cases.1 ∈ ztb := ztb_mem (List.mem_of_getElem? (i := 670) (by decide +kernel)) rfl
abbrev MX8_agree : ZY := (yX8_agree, cX8_agree, 1, (some .int))
theorem cd_X8_agree : Cond.code MX8_agree.1 MX8_agree.2.1 MX8_agree.2.2.1 MX8_agree.2.2.2 ∈ ztb := ztb_mem (List.mem_of_getElem? (i := 685) (by decide +kernel)) rfl
theorem si_X8_agree : Cond.instanceMethod MX8_agree.1 ∈ ztb := ztb_mem (List.mem_of_getElem? (i := 683) (by decide +kernel)) rfl
theorem se_X8_agree : Cond.selects MX8_agree.1.cls MX8_agree.1 MX8_agree.1 ∈ ztb := ztb_mem (List.mem_of_getElem? (i := 684) (by decide +kernel)) rfl
abbrev MX8_could : ZY := (yX8_could, cX8_could, 2, (some .int))
theorem cd_X8_could : Cond.code MX8_could.1 MX8_could.2.1 MX8_could.2.2.1 MX8_could.2.2.2 ∈ ztb := ztb_mem (List.mem_of_getElem? (i := 720) (by decide +kernel)) rfl
theorem si_X8_could : Cond.instanceMethod MX8_could.1 ∈ ztb := ztb_mem (List.mem_of_getElem? (i := 718) (by decide +kernel)) rfl
theorem se_X8_could : Cond.selects MX8_could.1.cls MX8_could.1 MX8_could.1 ∈ ztb := ztb_mem (List.mem_of_getElem? (i := 719) (by decide +kernel)) rfl
abbrev MX8_rules : ZY := (yX8_rules, cX8_rules, 2, (some .int))
theorem cd_X8_rules : Cond.code MX8_rules.1 MX8_rules.2.1 MX8_rules.2.2.1 MX8_rules.2.2.2 ∈ ztb := ztb_mem (List.mem_of_getElem? (i := 733) (by decide +kernel)) rfl
theorem si_X8_rules : Cond.instanceMethod MX8_rules.1 ∈ ztb := ztb_mem (List.mem_of_getElem? (i := 731) (by decide +kernel)) rfl
theorem se_X8_rules : Cond.selects MX8_rules.1.cls MX8_rules.1 MX8_rules.1 ∈ ztb := ztb_mem (List.mem_of_getElem? (i := 732) (by decide +kernel)) rfl
abbrev MX8_learn : ZY := (yX8_learn, cX8_learn, 2, (some .int))
theorem cd_X8_learn : Cond.code MX8_learn.1 MX8_learn.2.1 MX8_learn.2.2.1 MX8_learn.2.2.2 ∈ ztb := ztb_mem (List.mem_of_getElem? (i := 741) (by decide +kernel)) rfl
theorem si_X8_learn : Cond.instanceMethod MX8_learn.1 ∈ ztb := ztb_mem (List.mem_of_getElem? (i := 739) (by decide +kernel)) rfl
theorem se_X8_learn : Cond.selects MX8_learn.1.cls MX8_learn.1 MX8_learn.1 ∈ ztb := ztb_mem (List.mem_of_getElem? (i := 740) (by decide +kernel)) rfl
abbrev MX8_quarrel : ZY := (yX8_quarrel, cX8_quarrel, 1, (some .int))
theorem cd_X8_quarrel : Cond.code MX8_quarrel.1 MX8_quarrel.2.1 MX8_quarrel.2.2.1 MX8_quarrel.2.2.2 ∈ ztb := ztb_mem (List.mem_of_getElem? (i := 745) (by decide +kernel)) rfl
theorem si_X8_quarrel : Cond.instanceMethod MX8_quarrel.1 ∈ ztb := ztb_mem (List.mem_of_getElem? (i := 743) (by decide +kernel)) rfl
theorem se_X8_quarrel : Cond.selects MX8_quarrel.1.cls MX8_quarrel.1 MX8_quarrel.1 ∈ ztb := ztb_mem (List.mem_of_getElem? (i := 744) (by decide +kernel)) rfl
abbrev MX8_next : ZY := (yX8_next, cX8_next, 2, (some .int))
theorem cd_X8_next : Cond.code MX8_next.1 MX8_next.2.1 MX8_next.2.2.1 MX8_next.2.2.2 ∈ ztb := ztb_mem (List.mem_of_getElem? (i := 749) (by decide +kernel)) rfl
theorem si_X8_next : Cond.instanceMethod MX8_next.1 ∈ ztb := ztb_mem (List.mem_of_getElem? (i := 747) (by decide +kernel)) rfl
theorem se_X8_next : Cond.selects MX8_next.1.cls MX8_next.1 MX8_next.1 ∈ ztb := ztb_mem (List.mem_of_getElem? (i := 748) (by decide +kernel)) rfl
abbrev MX8_best : ZY := (yX8_best, cX8_best, 2, (some .int))
theorem cd_X8_best : Cond.code MX8_best.1 MX8_best.2.1 MX8_best.2.2.1 MX8_best.2.2.2 ∈ ztb := ztb_mem (List.mem_of_getElem? (i := 770) (by decide +kernel)) rfl
theorem si_X8_best : Cond.instanceMethod MX8_best.1 ∈ ztb := ztb_mem (List.mem_of_getElem? (i := 768) (by decide +kernel)) rfl
theorem se_X8_best : Cond.selects MX8_best.1.cls MX8_best.1 MX8_best.1 ∈ ztb := ztb_mem (List.mem_of_getElem? (i := 769) (by decide +kernel)) rfl
abbrev MX8_bestSum : ZY := (yX8_bestSum, cX8_bestSum, 2, (some .long))
theorem cd_X8_bestSum : Cond.code MX8_bestSum.1 MX8_bestSum.2.1 MX8_bestSum.2.2.1 MX8_bestSum.2.2.2 ∈ ztb := ztb_mem (List.mem_of_getElem? (i := 804) (by decide +kernel)) rfl
theorem si_X8_bestSum : Cond.instanceMethod MX8_bestSum.1 ∈ ztb := ztb_mem (List.mem_of_getElem? (i := 802) (by decide +kernel)) rfl
theorem se_X8_bestSum : Cond.selects MX8_bestSum.1.cls MX8_bestSum.1 MX8_bestSum.1 ∈ ztb := ztb_mem (List.mem_of_getElem? (i := 803) (by decide +kernel)) rfl
abbrev MX8_bestKind : ZY := (yX8_bestKind, cX8_bestKind, 3, (some .int))
theorem cd_X8_bestKind : Cond.code MX8_bestKind.1 MX8_bestKind.2.1 MX8_bestKind.2.2.1 MX8_bestKind.2.2.2 ∈ ztb := ztb_mem (List.mem_of_getElem? (i := 809) (by decide +kernel)) rfl
theorem si_X8_bestKind : Cond.instanceMethod MX8_bestKind.1 ∈ ztb := ztb_mem (List.mem_of_getElem? (i := 807) (by decide +kernel)) rfl
theorem se_X8_bestKind : Cond.selects MX8_bestKind.1.cls MX8_bestKind.1 MX8_bestKind.1 ∈ ztb := ztb_mem (List.mem_of_getElem? (i := 808) (by decide +kernel)) rfl
abbrev MX8_aim : ZY := (yX8_aim, cX8_aim, 4, (some .int))
theorem cd_X8_aim : Cond.code MX8_aim.1 MX8_aim.2.1 MX8_aim.2.2.1 MX8_aim.2.2.2 ∈ ztb := ztb_mem (List.mem_of_getElem? (i := 813) (by decide +kernel)) rfl
theorem si_X8_aim : Cond.instanceMethod MX8_aim.1 ∈ ztb := ztb_mem (List.mem_of_getElem? (i := 811) (by decide +kernel)) rfl
theorem se_X8_aim : Cond.selects MX8_aim.1.cls MX8_aim.1 MX8_aim.1 ∈ ztb := ztb_mem (List.mem_of_getElem? (i := 812) (by decide +kernel)) rfl
abbrev MX8_steps : ZY := (yX8_steps, cX8_steps, 1, (some .int))
theorem cd_X8_steps : Cond.code MX8_steps.1 MX8_steps.2.1 MX8_steps.2.2.1 MX8_steps.2.2.2 ∈ ztb := ztb_mem (List.mem_of_getElem? (i := 821) (by decide +kernel)) rfl
theorem si_X8_steps : Cond.instanceMethod MX8_steps.1 ∈ ztb := ztb_mem (List.mem_of_getElem? (i := 819) (by decide +kernel)) rfl
theorem se_X8_steps : Cond.selects MX8_steps.1.cls MX8_steps.1 MX8_steps.1 ∈ ztb := ztb_mem (List.mem_of_getElem? (i := 820) (by decide +kernel)) rfl
abbrev MX8_step : ZY := (yX8_step, cX8_step, 2, (some .int))
theorem cd_X8_step : Cond.code MX8_step.1 MX8_step.2.1 MX8_step.2.2.1 MX8_step.2.2.2 ∈ ztb := ztb_mem (List.mem_of_getElem? (i := 831) (by decide +kernel)) rfl
theorem si_X8_step : Cond.instanceMethod MX8_step.1 ∈ ztb := ztb_mem (List.mem_of_getElem? (i := 829) (by decide +kernel)) rfl
theorem se_X8_step : Cond.selects MX8_step.1.cls MX8_step.1 MX8_step.1 ∈ ztb := ztb_mem (List.mem_of_getElem? (i := 830) (by decide +kernel)) rfl
abbrev MX8_stepWorst : ZY := (yX8_stepWorst, cX8_stepWorst, 1, (some .int))
theorem cd_X8_stepWorst : Cond.code MX8_stepWorst.1 MX8_stepWorst.2.1 MX8_stepWorst.2.2.1 MX8_stepWorst.2.2.2 ∈ ztb := ztb_mem (List.mem_of_getElem? (i := 863) (by decide +kernel)) rfl
theorem si_X8_stepWorst : Cond.instanceMethod MX8_stepWorst.1 ∈ ztb := ztb_mem (List.mem_of_getElem? (i := 861) (by decide +kernel)) rfl
theorem se_X8_stepWorst : Cond.selects MX8_stepWorst.1.cls MX8_stepWorst.1 MX8_stepWorst.1 ∈ ztb := ztb_mem (List.mem_of_getElem? (i := 862) (by decide +kernel)) rfl
abbrev MX8_go : ZY := (yX8_go, cX8_go, 2, (some .int))
theorem cd_X8_go : Cond.code MX8_go.1 MX8_go.2.1 MX8_go.2.2.1 MX8_go.2.2.2 ∈ ztb := ztb_mem (List.mem_of_getElem? (i := 867) (by decide +kernel)) rfl
theorem si_X8_go : Cond.instanceMethod MX8_go.1 ∈ ztb := ztb_mem (List.mem_of_getElem? (i := 865) (by decide +kernel)) rfl
theorem se_X8_go : Cond.selects MX8_go.1.cls MX8_go.1 MX8_go.1 ∈ ztb := ztb_mem (List.mem_of_getElem? (i := 866) (by decide +kernel)) rfl
abbrev MX8_count : ZY := (yX8_count, cX8_count, 2, (some .int))
theorem cd_X8_count : Cond.code MX8_count.1 MX8_count.2.1 MX8_count.2.2.1 MX8_count.2.2.2 ∈ ztb := ztb_mem (List.mem_of_getElem? (i := 871) (by decide +kernel)) rfl
theorem si_X8_count : Cond.instanceMethod MX8_count.1 ∈ ztb := ztb_mem (List.mem_of_getElem? (i := 869) (by decide +kernel)) rfl
theorem se_X8_count : Cond.selects MX8_count.1.cls MX8_count.1 MX8_count.1 ∈ ztb := ztb_mem (List.mem_of_getElem? (i := 870) (by decide +kernel)) rfl
abbrev MX8_within : ZY := (yX8_within, cX8_within, 2, (some .boolean))
theorem cd_X8_within : Cond.code MX8_within.1 MX8_within.2.1 MX8_within.2.2.1 MX8_within.2.2.2 ∈ ztb := ztb_mem (List.mem_of_getElem? (i := 378) (by decide +kernel)) rfl
theorem ss_X8_within : Cond.static MX8_within.1 ∈ ztb := ztb_mem (List.mem_of_getElem? (i := 377) (by decide +kernel)) rfl
abbrev MX8_put : ZY := (yX8_put, cX8_put, 4, (some .int))
theorem cd_X8_put : Cond.code MX8_put.1 MX8_put.2.1 MX8_put.2.2.1 MX8_put.2.2.2 ∈ ztb := ztb_mem (List.mem_of_getElem? (i := 429) (by decide +kernel)) rfl
theorem ss_X8_put : Cond.static MX8_put.1 ∈ ztb := ztb_mem (List.mem_of_getElem? (i := 428) (by decide +kernel)) rfl
abbrev MX8_put_ : ZY := (yX8_put_, cX8_put_, 4, (some .int))
theorem cd_X8_put_ : Cond.code MX8_put_.1 MX8_put_.2.1 MX8_put_.2.2.1 MX8_put_.2.2.2 ∈ ztb := ztb_mem (List.mem_of_getElem? (i := 457) (by decide +kernel)) rfl
theorem ss_X8_put_ : Cond.static MX8_put_.1 ∈ ztb := ztb_mem (List.mem_of_getElem? (i := 456) (by decide +kernel)) rfl
abbrev MX8_stateIfNone : ZY := (yX8_stateIfNone, cX8_stateIfNone, 1, (some .int))
theorem cd_X8_stateIfNone : Cond.code MX8_stateIfNone.1 MX8_stateIfNone.2.1 MX8_stateIfNone.2.2.1 MX8_stateIfNone.2.2.2 ∈ ztb := ztb_mem (List.mem_of_getElem? (i := 633) (by decide +kernel)) rfl
theorem ss_X8_stateIfNone : Cond.static MX8_stateIfNone.1 ∈ ztb := ztb_mem (List.mem_of_getElem? (i := 632) (by decide +kernel)) rfl
abbrev MX8_forgetAll : ZY := (yX8_forgetAll, cX8_forgetAll, 1, none)
theorem cd_X8_forgetAll : Cond.code MX8_forgetAll.1 MX8_forgetAll.2.1 MX8_forgetAll.2.2.1 MX8_forgetAll.2.2.2 ∈ ztb := ztb_mem (List.mem_of_getElem? (i := 382) (by decide +kernel)) rfl
theorem si_X8_forgetAll : Cond.instanceMethod MX8_forgetAll.1 ∈ ztb := ztb_mem (List.mem_of_getElem? (i := 381) (by decide +kernel)) rfl
theorem se_X8_forgetAll : Cond.selects MX8_forgetAll.1.cls MX8_forgetAll.1 MX8_forgetAll.1 ∈ ztb := ztb_sel (List.mem_of_getElem? (i := 0) (by decide +kernel)) rfl
abbrev MX8_settleNow : ZY := (yX8_settleNow, cX8_settleNow, 1, (some .int))
theorem cd_X8_settleNow : Cond.code MX8_settleNow.1 MX8_settleNow.2.1 MX8_settleNow.2.2.1 MX8_settleNow.2.2.2 ∈ ztb := ztb_mem (List.mem_of_getElem? (i := 485) (by decide +kernel)) rfl
theorem si_X8_settleNow : Cond.instanceMethod MX8_settleNow.1 ∈ ztb := ztb_mem (List.mem_of_getElem? (i := 484) (by decide +kernel)) rfl
theorem se_X8_settleNow : Cond.selects MX8_settleNow.1.cls MX8_settleNow.1 MX8_settleNow.1 ∈ ztb := ztb_sel (List.mem_of_getElem? (i := 1) (by decide +kernel)) rfl
abbrev MX8_restRefusal : ZY := (yX8_restRefusal, cX8_restRefusal, 2, (some .int))
theorem cd_X8_restRefusal : Cond.code MX8_restRefusal.1 MX8_restRefusal.2.1 MX8_restRefusal.2.2.1 MX8_restRefusal.2.2.2 ∈ ztb := ztb_mem (List.mem_of_getElem? (i := 558) (by decide +kernel)) rfl
theorem si_X8_restRefusal : Cond.instanceMethod MX8_restRefusal.1 ∈ ztb := ztb_mem (List.mem_of_getElem? (i := 557) (by decide +kernel)) rfl
theorem se_X8_restRefusal : Cond.selects MX8_restRefusal.1.cls MX8_restRefusal.1 MX8_restRefusal.1 ∈ ztb := ztb_sel (List.mem_of_getElem? (i := 6) (by decide +kernel)) rfl
abbrev MX9_init : ZY := (yX9_init, cX9_init, 1, none)
theorem cd_X9_init : Cond.code MX9_init.1 MX9_init.2.1 MX9_init.2.2.1 MX9_init.2.2.2 ∈ ztb := ztb_mem (List.mem_of_getElem? (i := 884) (by decide +kernel)) rfl
abbrev MX9_in : ZY := (yX9_in, cX9_in, 6, (some .boolean))
theorem cd_X9_in : Cond.code MX9_in.1 MX9_in.2.1 MX9_in.2.2.1 MX9_in.2.2.2 ∈ ztb := ztb_mem (List.mem_of_getElem? (i := 1065) (by decide +kernel)) rfl
theorem ss_X9_in : Cond.static MX9_in.1 ∈ ztb := ztb_mem (List.mem_of_getElem? (i := 1064) (by decide +kernel)) rfl
abbrev MX9_isNet : ZY := (yX9_isNet, cX9_isNet, 2, (some .boolean))
theorem cd_X9_isNet : Cond.code MX9_isNet.1 MX9_isNet.2.1 MX9_isNet.2.2.1 MX9_isNet.2.2.2 ∈ ztb := ztb_mem (List.mem_of_getElem? (i := 1073) (by decide +kernel)) rfl
theorem si_X9_isNet : Cond.instanceMethod MX9_isNet.1 ∈ ztb := ztb_mem (List.mem_of_getElem? (i := 1072) (by decide +kernel)) rfl
theorem se_X9_isNet : Cond.selects MX9_isNet.1.cls MX9_isNet.1 MX9_isNet.1 ∈ ztb := ztb_sel (List.mem_of_getElem? (i := 25) (by decide +kernel)) rfl
abbrev MX9_isSite : ZY := (yX9_isSite, cX9_isSite, 2, (some .boolean))
theorem cd_X9_isSite : Cond.code MX9_isSite.1 MX9_isSite.2.1 MX9_isSite.2.2.1 MX9_isSite.2.2.2 ∈ ztb := ztb_mem (List.mem_of_getElem? (i := 1103) (by decide +kernel)) rfl
theorem si_X9_isSite : Cond.instanceMethod MX9_isSite.1 ∈ ztb := ztb_mem (List.mem_of_getElem? (i := 1102) (by decide +kernel)) rfl
theorem se_X9_isSite : Cond.selects MX9_isSite.1.cls MX9_isSite.1 MX9_isSite.1 ∈ ztb := ztb_sel (List.mem_of_getElem? (i := 27) (by decide +kernel)) rfl
abbrev MX9_net : ZY := (yX9_net, cX9_net, 2, (some .int))
theorem cd_X9_net : Cond.code MX9_net.1 MX9_net.2.1 MX9_net.2.2.1 MX9_net.2.2.2 ∈ ztb := ztb_mem (List.mem_of_getElem? (i := 1061) (by decide +kernel)) rfl
theorem si_X9_net : Cond.instanceMethod MX9_net.1 ∈ ztb := ztb_mem (List.mem_of_getElem? (i := 1059) (by decide +kernel)) rfl
theorem se_X9_net : Cond.selects MX9_net.1.cls MX9_net.1 MX9_net.1 ∈ ztb := ztb_mem (List.mem_of_getElem? (i := 1060) (by decide +kernel)) rfl
abbrev MX9_buysFrom : ZY := (yX9_buysFrom, cX9_buysFrom, 6, (some .boolean))
theorem cd_X9_buysFrom : Cond.code MX9_buysFrom.1 MX9_buysFrom.2.1 MX9_buysFrom.2.2.1 MX9_buysFrom.2.2.2 ∈ ztb := ztb_mem (List.mem_of_getElem? (i := 1077) (by decide +kernel)) rfl
theorem si_X9_buysFrom : Cond.instanceMethod MX9_buysFrom.1 ∈ ztb := ztb_mem (List.mem_of_getElem? (i := 1076) (by decide +kernel)) rfl
theorem se_X9_buysFrom : Cond.selects MX9_buysFrom.1.cls MX9_buysFrom.1 MX9_buysFrom.1 ∈ ztb := ztb_sel (List.mem_of_getElem? (i := 26) (by decide +kernel)) rfl
abbrev MX9_tie : ZY := (yX9_tie, cX9_tie, 4, (some .int))
theorem cd_X9_tie : Cond.code MX9_tie.1 MX9_tie.2.1 MX9_tie.2.2.1 MX9_tie.2.2.2 ∈ ztb := ztb_mem (List.mem_of_getElem? (i := 1069) (by decide +kernel)) rfl
theorem si_X9_tie : Cond.instanceMethod MX9_tie.1 ∈ ztb := ztb_mem (List.mem_of_getElem? (i := 1067) (by decide +kernel)) rfl
theorem se_X9_tie : Cond.selects MX9_tie.1.cls MX9_tie.1 MX9_tie.1 ∈ ztb := ztb_mem (List.mem_of_getElem? (i := 1068) (by decide +kernel)) rfl
abbrev MX9_tied : ZY := (yX9_tied, cX9_tied, 3, (some .int))
theorem cd_X9_tied : Cond.code MX9_tied.1 MX9_tied.2.1 MX9_tied.2.2.1 MX9_tied.2.2.2 ∈ ztb := ztb_mem (List.mem_of_getElem? (i := 1081) (by decide +kernel)) rfl
theorem si_X9_tied : Cond.instanceMethod MX9_tied.1 ∈ ztb := ztb_mem (List.mem_of_getElem? (i := 1079) (by decide +kernel)) rfl
theorem se_X9_tied : Cond.selects MX9_tied.1.cls MX9_tied.1 MX9_tied.1 ∈ ztb := ztb_mem (List.mem_of_getElem? (i := 1080) (by decide +kernel)) rfl
abbrev MX9_askers : ZY := (yX9_askers, cX9_askers, 4, (some .int))
theorem cd_X9_askers : Cond.code MX9_askers.1 MX9_askers.2.1 MX9_askers.2.2.1 MX9_askers.2.2.2 ∈ ztb := ztb_mem (List.mem_of_getElem? (i := 1085) (by decide +kernel)) rfl
theorem si_X9_askers : Cond.instanceMethod MX9_askers.1 ∈ ztb := ztb_mem (List.mem_of_getElem? (i := 1083) (by decide +kernel)) rfl
theorem se_X9_askers : Cond.selects MX9_askers.1.cls MX9_askers.1 MX9_askers.1 ∈ ztb := ztb_mem (List.mem_of_getElem? (i := 1084) (by decide +kernel)) rfl
abbrev MX9_guess : ZY := (yX9_guess, cX9_guess, 4, (some .int))
theorem cd_X9_guess : Cond.code MX9_guess.1 MX9_guess.2.1 MX9_guess.2.2.1 MX9_guess.2.2.2 ∈ ztb := ztb_mem (List.mem_of_getElem? (i := 1089) (by decide +kernel)) rfl
theorem si_X9_guess : Cond.instanceMethod MX9_guess.1 ∈ ztb := ztb_mem (List.mem_of_getElem? (i := 1087) (by decide +kernel)) rfl
theorem se_X9_guess : Cond.selects MX9_guess.1.cls MX9_guess.1 MX9_guess.1 ∈ ztb := ztb_mem (List.mem_of_getElem? (i := 1088) (by decide +kernel)) rfl
abbrev MX9_site : ZY := (yX9_site, cX9_site, 3, (some .int))
theorem cd_X9_site : Cond.code MX9_site.1 MX9_site.2.1 MX9_site.2.2.1 MX9_site.2.2.2 ∈ ztb := ztb_mem (List.mem_of_getElem? (i := 1094) (by decide +kernel)) rfl
theorem si_X9_site : Cond.instanceMethod MX9_site.1 ∈ ztb := ztb_mem (List.mem_of_getElem? (i := 1092) (by decide +kernel)) rfl
theorem se_X9_site : Cond.selects MX9_site.1.cls MX9_site.1 MX9_site.1 ∈ ztb := ztb_mem (List.mem_of_getElem? (i := 1093) (by decide +kernel)) rfl
abbrev MX9_room : ZY := (yX9_room, cX9_room, 4, (some .int))
theorem cd_X9_room : Cond.code MX9_room.1 MX9_room.2.1 MX9_room.2.2.1 MX9_room.2.2.2 ∈ ztb := ztb_mem (List.mem_of_getElem? (i := 1099) (by decide +kernel)) rfl
theorem si_X9_room : Cond.instanceMethod MX9_room.1 ∈ ztb := ztb_mem (List.mem_of_getElem? (i := 1097) (by decide +kernel)) rfl
theorem se_X9_room : Cond.selects MX9_room.1.cls MX9_room.1 MX9_room.1 ∈ ztb := ztb_mem (List.mem_of_getElem? (i := 1098) (by decide +kernel)) rfl
abbrev MX9_up : ZY := (yX9_up, cX9_up, 4, (some .int))
theorem cd_X9_up : Cond.code MX9_up.1 MX9_up.2.1 MX9_up.2.2.1 MX9_up.2.2.2 ∈ ztb := ztb_mem (List.mem_of_getElem? (i := 1107) (by decide +kernel)) rfl
theorem si_X9_up : Cond.instanceMethod MX9_up.1 ∈ ztb := ztb_mem (List.mem_of_getElem? (i := 1105) (by decide +kernel)) rfl
theorem se_X9_up : Cond.selects MX9_up.1.cls MX9_up.1 MX9_up.1 ∈ ztb := ztb_mem (List.mem_of_getElem? (i := 1106) (by decide +kernel)) rfl
abbrev MX9_kind : ZY := (yX9_kind, cX9_kind, 4, (some .int))
theorem cd_X9_kind : Cond.code MX9_kind.1 MX9_kind.2.1 MX9_kind.2.2.1 MX9_kind.2.2.2 ∈ ztb := ztb_mem (List.mem_of_getElem? (i := 1111) (by decide +kernel)) rfl
theorem si_X9_kind : Cond.instanceMethod MX9_kind.1 ∈ ztb := ztb_mem (List.mem_of_getElem? (i := 1109) (by decide +kernel)) rfl
theorem se_X9_kind : Cond.selects MX9_kind.1.cls MX9_kind.1 MX9_kind.1 ∈ ztb := ztb_mem (List.mem_of_getElem? (i := 1110) (by decide +kernel)) rfl
abbrev MX9_held : ZY := (yX9_held, cX9_held, 4, (some .int))
theorem cd_X9_held : Cond.code MX9_held.1 MX9_held.2.1 MX9_held.2.2.1 MX9_held.2.2.2 ∈ ztb := ztb_mem (List.mem_of_getElem? (i := 1116) (by decide +kernel)) rfl
theorem si_X9_held : Cond.instanceMethod MX9_held.1 ∈ ztb := ztb_mem (List.mem_of_getElem? (i := 1114) (by decide +kernel)) rfl
theorem se_X9_held : Cond.selects MX9_held.1.cls MX9_held.1 MX9_held.1 ∈ ztb := ztb_mem (List.mem_of_getElem? (i := 1115) (by decide +kernel)) rfl
abbrev MX9_near : ZY := (yX9_near, cX9_near, 4, (some .int))
theorem cd_X9_near : Cond.code MX9_near.1 MX9_near.2.1 MX9_near.2.2.1 MX9_near.2.2.2 ∈ ztb := ztb_mem (List.mem_of_getElem? (i := 1120) (by decide +kernel)) rfl
theorem si_X9_near : Cond.instanceMethod MX9_near.1 ∈ ztb := ztb_mem (List.mem_of_getElem? (i := 1118) (by decide +kernel)) rfl
theorem se_X9_near : Cond.selects MX9_near.1.cls MX9_near.1 MX9_near.1 ∈ ztb := ztb_mem (List.mem_of_getElem? (i := 1119) (by decide +kernel)) rfl
abbrev MX9_late : ZY := (yX9_late, cX9_late, 5, (some .int))
theorem cd_X9_late : Cond.code MX9_late.1 MX9_late.2.1 MX9_late.2.2.1 MX9_late.2.2.2 ∈ ztb := ztb_mem (List.mem_of_getElem? (i := 1124) (by decide +kernel)) rfl
theorem si_X9_late : Cond.instanceMethod MX9_late.1 ∈ ztb := ztb_mem (List.mem_of_getElem? (i := 1122) (by decide +kernel)) rfl
theorem se_X9_late : Cond.selects MX9_late.1.cls MX9_late.1 MX9_late.1 ∈ ztb := ztb_mem (List.mem_of_getElem? (i := 1123) (by decide +kernel)) rfl
abbrev MX9_least : ZY := (yX9_least, cX9_least, 2, (some .int))
theorem cd_X9_least : Cond.code MX9_least.1 MX9_least.2.1 MX9_least.2.2.1 MX9_least.2.2.2 ∈ ztb := ztb_mem (List.mem_of_getElem? (i := 1140) (by decide +kernel)) rfl
theorem ss_X9_least : Cond.static MX9_least.1 ∈ ztb := ztb_mem (List.mem_of_getElem? (i := 1139) (by decide +kernel)) rfl
abbrev MX9_askNow : ZY := (yX9_askNow, cX9_askNow, 2, none)
theorem cd_X9_askNow : Cond.code MX9_askNow.1 MX9_askNow.2.1 MX9_askNow.2.2.1 MX9_askNow.2.2.2 ∈ ztb := ztb_mem (List.mem_of_getElem? (i := 1137) (by decide +kernel)) rfl
theorem si_X9_askNow : Cond.instanceMethod MX9_askNow.1 ∈ ztb := ztb_mem (List.mem_of_getElem? (i := 1136) (by decide +kernel)) rfl
theorem se_X9_askNow : Cond.selects MX9_askNow.1.cls MX9_askNow.1 MX9_askNow.1 ∈ ztb := ztb_sel (List.mem_of_getElem? (i := 29) (by decide +kernel)) rfl
abbrev MX9_speaks : ZY := (yX9_speaks, cX9_speaks, 3, (some .boolean))
theorem cd_X9_speaks : Cond.code MX9_speaks.1 MX9_speaks.2.1 MX9_speaks.2.2.1 MX9_speaks.2.2.2 ∈ ztb := ztb_mem (List.mem_of_getElem? (i := 1156) (by decide +kernel)) rfl
theorem si_X9_speaks : Cond.instanceMethod MX9_speaks.1 ∈ ztb := ztb_mem (List.mem_of_getElem? (i := 1155) (by decide +kernel)) rfl
theorem se_X9_speaks : Cond.selects MX9_speaks.1.cls MX9_speaks.1 MX9_speaks.1 ∈ ztb := ztb_sel (List.mem_of_getElem? (i := 33) (by decide +kernel)) rfl
abbrev MX9_passes : ZY := (yX9_passes, cX9_passes, 5, (some .boolean))
theorem cd_X9_passes : Cond.code MX9_passes.1 MX9_passes.2.1 MX9_passes.2.2.1 MX9_passes.2.2.2 ∈ ztb := ztb_mem (List.mem_of_getElem? (i := 1171) (by decide +kernel)) rfl
theorem si_X9_passes : Cond.instanceMethod MX9_passes.1 ∈ ztb := ztb_mem (List.mem_of_getElem? (i := 1170) (by decide +kernel)) rfl
theorem se_X9_passes : Cond.selects MX9_passes.1.cls MX9_passes.1 MX9_passes.1 ∈ ztb := ztb_sel (List.mem_of_getElem? (i := 36) (by decide +kernel)) rfl
abbrev MX9_worth : ZY := (yX9_worth, cX9_worth, 5, (some .int))
theorem cd_X9_worth : Cond.code MX9_worth.1 MX9_worth.2.1 MX9_worth.2.2.1 MX9_worth.2.2.2 ∈ ztb := ztb_mem (List.mem_of_getElem? (i := 1167) (by decide +kernel)) rfl
theorem si_X9_worth : Cond.instanceMethod MX9_worth.1 ∈ ztb := ztb_mem (List.mem_of_getElem? (i := 1166) (by decide +kernel)) rfl
theorem se_X9_worth : Cond.selects MX9_worth.1.cls MX9_worth.1 MX9_worth.1 ∈ ztb := ztb_sel (List.mem_of_getElem? (i := 35) (by decide +kernel)) rfl
abbrev MX9_thing : ZY := (yX9_thing, cX9_thing, 2, (some .int))
theorem cd_X9_thing : Cond.code MX9_thing.1 MX9_thing.2.1 MX9_thing.2.2.1 MX9_thing.2.2.2 ∈ ztb := ztb_mem (List.mem_of_getElem? (i := 1163) (by decide +kernel)) rfl
theorem ss_X9_thing : Cond.static MX9_thing.1 ∈ ztb := ztb_mem (List.mem_of_getElem? (i := 1162) (by decide +kernel)) rfl
abbrev MX9_isAhead : ZY := (yX9_isAhead, cX9_isAhead, 7, (some .boolean))
theorem cd_X9_isAhead : Cond.code MX9_isAhead.1 MX9_isAhead.2.1 MX9_isAhead.2.2.1 MX9_isAhead.2.2.2 ∈ ztb := ztb_mem (List.mem_of_getElem? (i := 1160) (by decide +kernel)) rfl
theorem si_X9_isAhead : Cond.instanceMethod MX9_isAhead.1 ∈ ztb := ztb_mem (List.mem_of_getElem? (i := 1159) (by decide +kernel)) rfl
theorem se_X9_isAhead : Cond.selects MX9_isAhead.1.cls MX9_isAhead.1 MX9_isAhead.1 ∈ ztb := ztb_sel (List.mem_of_getElem? (i := 34) (by decide +kernel)) rfl
abbrev MX9_choice : ZY := (yX9_choice, cX9_choice, 4, (some .int))
theorem cd_X9_choice : Cond.code MX9_choice.1 MX9_choice.2.1 MX9_choice.2.2.1 MX9_choice.2.2.2 ∈ ztb := ztb_mem (List.mem_of_getElem? (i := 1152) (by decide +kernel)) rfl
theorem si_X9_choice : Cond.instanceMethod MX9_choice.1 ∈ ztb := ztb_mem (List.mem_of_getElem? (i := 1151) (by decide +kernel)) rfl
theorem se_X9_choice : Cond.selects MX9_choice.1.cls MX9_choice.1 MX9_choice.1 ∈ ztb := ztb_sel (List.mem_of_getElem? (i := 32) (by decide +kernel)) rfl
abbrev MX9_layNext : ZY := (yX9_layNext, cX9_layNext, 4, none)
theorem cd_X9_layNext : Cond.code MX9_layNext.1 MX9_layNext.2.1 MX9_layNext.2.2.1 MX9_layNext.2.2.2 ∈ ztb := ztb_mem (List.mem_of_getElem? (i := 1148) (by decide +kernel)) rfl
theorem si_X9_layNext : Cond.instanceMethod MX9_layNext.1 ∈ ztb := ztb_mem (List.mem_of_getElem? (i := 1147) (by decide +kernel)) rfl
theorem se_X9_layNext : Cond.selects MX9_layNext.1.cls MX9_layNext.1 MX9_layNext.1 ∈ ztb := ztb_sel (List.mem_of_getElem? (i := 31) (by decide +kernel)) rfl
abbrev MX9_takeNext : ZY := (yX9_takeNext, cX9_takeNext, 4, (some .boolean))
theorem cd_X9_takeNext : Cond.code MX9_takeNext.1 MX9_takeNext.2.1 MX9_takeNext.2.2.1 MX9_takeNext.2.2.2 ∈ ztb := ztb_mem (List.mem_of_getElem? (i := 1175) (by decide +kernel)) rfl
theorem si_X9_takeNext : Cond.instanceMethod MX9_takeNext.1 ∈ ztb := ztb_mem (List.mem_of_getElem? (i := 1174) (by decide +kernel)) rfl
theorem se_X9_takeNext : Cond.selects MX9_takeNext.1.cls MX9_takeNext.1 MX9_takeNext.1 ∈ ztb := ztb_sel (List.mem_of_getElem? (i := 37) (by decide +kernel)) rfl
abbrev MX9_settle : ZY := (yX9_settle, cX9_settle, 3, (some .boolean))
theorem cd_X9_settle : Cond.code MX9_settle.1 MX9_settle.2.1 MX9_settle.2.2.1 MX9_settle.2.2.2 ∈ ztb := ztb_mem (List.mem_of_getElem? (i := 1144) (by decide +kernel)) rfl
theorem si_X9_settle : Cond.instanceMethod MX9_settle.1 ∈ ztb := ztb_mem (List.mem_of_getElem? (i := 1143) (by decide +kernel)) rfl
theorem se_X9_settle : Cond.selects MX9_settle.1.cls MX9_settle.1 MX9_settle.1 ∈ ztb := ztb_sel (List.mem_of_getElem? (i := 30) (by decide +kernel)) rfl
abbrev MX9_settleNow : ZY := (yX9_settleNow, cX9_settleNow, 1, (some .boolean))
theorem cd_X9_settleNow : Cond.code MX9_settleNow.1 MX9_settleNow.2.1 MX9_settleNow.2.2.1 MX9_settleNow.2.2.2 ∈ ztb := ztb_mem (List.mem_of_getElem? (i := 1133) (by decide +kernel)) rfl
theorem si_X9_settleNow : Cond.instanceMethod MX9_settleNow.1 ∈ ztb := ztb_mem (List.mem_of_getElem? (i := 1132) (by decide +kernel)) rfl
theorem se_X9_settleNow : Cond.selects MX9_settleNow.1.cls MX9_settleNow.1 MX9_settleNow.1 ∈ ztb := ztb_sel (List.mem_of_getElem? (i := 28) (by decide +kernel)) rfl
abbrev MX9_rounds : ZY := (yX9_rounds, cX9_rounds, 1, (some .int))
theorem cd_X9_rounds : Cond.code MX9_rounds.1 MX9_rounds.2.1 MX9_rounds.2.2.1 MX9_rounds.2.2.2 ∈ ztb := ztb_mem (List.mem_of_getElem? (i := 1129) (by decide +kernel)) rfl
theorem si_X9_rounds : Cond.instanceMethod MX9_rounds.1 ∈ ztb := ztb_mem (List.mem_of_getElem? (i := 1127) (by decide +kernel)) rfl
theorem se_X9_rounds : Cond.selects MX9_rounds.1.cls MX9_rounds.1 MX9_rounds.1 ∈ ztb := ztb_mem (List.mem_of_getElem? (i := 1128) (by decide +kernel)) rfl
abbrev MX9_comes : ZY := (yX9_comes, cX9_comes, 2, (some .int))
theorem cd_X9_comes : Cond.code MX9_comes.1 MX9_comes.2.1 MX9_comes.2.2.1 MX9_comes.2.2.2 ∈ ztb := ztb_mem (List.mem_of_getElem? (i := 1179) (by decide +kernel)) rfl
theorem si_X9_comes : Cond.instanceMethod MX9_comes.1 ∈ ztb := ztb_mem (List.mem_of_getElem? (i := 1177) (by decide +kernel)) rfl
theorem se_X9_comes : Cond.selects MX9_comes.1.cls MX9_comes.1 MX9_comes.1 ∈ ztb := ztb_mem (List.mem_of_getElem? (i := 1178) (by decide +kernel)) rfl
abbrev MX9_names : ZY := (yX9_names, cX9_names, 2, (some .int))
theorem cd_X9_names : Cond.code MX9_names.1 MX9_names.2.1 MX9_names.2.2.1 MX9_names.2.2.2 ∈ ztb := ztb_mem (List.mem_of_getElem? (i := 1183) (by decide +kernel)) rfl
theorem si_X9_names : Cond.instanceMethod MX9_names.1 ∈ ztb := ztb_mem (List.mem_of_getElem? (i := 1181) (by decide +kernel)) rfl
theorem se_X9_names : Cond.selects MX9_names.1.cls MX9_names.1 MX9_names.1 ∈ ztb := ztb_mem (List.mem_of_getElem? (i := 1182) (by decide +kernel)) rfl
abbrev MX9_way : ZY := (yX9_way, cX9_way, 3, (some .int))
theorem cd_X9_way : Cond.code MX9_way.1 MX9_way.2.1 MX9_way.2.2.1 MX9_way.2.2.2 ∈ ztb := ztb_mem (List.mem_of_getElem? (i := 1187) (by decide +kernel)) rfl
theorem si_X9_way : Cond.instanceMethod MX9_way.1 ∈ ztb := ztb_mem (List.mem_of_getElem? (i := 1185) (by decide +kernel)) rfl
theorem se_X9_way : Cond.selects MX9_way.1.cls MX9_way.1 MX9_way.1 ∈ ztb := ztb_mem (List.mem_of_getElem? (i := 1186) (by decide +kernel)) rfl
abbrev MX9_come : ZY := (yX9_come, cX9_come, 4, (some .int))
theorem cd_X9_come : Cond.code MX9_come.1 MX9_come.2.1 MX9_come.2.2.1 MX9_come.2.2.2 ∈ ztb := ztb_mem (List.mem_of_getElem? (i := 1195) (by decide +kernel)) rfl
theorem si_X9_come : Cond.instanceMethod MX9_come.1 ∈ ztb := ztb_mem (List.mem_of_getElem? (i := 1194) (by decide +kernel)) rfl
theorem se_X9_come : Cond.selects MX9_come.1.cls MX9_come.1 MX9_come.1 ∈ ztb := ztb_sel (List.mem_of_getElem? (i := 38) (by decide +kernel)) rfl
abbrev MX9_told : ZY := (yX9_told, cX9_told, 2, (some .int))
theorem cd_X9_told : Cond.code MX9_told.1 MX9_told.2.1 MX9_told.2.2.1 MX9_told.2.2.2 ∈ ztb := ztb_mem (List.mem_of_getElem? (i := 1191) (by decide +kernel)) rfl
theorem si_X9_told : Cond.instanceMethod MX9_told.1 ∈ ztb := ztb_mem (List.mem_of_getElem? (i := 1189) (by decide +kernel)) rfl
theorem se_X9_told : Cond.selects MX9_told.1.cls MX9_told.1 MX9_told.1 ∈ ztb := ztb_mem (List.mem_of_getElem? (i := 1190) (by decide +kernel)) rfl
abbrev MX9_alike : ZY := (yX9_alike, cX9_alike, 8, (some .int))
theorem cd_X9_alike : Cond.code MX9_alike.1 MX9_alike.2.1 MX9_alike.2.2.1 MX9_alike.2.2.2 ∈ ztb := ztb_mem (List.mem_of_getElem? (i := 1203) (by decide +kernel)) rfl
theorem si_X9_alike : Cond.instanceMethod MX9_alike.1 ∈ ztb := ztb_mem (List.mem_of_getElem? (i := 1202) (by decide +kernel)) rfl
theorem se_X9_alike : Cond.selects MX9_alike.1.cls MX9_alike.1 MX9_alike.1 ∈ ztb := ztb_sel (List.mem_of_getElem? (i := 39) (by decide +kernel)) rfl
abbrev MX9_why : ZY := (yX9_why, cX9_why, 3, (some .int))
theorem cd_X9_why : Cond.code MX9_why.1 MX9_why.2.1 MX9_why.2.2.1 MX9_why.2.2.2 ∈ ztb := ztb_mem (List.mem_of_getElem? (i := 1199) (by decide +kernel)) rfl
theorem si_X9_why : Cond.instanceMethod MX9_why.1 ∈ ztb := ztb_mem (List.mem_of_getElem? (i := 1197) (by decide +kernel)) rfl
theorem se_X9_why : Cond.selects MX9_why.1.cls MX9_why.1 MX9_why.1 ∈ ztb := ztb_mem (List.mem_of_getElem? (i := 1198) (by decide +kernel)) rfl
abbrev MX9_loadOf : ZY := (yX9_loadOf, cX9_loadOf, 4, (some .int))
theorem cd_X9_loadOf : Cond.code MX9_loadOf.1 MX9_loadOf.2.1 MX9_loadOf.2.2.1 MX9_loadOf.2.2.2 ∈ ztb := ztb_mem (List.mem_of_getElem? (i := 1211) (by decide +kernel)) rfl
theorem si_X9_loadOf : Cond.instanceMethod MX9_loadOf.1 ∈ ztb := ztb_mem (List.mem_of_getElem? (i := 1210) (by decide +kernel)) rfl
theorem se_X9_loadOf : Cond.selects MX9_loadOf.1.cls MX9_loadOf.1 MX9_loadOf.1 ∈ ztb := ztb_sel (List.mem_of_getElem? (i := 40) (by decide +kernel)) rfl
abbrev MX9_excessOf : ZY := (yX9_excessOf, cX9_excessOf, 4, (some .int))
theorem cd_X9_excessOf : Cond.code MX9_excessOf.1 MX9_excessOf.2.1 MX9_excessOf.2.2.1 MX9_excessOf.2.2.2 ∈ ztb := ztb_mem (List.mem_of_getElem? (i := 1219) (by decide +kernel)) rfl
theorem si_X9_excessOf : Cond.instanceMethod MX9_excessOf.1 ∈ ztb := ztb_mem (List.mem_of_getElem? (i := 1218) (by decide +kernel)) rfl
theorem se_X9_excessOf : Cond.selects MX9_excessOf.1.cls MX9_excessOf.1 MX9_excessOf.1 ∈ ztb := ztb_sel (List.mem_of_getElem? (i := 41) (by decide +kernel)) rfl
abbrev MX9_sumOf : ZY := (yX9_sumOf, cX9_sumOf, 4, (some .long))
theorem cd_X9_sumOf : Cond.code MX9_sumOf.1 MX9_sumOf.2.1 MX9_sumOf.2.2.1 MX9_sumOf.2.2.2 ∈ ztb := ztb_mem (List.mem_of_getElem? (i := 1227) (by decide +kernel)) rfl
theorem si_X9_sumOf : Cond.instanceMethod MX9_sumOf.1 ∈ ztb := ztb_mem (List.mem_of_getElem? (i := 1226) (by decide +kernel)) rfl
theorem se_X9_sumOf : Cond.selects MX9_sumOf.1.cls MX9_sumOf.1 MX9_sumOf.1 ∈ ztb := ztb_sel (List.mem_of_getElem? (i := 42) (by decide +kernel)) rfl
abbrev MX9_load : ZY := (yX9_load, cX9_load, 2, (some .int))
theorem cd_X9_load : Cond.code MX9_load.1 MX9_load.2.1 MX9_load.2.2.1 MX9_load.2.2.2 ∈ ztb := ztb_mem (List.mem_of_getElem? (i := 1207) (by decide +kernel)) rfl
theorem si_X9_load : Cond.instanceMethod MX9_load.1 ∈ ztb := ztb_mem (List.mem_of_getElem? (i := 1205) (by decide +kernel)) rfl
theorem se_X9_load : Cond.selects MX9_load.1.cls MX9_load.1 MX9_load.1 ∈ ztb := ztb_mem (List.mem_of_getElem? (i := 1206) (by decide +kernel)) rfl
abbrev MX9_excess : ZY := (yX9_excess, cX9_excess, 1, (some .int))
theorem cd_X9_excess : Cond.code MX9_excess.1 MX9_excess.2.1 MX9_excess.2.2.1 MX9_excess.2.2.2 ∈ ztb := ztb_mem (List.mem_of_getElem? (i := 1215) (by decide +kernel)) rfl
theorem si_X9_excess : Cond.instanceMethod MX9_excess.1 ∈ ztb := ztb_mem (List.mem_of_getElem? (i := 1213) (by decide +kernel)) rfl
theorem se_X9_excess : Cond.selects MX9_excess.1.cls MX9_excess.1 MX9_excess.1 ∈ ztb := ztb_mem (List.mem_of_getElem? (i := 1214) (by decide +kernel)) rfl
abbrev MX9_sum : ZY := (yX9_sum, cX9_sum, 1, (some .long))
theorem cd_X9_sum : Cond.code MX9_sum.1 MX9_sum.2.1 MX9_sum.2.2.1 MX9_sum.2.2.2 ∈ ztb := ztb_mem (List.mem_of_getElem? (i := 1223) (by decide +kernel)) rfl
theorem si_X9_sum : Cond.instanceMethod MX9_sum.1 ∈ ztb := ztb_mem (List.mem_of_getElem? (i := 1221) (by decide +kernel)) rfl
theorem se_X9_sum : Cond.selects MX9_sum.1.cls MX9_sum.1 MX9_sum.1 ∈ ztb := ztb_mem (List.mem_of_getElem? (i := 1222) (by decide +kernel)) rfl
abbrev MX9_without : ZY := (yX9_without, cX9_without, 2, (some .int))
theorem cd_X9_without : Cond.code MX9_without.1 MX9_without.2.1 MX9_without.2.2.1 MX9_without.2.2.2 ∈ ztb := ztb_mem (List.mem_of_getElem? (i := 1232) (by decide +kernel)) rfl
theorem si_X9_without : Cond.instanceMethod MX9_without.1 ∈ ztb := ztb_mem (List.mem_of_getElem? (i := 1230) (by decide +kernel)) rfl
theorem se_X9_without : Cond.selects MX9_without.1.cls MX9_without.1 MX9_without.1 ∈ ztb := ztb_mem (List.mem_of_getElem? (i := 1231) (by decide +kernel)) rfl
abbrev MX9_moves : ZY := (yX9_moves, cX9_moves, 5, (some .int))
theorem cd_X9_moves : Cond.code MX9_moves.1 MX9_moves.2.1 MX9_moves.2.2.1 MX9_moves.2.2.2 ∈ ztb := ztb_mem (List.mem_of_getElem? (i := 1236) (by decide +kernel)) rfl
theorem si_X9_moves : Cond.instanceMethod MX9_moves.1 ∈ ztb := ztb_mem (List.mem_of_getElem? (i := 1234) (by decide +kernel)) rfl
theorem se_X9_moves : Cond.selects MX9_moves.1.cls MX9_moves.1 MX9_moves.1 ∈ ztb := ztb_mem (List.mem_of_getElem? (i := 1235) (by decide +kernel)) rfl
abbrev MX9_trial : ZY := (yX9_trial, cX9_trial, 2, (some .int))
theorem cd_X9_trial : Cond.code MX9_trial.1 MX9_trial.2.1 MX9_trial.2.2.1 MX9_trial.2.2.2 ∈ ztb := ztb_mem (List.mem_of_getElem? (i := 1240) (by decide +kernel)) rfl
theorem si_X9_trial : Cond.instanceMethod MX9_trial.1 ∈ ztb := ztb_mem (List.mem_of_getElem? (i := 1238) (by decide +kernel)) rfl
theorem se_X9_trial : Cond.selects MX9_trial.1.cls MX9_trial.1 MX9_trial.1 ∈ ztb := ztb_mem (List.mem_of_getElem? (i := 1239) (by decide +kernel)) rfl
abbrev MX9_seen : ZY := (yX9_seen, cX9_seen, 5, (some .int))
theorem cd_X9_seen : Cond.code MX9_seen.1 MX9_seen.2.1 MX9_seen.2.2.1 MX9_seen.2.2.2 ∈ ztb := ztb_mem (List.mem_of_getElem? (i := 1244) (by decide +kernel)) rfl
theorem si_X9_seen : Cond.instanceMethod MX9_seen.1 ∈ ztb := ztb_mem (List.mem_of_getElem? (i := 1242) (by decide +kernel)) rfl
theorem se_X9_seen : Cond.selects MX9_seen.1.cls MX9_seen.1 MX9_seen.1 ∈ ztb := ztb_mem (List.mem_of_getElem? (i := 1243) (by decide +kernel)) rfl
abbrev MX9_askTrial : ZY := (yX9_askTrial, cX9_askTrial, 3, none)
theorem cd_X9_askTrial : Cond.code MX9_askTrial.1 MX9_askTrial.2.1 MX9_askTrial.2.2.1 MX9_askTrial.2.2.2 ∈ ztb := ztb_mem (List.mem_of_getElem? (i := 1271) (by decide +kernel)) rfl
theorem si_X9_askTrial : Cond.instanceMethod MX9_askTrial.1 ∈ ztb := ztb_mem (List.mem_of_getElem? (i := 1270) (by decide +kernel)) rfl
theorem se_X9_askTrial : Cond.selects MX9_askTrial.1.cls MX9_askTrial.1 MX9_askTrial.1 ∈ ztb := ztb_sel (List.mem_of_getElem? (i := 46) (by decide +kernel)) rfl
abbrev MX9_ones : ZY := (yX9_ones, cX9_ones, 1, (some .int))
theorem cd_X9_ones : Cond.code MX9_ones.1 MX9_ones.2.1 MX9_ones.2.2.1 MX9_ones.2.2.2 ∈ ztb := ztb_mem (List.mem_of_getElem? (i := 1255) (by decide +kernel)) rfl
theorem ss_X9_ones : Cond.static MX9_ones.1 ∈ ztb := ztb_mem (List.mem_of_getElem? (i := 1254) (by decide +kernel)) rfl
abbrev MX9_caseMany : ZY := (yX9_caseMany, cX9_caseMany, 3, (some .int))
theorem cd_X9_caseMany : Cond.code MX9_caseMany.1 MX9_caseMany.2.1 MX9_caseMany.2.2.1 MX9_caseMany.2.2.2 ∈ ztb := ztb_mem (List.mem_of_getElem? (i := 1252) (by decide +kernel)) rfl
theorem si_X9_caseMany : Cond.instanceMethod MX9_caseMany.1 ∈ ztb := ztb_mem (List.mem_of_getElem? (i := 1251) (by decide +kernel)) rfl
theorem se_X9_caseMany : Cond.selects MX9_caseMany.1.cls MX9_caseMany.1 MX9_caseMany.1 ∈ ztb := ztb_sel (List.mem_of_getElem? (i := 43) (by decide +kernel)) rfl
abbrev MX9_cases : ZY := (yX9_cases, cX9_cases, 2, (some .int))
theorem cd_X9_cases : Cond.code MX9_cases.1 MX9_cases.2.1 MX9_cases.2.2.1 MX9_cases.2.2.2 ∈ ztb := ztb_mem (List.mem_of_getElem? (i := 1248) (by decide +kernel)) rfl
theorem si_X9_cases : Cond.instanceMethod MX9_cases.1 ∈ ztb := ztb_mem (List.mem_of_getElem? (i := 1246) (by decide +kernel)) rfl
theorem se_X9_cases : Cond.selects MX9_cases.1.cls MX9_cases.1 MX9_cases.1 ∈ ztb := ztb_mem (List.mem_of_getElem? (i := 1247) (by decide +kernel)) rfl
abbrev MX9_askCase : ZY := (yX9_askCase, cX9_askCase, 6, none)
theorem cd_X9_askCase : Cond.code MX9_askCase.1 MX9_askCase.2.1 MX9_askCase.2.2.1 MX9_askCase.2.2.2 ∈ ztb := ztb_mem (List.mem_of_getElem? (i := 1275) (by decide +kernel)) rfl
theorem si_X9_askCase : Cond.instanceMethod MX9_askCase.1 ∈ ztb := ztb_mem (List.mem_of_getElem? (i := 1274) (by decide +kernel)) rfl
theorem se_X9_askCase : Cond.selects MX9_askCase.1.cls MX9_askCase.1 MX9_askCase.1 ∈ ztb := ztb_sel (List.mem_of_getElem? (i := 47) (by decide +kernel)) rfl
abbrev MX9_agrees : ZY := (yX9_agrees, cX9_agrees, 7, (some .boolean))
theorem cd_X9_agrees : Cond.code MX9_agrees.1 MX9_agrees.2.1 MX9_agrees.2.2.1 MX9_agrees.2.2.2 ∈ ztb := ztb_mem (List.mem_of_getElem? (i := 1267) (by decide +kernel)) rfl
theorem si_X9_agrees : Cond.instanceMethod MX9_agrees.1 ∈ ztb := ztb_mem (List.mem_of_getElem? (i := 1266) (by decide +kernel)) rfl
theorem se_X9_agrees : Cond.selects MX9_agrees.1.cls MX9_agrees.1 MX9_agrees.1 ∈ ztb := ztb_sel (List.mem_of_getElem? (i := 45) (by decide +kernel)) rfl
abbrev MX9_layAgreed : ZY := (yX9_layAgreed, cX9_layAgreed, 3, (some .boolean))
theorem cd_X9_layAgreed : Cond.code MX9_layAgreed.1 MX9_layAgreed.2.1 MX9_layAgreed.2.2.1 MX9_layAgreed.2.2.2 ∈ ztb := ztb_mem (List.mem_of_getElem? (i := 1263) (by decide +kernel)) rfl
theorem si_X9_layAgreed : Cond.instanceMethod MX9_layAgreed.1 ∈ ztb := ztb_mem (List.mem_of_getElem? (i := 1262) (by decide +kernel)) rfl
theorem se_X9_layAgreed : Cond.selects MX9_layAgreed.1.cls MX9_layAgreed.1 MX9_layAgreed.1 ∈ ztb := ztb_sel (List.mem_of_getElem? (i := 44) (by decide +kernel)) rfl
abbrev MX9_agree : ZY := (yX9_agree, cX9_agree, 1, (some .int))
theorem cd_X9_agree : Cond.code MX9_agree.1 MX9_agree.2.1 MX9_agree.2.2.1 MX9_agree.2.2.2 ∈ ztb := ztb_mem (List.mem_of_getElem? (i := 1259) (by decide +kernel)) rfl
theorem si_X9_agree : Cond.instanceMethod MX9_agree.1 ∈ ztb := ztb_mem (List.mem_of_getElem? (i := 1257) (by decide +kernel)) rfl
theorem se_X9_agree : Cond.selects MX9_agree.1.cls MX9_agree.1 MX9_agree.1 ∈ ztb := ztb_mem (List.mem_of_getElem? (i := 1258) (by decide +kernel)) rfl
abbrev MX9_could : ZY := (yX9_could, cX9_could, 5, (some .int))
theorem cd_X9_could : Cond.code MX9_could.1 MX9_could.2.1 MX9_could.2.2.1 MX9_could.2.2.2 ∈ ztb := ztb_mem (List.mem_of_getElem? (i := 1279) (by decide +kernel)) rfl
theorem si_X9_could : Cond.instanceMethod MX9_could.1 ∈ ztb := ztb_mem (List.mem_of_getElem? (i := 1277) (by decide +kernel)) rfl
theorem se_X9_could : Cond.selects MX9_could.1.cls MX9_could.1 MX9_could.1 ∈ ztb := ztb_mem (List.mem_of_getElem? (i := 1278) (by decide +kernel)) rfl
abbrev MX9_rulesLeft : ZY := (yX9_rulesLeft, cX9_rulesLeft, 4, (some .int))
theorem cd_X9_rulesLeft : Cond.code MX9_rulesLeft.1 MX9_rulesLeft.2.1 MX9_rulesLeft.2.2.1 MX9_rulesLeft.2.2.2 ∈ ztb := ztb_mem (List.mem_of_getElem? (i := 1287) (by decide +kernel)) rfl
theorem si_X9_rulesLeft : Cond.instanceMethod MX9_rulesLeft.1 ∈ ztb := ztb_mem (List.mem_of_getElem? (i := 1286) (by decide +kernel)) rfl
theorem se_X9_rulesLeft : Cond.selects MX9_rulesLeft.1.cls MX9_rulesLeft.1 MX9_rulesLeft.1 ∈ ztb := ztb_sel (List.mem_of_getElem? (i := 48) (by decide +kernel)) rfl
abbrev MX9_rules : ZY := (yX9_rules, cX9_rules, 2, (some .int))
theorem cd_X9_rules : Cond.code MX9_rules.1 MX9_rules.2.1 MX9_rules.2.2.1 MX9_rules.2.2.2 ∈ ztb := ztb_mem (List.mem_of_getElem? (i := 1283) (by decide +kernel)) rfl
theorem si_X9_rules : Cond.instanceMethod MX9_rules.1 ∈ ztb := ztb_mem (List.mem_of_getElem? (i := 1281) (by decide +kernel)) rfl
theorem se_X9_rules : Cond.selects MX9_rules.1.cls MX9_rules.1 MX9_rules.1 ∈ ztb := ztb_mem (List.mem_of_getElem? (i := 1282) (by decide +kernel)) rfl
abbrev MX9_learn : ZY := (yX9_learn, cX9_learn, 2, (some .int))
theorem cd_X9_learn : Cond.code MX9_learn.1 MX9_learn.2.1 MX9_learn.2.2.1 MX9_learn.2.2.2 ∈ ztb := ztb_mem (List.mem_of_getElem? (i := 1291) (by decide +kernel)) rfl
theorem si_X9_learn : Cond.instanceMethod MX9_learn.1 ∈ ztb := ztb_mem (List.mem_of_getElem? (i := 1289) (by decide +kernel)) rfl
theorem se_X9_learn : Cond.selects MX9_learn.1.cls MX9_learn.1 MX9_learn.1 ∈ ztb := ztb_mem (List.mem_of_getElem? (i := 1290) (by decide +kernel)) rfl
abbrev MX9_quarrel : ZY := (yX9_quarrel, cX9_quarrel, 5, (some .int))
theorem cd_X9_quarrel : Cond.code MX9_quarrel.1 MX9_quarrel.2.1 MX9_quarrel.2.2.1 MX9_quarrel.2.2.2 ∈ ztb := ztb_mem (List.mem_of_getElem? (i := 1295) (by decide +kernel)) rfl
theorem si_X9_quarrel : Cond.instanceMethod MX9_quarrel.1 ∈ ztb := ztb_mem (List.mem_of_getElem? (i := 1293) (by decide +kernel)) rfl
theorem se_X9_quarrel : Cond.selects MX9_quarrel.1.cls MX9_quarrel.1 MX9_quarrel.1 ∈ ztb := ztb_mem (List.mem_of_getElem? (i := 1294) (by decide +kernel)) rfl
abbrev MX9_greatestAlike : ZY := (yX9_greatestAlike, cX9_greatestAlike, 7, (some .int))
theorem cd_X9_greatestAlike : Cond.code MX9_greatestAlike.1 MX9_greatestAlike.2.1 MX9_greatestAlike.2.2.1 MX9_greatestAlike.2.2.2 ∈ ztb := ztb_mem (List.mem_of_getElem? (i := 1303) (by decide +kernel)) rfl
theorem si_X9_greatestAlike : Cond.instanceMethod MX9_greatestAlike.1 ∈ ztb := ztb_mem (List.mem_of_getElem? (i := 1302) (by decide +kernel)) rfl
theorem se_X9_greatestAlike : Cond.selects MX9_greatestAlike.1.cls MX9_greatestAlike.1 MX9_greatestAlike.1 ∈ ztb := ztb_sel (List.mem_of_getElem? (i := 49) (by decide +kernel)) rfl
abbrev MX9_next : ZY := (yX9_next, cX9_next, 5, (some .int))
theorem cd_X9_next : Cond.code MX9_next.1 MX9_next.2.1 MX9_next.2.2.1 MX9_next.2.2.2 ∈ ztb := ztb_mem (List.mem_of_getElem? (i := 1299) (by decide +kernel)) rfl
theorem si_X9_next : Cond.instanceMethod MX9_next.1 ∈ ztb := ztb_mem (List.mem_of_getElem? (i := 1297) (by decide +kernel)) rfl
theorem se_X9_next : Cond.selects MX9_next.1.cls MX9_next.1 MX9_next.1 ∈ ztb := ztb_mem (List.mem_of_getElem? (i := 1298) (by decide +kernel)) rfl
abbrev MX9_layChoice : ZY := (yX9_layChoice, cX9_layChoice, 7, (some .boolean))
theorem cd_X9_layChoice : Cond.code MX9_layChoice.1 MX9_layChoice.2.1 MX9_layChoice.2.2.1 MX9_layChoice.2.2.2 ∈ ztb := ztb_mem (List.mem_of_getElem? (i := 1317) (by decide +kernel)) rfl
theorem si_X9_layChoice : Cond.instanceMethod MX9_layChoice.1 ∈ ztb := ztb_mem (List.mem_of_getElem? (i := 1316) (by decide +kernel)) rfl
theorem se_X9_layChoice : Cond.selects MX9_layChoice.1.cls MX9_layChoice.1 MX9_layChoice.1 ∈ ztb := ztb_sel (List.mem_of_getElem? (i := 51) (by decide +kernel)) rfl
abbrev MX9_measure : ZY := (yX9_measure, cX9_measure, 5, (some .boolean))
theorem cd_X9_measure : Cond.code MX9_measure.1 MX9_measure.2.1 MX9_measure.2.2.1 MX9_measure.2.2.2 ∈ ztb := ztb_mem (List.mem_of_getElem? (i := 1325) (by decide +kernel)) rfl
theorem si_X9_measure : Cond.instanceMethod MX9_measure.1 ∈ ztb := ztb_mem (List.mem_of_getElem? (i := 1324) (by decide +kernel)) rfl
theorem se_X9_measure : Cond.selects MX9_measure.1.cls MX9_measure.1 MX9_measure.1 ∈ ztb := ztb_sel (List.mem_of_getElem? (i := 53) (by decide +kernel)) rfl
abbrev MX9_measureAll : ZY := (yX9_measureAll, cX9_measureAll, 4, (some .boolean))
theorem cd_X9_measureAll : Cond.code MX9_measureAll.1 MX9_measureAll.2.1 MX9_measureAll.2.2.1 MX9_measureAll.2.2.2 ∈ ztb := ztb_mem (List.mem_of_getElem? (i := 1321) (by decide +kernel)) rfl
theorem si_X9_measureAll : Cond.instanceMethod MX9_measureAll.1 ∈ ztb := ztb_mem (List.mem_of_getElem? (i := 1320) (by decide +kernel)) rfl
theorem se_X9_measureAll : Cond.selects MX9_measureAll.1.cls MX9_measureAll.1 MX9_measureAll.1 ∈ ztb := ztb_sel (List.mem_of_getElem? (i := 52) (by decide +kernel)) rfl
abbrev MX9_layBest : ZY := (yX9_layBest, cX9_layBest, 5, none)
theorem cd_X9_layBest : Cond.code MX9_layBest.1 MX9_layBest.2.1 MX9_layBest.2.2.1 MX9_layBest.2.2.2 ∈ ztb := ztb_mem (List.mem_of_getElem? (i := 1313) (by decide +kernel)) rfl
theorem si_X9_layBest : Cond.instanceMethod MX9_layBest.1 ∈ ztb := ztb_mem (List.mem_of_getElem? (i := 1312) (by decide +kernel)) rfl
theorem se_X9_layBest : Cond.selects MX9_layBest.1.cls MX9_layBest.1 MX9_layBest.1 ∈ ztb := ztb_sel (List.mem_of_getElem? (i := 50) (by decide +kernel)) rfl
abbrev MX9_best : ZY := (yX9_best, cX9_best, 2, (some .int))
theorem cd_X9_best : Cond.code MX9_best.1 MX9_best.2.1 MX9_best.2.2.1 MX9_best.2.2.2 ∈ ztb := ztb_mem (List.mem_of_getElem? (i := 1309) (by decide +kernel)) rfl
theorem si_X9_best : Cond.instanceMethod MX9_best.1 ∈ ztb := ztb_mem (List.mem_of_getElem? (i := 1307) (by decide +kernel)) rfl
theorem se_X9_best : Cond.selects MX9_best.1.cls MX9_best.1 MX9_best.1 ∈ ztb := ztb_mem (List.mem_of_getElem? (i := 1308) (by decide +kernel)) rfl
abbrev MX9_bestSum : ZY := (yX9_bestSum, cX9_bestSum, 2, (some .long))
theorem cd_X9_bestSum : Cond.code MX9_bestSum.1 MX9_bestSum.2.1 MX9_bestSum.2.2.1 MX9_bestSum.2.2.2 ∈ ztb := ztb_mem (List.mem_of_getElem? (i := 1329) (by decide +kernel)) rfl
theorem si_X9_bestSum : Cond.instanceMethod MX9_bestSum.1 ∈ ztb := ztb_mem (List.mem_of_getElem? (i := 1327) (by decide +kernel)) rfl
theorem se_X9_bestSum : Cond.selects MX9_bestSum.1.cls MX9_bestSum.1 MX9_bestSum.1 ∈ ztb := ztb_mem (List.mem_of_getElem? (i := 1328) (by decide +kernel)) rfl
abbrev MX9_bestKind : ZY := (yX9_bestKind, cX9_bestKind, 3, (some .int))
theorem cd_X9_bestKind : Cond.code MX9_bestKind.1 MX9_bestKind.2.1 MX9_bestKind.2.2.1 MX9_bestKind.2.2.2 ∈ ztb := ztb_mem (List.mem_of_getElem? (i := 1334) (by decide +kernel)) rfl
theorem si_X9_bestKind : Cond.instanceMethod MX9_bestKind.1 ∈ ztb := ztb_mem (List.mem_of_getElem? (i := 1332) (by decide +kernel)) rfl
theorem se_X9_bestKind : Cond.selects MX9_bestKind.1.cls MX9_bestKind.1 MX9_bestKind.1 ∈ ztb := ztb_mem (List.mem_of_getElem? (i := 1333) (by decide +kernel)) rfl
abbrev MX9_aimOf : ZY := (yX9_aimOf, cX9_aimOf, 2, (some .int))
theorem cd_X9_aimOf : Cond.code MX9_aimOf.1 MX9_aimOf.2.1 MX9_aimOf.2.2.1 MX9_aimOf.2.2.2 ∈ ztb := ztb_mem (List.mem_of_getElem? (i := 1342) (by decide +kernel)) rfl
theorem si_X9_aimOf : Cond.instanceMethod MX9_aimOf.1 ∈ ztb := ztb_mem (List.mem_of_getElem? (i := 1341) (by decide +kernel)) rfl
theorem se_X9_aimOf : Cond.selects MX9_aimOf.1.cls MX9_aimOf.1 MX9_aimOf.1 ∈ ztb := ztb_sel (List.mem_of_getElem? (i := 54) (by decide +kernel)) rfl
abbrev MX9_aim : ZY := (yX9_aim, cX9_aim, 4, (some .int))
theorem cd_X9_aim : Cond.code MX9_aim.1 MX9_aim.2.1 MX9_aim.2.2.1 MX9_aim.2.2.2 ∈ ztb := ztb_mem (List.mem_of_getElem? (i := 1338) (by decide +kernel)) rfl
theorem si_X9_aim : Cond.instanceMethod MX9_aim.1 ∈ ztb := ztb_mem (List.mem_of_getElem? (i := 1336) (by decide +kernel)) rfl
theorem se_X9_aim : Cond.selects MX9_aim.1.cls MX9_aim.1 MX9_aim.1 ∈ ztb := ztb_mem (List.mem_of_getElem? (i := 1337) (by decide +kernel)) rfl
abbrev MX9_stepCount : ZY := (yX9_stepCount, cX9_stepCount, 3, (some .int))
theorem cd_X9_stepCount : Cond.code MX9_stepCount.1 MX9_stepCount.2.1 MX9_stepCount.2.2.1 MX9_stepCount.2.2.2 ∈ ztb := ztb_mem (List.mem_of_getElem? (i := 1350) (by decide +kernel)) rfl
theorem si_X9_stepCount : Cond.instanceMethod MX9_stepCount.1 ∈ ztb := ztb_mem (List.mem_of_getElem? (i := 1349) (by decide +kernel)) rfl
theorem se_X9_stepCount : Cond.selects MX9_stepCount.1.cls MX9_stepCount.1 MX9_stepCount.1 ∈ ztb := ztb_sel (List.mem_of_getElem? (i := 55) (by decide +kernel)) rfl
abbrev MX9_layOrder : ZY := (yX9_layOrder, cX9_layOrder, 7, (some .boolean))
theorem cd_X9_layOrder : Cond.code MX9_layOrder.1 MX9_layOrder.2.1 MX9_layOrder.2.2.1 MX9_layOrder.2.2.2 ∈ ztb := ztb_mem (List.mem_of_getElem? (i := 1362) (by decide +kernel)) rfl
theorem si_X9_layOrder : Cond.instanceMethod MX9_layOrder.1 ∈ ztb := ztb_mem (List.mem_of_getElem? (i := 1361) (by decide +kernel)) rfl
theorem se_X9_layOrder : Cond.selects MX9_layOrder.1.cls MX9_layOrder.1 MX9_layOrder.1 ∈ ztb := ztb_sel (List.mem_of_getElem? (i := 57) (by decide +kernel)) rfl
abbrev MX9_worstOfOrder : ZY := (yX9_worstOfOrder, cX9_worstOfOrder, 4, (some .int))
theorem cd_X9_worstOfOrder : Cond.code MX9_worstOfOrder.1 MX9_worstOfOrder.2.1 MX9_worstOfOrder.2.2.1 MX9_worstOfOrder.2.2.2 ∈ ztb := ztb_mem (List.mem_of_getElem? (i := 1366) (by decide +kernel)) rfl
theorem si_X9_worstOfOrder : Cond.instanceMethod MX9_worstOfOrder.1 ∈ ztb := ztb_mem (List.mem_of_getElem? (i := 1365) (by decide +kernel)) rfl
theorem se_X9_worstOfOrder : Cond.selects MX9_worstOfOrder.1.cls MX9_worstOfOrder.1 MX9_worstOfOrder.1 ∈ ztb := ztb_sel (List.mem_of_getElem? (i := 58) (by decide +kernel)) rfl
abbrev MX9_layOrders : ZY := (yX9_layOrders, cX9_layOrders, 4, none)
theorem cd_X9_layOrders : Cond.code MX9_layOrders.1 MX9_layOrders.2.1 MX9_layOrders.2.2.1 MX9_layOrders.2.2.2 ∈ ztb := ztb_mem (List.mem_of_getElem? (i := 1358) (by decide +kernel)) rfl
theorem si_X9_layOrders : Cond.instanceMethod MX9_layOrders.1 ∈ ztb := ztb_mem (List.mem_of_getElem? (i := 1357) (by decide +kernel)) rfl
theorem se_X9_layOrders : Cond.selects MX9_layOrders.1.cls MX9_layOrders.1 MX9_layOrders.1 ∈ ztb := ztb_sel (List.mem_of_getElem? (i := 56) (by decide +kernel)) rfl
abbrev MX9_steps : ZY := (yX9_steps, cX9_steps, 1, (some .int))
theorem cd_X9_steps : Cond.code MX9_steps.1 MX9_steps.2.1 MX9_steps.2.2.1 MX9_steps.2.2.2 ∈ ztb := ztb_mem (List.mem_of_getElem? (i := 1346) (by decide +kernel)) rfl
theorem si_X9_steps : Cond.instanceMethod MX9_steps.1 ∈ ztb := ztb_mem (List.mem_of_getElem? (i := 1344) (by decide +kernel)) rfl
theorem se_X9_steps : Cond.selects MX9_steps.1.cls MX9_steps.1 MX9_steps.1 ∈ ztb := ztb_mem (List.mem_of_getElem? (i := 1345) (by decide +kernel)) rfl
abbrev MX9_step : ZY := (yX9_step, cX9_step, 2, (some .int))
theorem cd_X9_step : Cond.code MX9_step.1 MX9_step.2.1 MX9_step.2.2.1 MX9_step.2.2.2 ∈ ztb := ztb_mem (List.mem_of_getElem? (i := 1354) (by decide +kernel)) rfl
theorem si_X9_step : Cond.instanceMethod MX9_step.1 ∈ ztb := ztb_mem (List.mem_of_getElem? (i := 1352) (by decide +kernel)) rfl
theorem se_X9_step : Cond.selects MX9_step.1.cls MX9_step.1 MX9_step.1 ∈ ztb := ztb_mem (List.mem_of_getElem? (i := 1353) (by decide +kernel)) rfl
abbrev MX9_stepWorst : ZY := (yX9_stepWorst, cX9_stepWorst, 1, (some .int))
theorem cd_X9_stepWorst : Cond.code MX9_stepWorst.1 MX9_stepWorst.2.1 MX9_stepWorst.2.2.1 MX9_stepWorst.2.2.2 ∈ ztb := ztb_mem (List.mem_of_getElem? (i := 1371) (by decide +kernel)) rfl
theorem si_X9_stepWorst : Cond.instanceMethod MX9_stepWorst.1 ∈ ztb := ztb_mem (List.mem_of_getElem? (i := 1369) (by decide +kernel)) rfl
theorem se_X9_stepWorst : Cond.selects MX9_stepWorst.1.cls MX9_stepWorst.1 MX9_stepWorst.1 ∈ ztb := ztb_mem (List.mem_of_getElem? (i := 1370) (by decide +kernel)) rfl
abbrev MX9_go : ZY := (yX9_go, cX9_go, 2, (some .int))
theorem cd_X9_go : Cond.code MX9_go.1 MX9_go.2.1 MX9_go.2.2.1 MX9_go.2.2.2 ∈ ztb := ztb_mem (List.mem_of_getElem? (i := 1375) (by decide +kernel)) rfl
theorem si_X9_go : Cond.instanceMethod MX9_go.1 ∈ ztb := ztb_mem (List.mem_of_getElem? (i := 1373) (by decide +kernel)) rfl
theorem se_X9_go : Cond.selects MX9_go.1.cls MX9_go.1 MX9_go.1 ∈ ztb := ztb_mem (List.mem_of_getElem? (i := 1374) (by decide +kernel)) rfl
abbrev MX9_count : ZY := (yX9_count, cX9_count, 6, (some .int))
theorem cd_X9_count : Cond.code MX9_count.1 MX9_count.2.1 MX9_count.2.2.1 MX9_count.2.2.2 ∈ ztb := ztb_mem (List.mem_of_getElem? (i := 1379) (by decide +kernel)) rfl
theorem si_X9_count : Cond.instanceMethod MX9_count.1 ∈ ztb := ztb_mem (List.mem_of_getElem? (i := 1377) (by decide +kernel)) rfl
theorem se_X9_count : Cond.selects MX9_count.1.cls MX9_count.1 MX9_count.1 ∈ ztb := ztb_mem (List.mem_of_getElem? (i := 1378) (by decide +kernel)) rfl
abbrev MJ6_numberOfTrailingZeros_0f7a4 : ZY := (yJ6_numberOfTrailingZeros_0f7a4, cJ6_numberOfTrailingZeros_0f7a4, 2, (some .int))
theorem cd_J6_numberOfTrailingZeros_0f7a4 : Cond.code MJ6_numberOfTrailingZeros_0f7a4.1 MJ6_numberOfTrailingZeros_0f7a4.2.1 MJ6_numberOfTrailingZeros_0f7a4.2.2.1 MJ6_numberOfTrailingZeros_0f7a4.2.2.2 ∈ ztb := ztb_mem (List.mem_of_getElem? (i := 496) (by decide +kernel)) rfl
theorem ss_J6_numberOfTrailingZeros_0f7a4 : Cond.static MJ6_numberOfTrailingZeros_0f7a4.1 ∈ ztb := ztb_mem (List.mem_of_getElem? (i := 495) (by decide +kernel)) rfl
abbrev MJ6_bitCount_0f7a4 : ZY := (yJ6_bitCount_0f7a4, cJ6_bitCount_0f7a4, 1, (some .int))
theorem cd_J6_bitCount_0f7a4 : Cond.code MJ6_bitCount_0f7a4.1 MJ6_bitCount_0f7a4.2.1 MJ6_bitCount_0f7a4.2.2.1 MJ6_bitCount_0f7a4.2.2.2 ∈ ztb := ztb_mem (List.mem_of_getElem? (i := 678) (by decide +kernel)) rfl
theorem ss_J6_bitCount_0f7a4 : Cond.static MJ6_bitCount_0f7a4.1 ∈ ztb := ztb_mem (List.mem_of_getElem? (i := 677) (by decide +kernel)) rfl
abbrev MJ9_max_7cf53 : ZY := (yJ9_max_7cf53, cJ9_max_7cf53, 2, (some .int))
theorem cd_J9_max_7cf53 : Cond.code MJ9_max_7cf53.1 MJ9_max_7cf53.2.1 MJ9_max_7cf53.2.2.1 MJ9_max_7cf53.2.2.2 ∈ ztb := ztb_mem (List.mem_of_getElem? (i := 630) (by decide +kernel)) rfl
theorem ss_J9_max_7cf53 : Cond.static MJ9_max_7cf53.1 ∈ ztb := ztb_mem (List.mem_of_getElem? (i := 629) (by decide +kernel)) rfl
abbrev MJ9_min_7cf53 : ZY := (yJ9_min_7cf53, cJ9_min_7cf53, 2, (some .int))
theorem cd_J9_min_7cf53 : Cond.code MJ9_min_7cf53.1 MJ9_min_7cf53.2.1 MJ9_min_7cf53.2.2.1 MJ9_min_7cf53.2.2.2 ∈ ztb := ztb_mem (List.mem_of_getElem? (i := 855) (by decide +kernel)) rfl
theorem ss_J9_min_7cf53 : Cond.static MJ9_min_7cf53.1 ∈ ztb := ztb_mem (List.mem_of_getElem? (i := 854) (by decide +kernel)) rfl
abbrev MJ7_fill_d0a16 : ZY := (yJ7_fill_d0a16, cJ7_fill_d0a16, 5, none)
theorem cd_J7_fill_d0a16 : Cond.code MJ7_fill_d0a16.1 MJ7_fill_d0a16.2.1 MJ7_fill_d0a16.2.2.1 MJ7_fill_d0a16.2.2.2 ∈ ztb := ztb_mem (List.mem_of_getElem? (i := 504) (by decide +kernel)) rfl
theorem ss_J7_fill_d0a16 : Cond.static MJ7_fill_d0a16.1 ∈ ztb := ztb_mem (List.mem_of_getElem? (i := 503) (by decide +kernel)) rfl
abbrev MJ7_fill_53178 : ZY := (yJ7_fill_53178, cJ7_fill_53178, 4, none)
theorem cd_J7_fill_53178 : Cond.code MJ7_fill_53178.1 MJ7_fill_53178.2.1 MJ7_fill_53178.2.2.1 MJ7_fill_53178.2.2.2 ∈ ztb := ztb_mem (List.mem_of_getElem? (i := 70) (by decide +kernel)) rfl
theorem ss_J7_fill_53178 : Cond.static MJ7_fill_53178.1 ∈ ztb := ztb_mem (List.mem_of_getElem? (i := 69) (by decide +kernel)) rfl
theorem lc_RX8_66 : zLc RX8 66 MX8_within 2 := ⟨ztb_mem (List.mem_of_getElem? (i := 376) (by decide +kernel)) rfl, ztb_mem (List.mem_of_getElem? (i := 1) (by decide +kernel)) rfl, cd_X8_within, ⟨by decide, by decide, by decide +kernel⟩, by decide⟩
theorem ls_RX8_66 : zLS RX8 66 MX8_within 2 := ⟨lc_RX8_66, ss_X8_within⟩
theorem lc_RX8_74 : zLc RX8 74 MX8_forgetAll 0 := ⟨ztb_mem (List.mem_of_getElem? (i := 379) (by decide +kernel)) rfl, ztb_mem (List.mem_of_getElem? (i := 1) (by decide +kernel)) rfl, cd_X8_forgetAll, ⟨by decide, by decide, by decide +kernel⟩, by decide⟩
theorem lv_RX8_74 : zLV RX8 74 MX8_forgetAll 8 0 := ⟨lc_RX8_74, si_X8_forgetAll, se_X8_forgetAll, (RX8, TX8, 7), rfl, rfl⟩
theorem lc_RX8_77 : zLc RX8 77 MX3_add 1 := ⟨ztb_mem (List.mem_of_getElem? (i := 391) (by decide +kernel)) rfl, ztb_mem (List.mem_of_getElem? (i := 2) (by decide +kernel)) rfl, cd_X3_add, ⟨by decide, by decide, by decide +kernel⟩, by decide⟩
theorem lv_RX8_77 : zLV RX8 77 MX3_add 3 1 := ⟨lc_RX8_77, si_X3_add, se_X3_add, (RX3, TX3, 7), rfl, rfl⟩
theorem lc_RX8_81 : zLc RX8 81 MX3_has 1 := ⟨ztb_mem (List.mem_of_getElem? (i := 399) (by decide +kernel)) rfl, ztb_mem (List.mem_of_getElem? (i := 2) (by decide +kernel)) rfl, cd_X3_has, ⟨by decide, by decide, by decide +kernel⟩, by decide⟩
theorem lv_RX8_81 : zLV RX8 81 MX3_has 3 1 := ⟨lc_RX8_81, si_X3_has, se_X3_has, (RX3, TX3, 7), rfl, rfl⟩
theorem lc_RX8_85 : zLc RX8 85 MX3_bond 2 := ⟨ztb_mem (List.mem_of_getElem? (i := 403) (by decide +kernel)) rfl, ztb_mem (List.mem_of_getElem? (i := 2) (by decide +kernel)) rfl, cd_X3_bond, ⟨by decide, by decide, by decide +kernel⟩, by decide⟩
theorem lv_RX8_85 : zLV RX8 85 MX3_bond 3 2 := ⟨lc_RX8_85, si_X3_bond, se_X3_bond, (RX3, TX3, 7), rfl, rfl⟩
theorem lc_RX8_89 : zLc RX8 89 MX3_buysFrom 2 := ⟨ztb_mem (List.mem_of_getElem? (i := 407) (by decide +kernel)) rfl, ztb_mem (List.mem_of_getElem? (i := 2) (by decide +kernel)) rfl, cd_X3_buysFrom, ⟨by decide, by decide, by decide +kernel⟩, by decide⟩
theorem lv_RX8_89 : zLV RX8 89 MX3_buysFrom 3 2 := ⟨lc_RX8_89, si_X3_buysFrom, se_X3_buysFrom, (RX3, TX3, 7), rfl, rfl⟩
theorem lc_RX8_95 : zLc RX8 95 MX3_join 3 := ⟨ztb_mem (List.mem_of_getElem? (i := 415) (by decide +kernel)) rfl, ztb_mem (List.mem_of_getElem? (i := 2) (by decide +kernel)) rfl, cd_X3_join, ⟨by decide, by decide, by decide +kernel⟩, by decide⟩
theorem lv_RX8_95 : zLV RX8 95 MX3_join 3 3 := ⟨lc_RX8_95, si_X3_join, se_X3_join, (RX3, TX3, 7), rfl, rfl⟩
theorem lc_RX8_103 : zLc RX8 103 MX8_put 3 := ⟨ztb_mem (List.mem_of_getElem? (i := 427) (by decide +kernel)) rfl, ztb_mem (List.mem_of_getElem? (i := 1) (by decide +kernel)) rfl, cd_X8_put, ⟨by decide, by decide, by decide +kernel⟩, by decide⟩
theorem ls_RX8_103 : zLS RX8 103 MX8_put 3 := ⟨lc_RX8_103, ss_X8_put⟩
theorem lc_RX8_118 : zLc RX8 118 MX7_add 0 := ⟨ztb_mem (List.mem_of_getElem? (i := 439) (by decide +kernel)) rfl, ztb_mem (List.mem_of_getElem? (i := 5) (by decide +kernel)) rfl, cd_X7_add, ⟨by decide, by decide, by decide +kernel⟩, by decide⟩
theorem lv_RX8_118 : zLV RX8 118 MX7_add 7 0 := ⟨lc_RX8_118, si_X7_add, se_X7_add, (RX7, TX7, 5), rfl, rfl⟩
theorem lc_RX8_121 : zLc RX8 121 MX7_has 1 := ⟨ztb_mem (List.mem_of_getElem? (i := 447) (by decide +kernel)) rfl, ztb_mem (List.mem_of_getElem? (i := 5) (by decide +kernel)) rfl, cd_X7_has, ⟨by decide, by decide, by decide +kernel⟩, by decide⟩
theorem lv_RX8_121 : zLV RX8 121 MX7_has 7 1 := ⟨lc_RX8_121, si_X7_has, se_X7_has, (RX7, TX7, 5), rfl, rfl⟩
theorem lc_RX8_126 : zLc RX8 126 MX8_put_ 3 := ⟨ztb_mem (List.mem_of_getElem? (i := 455) (by decide +kernel)) rfl, ztb_mem (List.mem_of_getElem? (i := 1) (by decide +kernel)) rfl, cd_X8_put_, ⟨by decide, by decide, by decide +kernel⟩, by decide⟩
theorem ls_RX8_126 : zLS RX8 126 MX8_put_ 3 := ⟨lc_RX8_126, ss_X8_put_⟩
theorem lc_RX8_132 : zLc RX8 132 MX3_everyone 0 := ⟨ztb_mem (List.mem_of_getElem? (i := 466) (by decide +kernel)) rfl, ztb_mem (List.mem_of_getElem? (i := 2) (by decide +kernel)) rfl, cd_X3_everyone, ⟨by decide, by decide, by decide +kernel⟩, by decide⟩
theorem lv_RX8_132 : zLV RX8 132 MX3_everyone 3 0 := ⟨lc_RX8_132, si_X3_everyone, se_X3_everyone, (RX3, TX3, 7), rfl, rfl⟩
theorem lc_RX8_144 : zLc RX8 144 MX8_settleNow 0 := ⟨ztb_mem (List.mem_of_getElem? (i := 482) (by decide +kernel)) rfl, ztb_mem (List.mem_of_getElem? (i := 1) (by decide +kernel)) rfl, cd_X8_settleNow, ⟨by decide, by decide, by decide +kernel⟩, by decide⟩
theorem lv_RX8_144 : zLV RX8 144 MX8_settleNow 8 0 := ⟨lc_RX8_144, si_X8_settleNow, se_X8_settleNow, (RX8, TX8, 7), rfl, rfl⟩
theorem lc_RX8_147 : zLc RX8 147 MX8_restRefusal 1 := ⟨ztb_mem (List.mem_of_getElem? (i := 555) (by decide +kernel)) rfl, ztb_mem (List.mem_of_getElem? (i := 1) (by decide +kernel)) rfl, cd_X8_restRefusal, ⟨by decide, by decide, by decide +kernel⟩, by decide⟩
theorem lv_RX8_147 : zLV RX8 147 MX8_restRefusal 8 1 := ⟨lc_RX8_147, si_X8_restRefusal, se_X8_restRefusal, (RX8, TX8, 7), rfl, rfl⟩
theorem lc_RX8_151 : zLc RX8 151 MX2_comesTo 1 := ⟨ztb_mem (List.mem_of_getElem? (i := 559) (by decide +kernel)) rfl, ztb_mem (List.mem_of_getElem? (i := 6) (by decide +kernel)) rfl, cd_X2_comesTo, ⟨by decide, by decide, by decide +kernel⟩, by decide⟩
theorem lv_RX8_151 : zLV RX8 151 MX2_comesTo 2 1 := ⟨lc_RX8_151, si_X2_comesTo, se_X2_comesTo, (RX2, TX2, 8), rfl, rfl⟩
theorem lc_RX8_158 : zLc RX8 158 MX2_namesOf 1 := ⟨ztb_mem (List.mem_of_getElem? (i := 567) (by decide +kernel)) rfl, ztb_mem (List.mem_of_getElem? (i := 6) (by decide +kernel)) rfl, cd_X2_namesOf, ⟨by decide, by decide, by decide +kernel⟩, by decide⟩
theorem ls_RX8_158 : zLS RX8 158 MX2_namesOf 1 := ⟨lc_RX8_158, ss_X2_namesOf⟩
theorem lc_RX8_162 : zLc RX8 162 MX2_passedAt 2 := ⟨ztb_mem (List.mem_of_getElem? (i := 572) (by decide +kernel)) rfl, ztb_mem (List.mem_of_getElem? (i := 6) (by decide +kernel)) rfl, cd_X2_passedAt, ⟨by decide, by decide, by decide +kernel⟩, by decide⟩
theorem ls_RX8_162 : zLS RX8 162 MX2_passedAt 2 := ⟨lc_RX8_162, ss_X2_passedAt⟩
theorem lc_RX8_166 : zLc RX8 166 MX2_hear 2 := ⟨ztb_mem (List.mem_of_getElem? (i := 577) (by decide +kernel)) rfl, ztb_mem (List.mem_of_getElem? (i := 6) (by decide +kernel)) rfl, cd_X2_hear, ⟨by decide, by decide, by decide +kernel⟩, by decide⟩
theorem lv_RX8_166 : zLV RX8 166 MX2_hear 2 2 := ⟨lc_RX8_166, si_X2_hear, se_X2_hear, (RX2, TX2, 8), rfl, rfl⟩
theorem lc_RX8_173 : zLc RX8 173 MX2_needed 1 := ⟨ztb_mem (List.mem_of_getElem? (i := 582) (by decide +kernel)) rfl, ztb_mem (List.mem_of_getElem? (i := 6) (by decide +kernel)) rfl, cd_X2_needed, ⟨by decide, by decide, by decide +kernel⟩, by decide⟩
theorem lv_RX8_173 : zLV RX8 173 MX2_needed 2 1 := ⟨lc_RX8_173, si_X2_needed, se_X2_needed, (RX2, TX2, 8), rfl, rfl⟩
theorem lc_RX8_176 : zLc RX8 176 MX1_pickNow 0 := ⟨ztb_mem (List.mem_of_getElem? (i := 600) (by decide +kernel)) rfl, ztb_mem (List.mem_of_getElem? (i := 7) (by decide +kernel)) rfl, cd_X1_pickNow, ⟨by decide, by decide, by decide +kernel⟩, by decide⟩
theorem lv_RX8_176 : zLV RX8 176 MX1_pickNow 1 0 := ⟨lc_RX8_176, si_X1_pickNow, se_X1_pickNow, (RX1, TX1, 15), rfl, rfl⟩
theorem lc_RX8_182 : zLc RX8 182 MX1_measure 0 := ⟨ztb_mem (List.mem_of_getElem? (i := 605) (by decide +kernel)) rfl, ztb_mem (List.mem_of_getElem? (i := 7) (by decide +kernel)) rfl, cd_X1_measure, ⟨by decide, by decide, by decide +kernel⟩, by decide⟩
theorem lv_RX8_182 : zLV RX8 182 MX1_measure 1 0 := ⟨lc_RX8_182, si_X1_measure, se_X1_measure, (RX1, TX1, 15), rfl, rfl⟩
theorem lc_RX8_185 : zLc RX8 185 MX8_stateIfNone 1 := ⟨ztb_mem (List.mem_of_getElem? (i := 631) (by decide +kernel)) rfl, ztb_mem (List.mem_of_getElem? (i := 1) (by decide +kernel)) rfl, cd_X8_stateIfNone, ⟨by decide, by decide, by decide +kernel⟩, by decide⟩
theorem ls_RX8_185 : zLS RX8 185 MX8_stateIfNone 1 := ⟨lc_RX8_185, ss_X8_stateIfNone⟩
theorem lc_RX8_196 : zLc RX8 196 MX2_outcome 0 := ⟨ztb_mem (List.mem_of_getElem? (i := 647) (by decide +kernel)) rfl, ztb_mem (List.mem_of_getElem? (i := 6) (by decide +kernel)) rfl, cd_X2_outcome, ⟨by decide, by decide, by decide +kernel⟩, by decide⟩
theorem lv_RX8_196 : zLV RX8 196 MX2_outcome 2 0 := ⟨lc_RX8_196, si_X2_outcome, se_X2_outcome, (RX2, TX2, 8), rfl, rfl⟩
theorem lc_RX8_199 : zLc RX8 199 MX3_askersUnlike 2 := ⟨ztb_mem (List.mem_of_getElem? (i := 651) (by decide +kernel)) rfl, ztb_mem (List.mem_of_getElem? (i := 2) (by decide +kernel)) rfl, cd_X3_askersUnlike, ⟨by decide, by decide, by decide +kernel⟩, by decide⟩
theorem lv_RX8_199 : zLV RX8 199 MX3_askersUnlike 3 2 := ⟨lc_RX8_199, si_X3_askersUnlike, se_X3_askersUnlike, (RX3, TX3, 7), rfl, rfl⟩
theorem lc_RX8_205 : zLc RX8 205 MX0_forget 0 := ⟨ztb_mem (List.mem_of_getElem? (i := 387) (by decide +kernel)) rfl, ztb_mem (List.mem_of_getElem? (i := 9) (by decide +kernel)) rfl, cd_X0_forget, ⟨by decide, by decide, by decide +kernel⟩, by decide⟩
theorem lv_RX8_205 : zLV RX8 205 MX0_forget 0 0 := ⟨lc_RX8_205, si_X0_forget, se_X0_forget, (RX0, TX0, 17), rfl, rfl⟩
theorem lc_RX8_208 : zLc RX8 208 MX0_keepTrial 0 := ⟨ztb_mem (List.mem_of_getElem? (i := 659) (by decide +kernel)) rfl, ztb_mem (List.mem_of_getElem? (i := 9) (by decide +kernel)) rfl, cd_X0_keepTrial, ⟨by decide, by decide, by decide +kernel⟩, by decide⟩
theorem lv_RX8_208 : zLV RX8 208 MX0_keepTrial 0 0 := ⟨lc_RX8_208, si_X0_keepTrial, se_X0_keepTrial, (RX0, TX0, 17), rfl, rfl⟩
theorem lc_RX8_220 : zLc RX8 220 MX3_caseCount 0 := ⟨ztb_mem (List.mem_of_getElem? (i := 672) (by decide +kernel)) rfl, ztb_mem (List.mem_of_getElem? (i := 2) (by decide +kernel)) rfl, cd_X3_caseCount, ⟨by decide, by decide, by decide +kernel⟩, by decide⟩
theorem lv_RX8_220 : zLV RX8 220 MX3_caseCount 3 0 := ⟨lc_RX8_220, si_X3_caseCount, se_X3_caseCount, (RX3, TX3, 7), rfl, rfl⟩
theorem lc_RX8_223 : zLc RX8 223 MX0_sift 0 := ⟨ztb_mem (List.mem_of_getElem? (i := 686) (by decide +kernel)) rfl, ztb_mem (List.mem_of_getElem? (i := 9) (by decide +kernel)) rfl, cd_X0_sift, ⟨by decide, by decide, by decide +kernel⟩, by decide⟩
theorem lv_RX8_223 : zLV RX8 223 MX0_sift 0 0 := ⟨lc_RX8_223, si_X0_sift, se_X0_sift, (RX0, TX0, 17), rfl, rfl⟩
theorem lc_RX8_230 : zLc RX8 230 MX0_sitesOf 1 := ⟨ztb_mem (List.mem_of_getElem? (i := 721) (by decide +kernel)) rfl, ztb_mem (List.mem_of_getElem? (i := 9) (by decide +kernel)) rfl, cd_X0_sitesOf, ⟨by decide, by decide, by decide +kernel⟩, by decide⟩
theorem lv_RX8_230 : zLV RX8 230 MX0_sitesOf 0 1 := ⟨lc_RX8_230, si_X0_sitesOf, se_X0_sitesOf, (RX0, TX0, 17), rfl, rfl⟩
theorem lc_RX8_233 : zLc RX8 233 MX0_rulesOf 1 := ⟨ztb_mem (List.mem_of_getElem? (i := 734) (by decide +kernel)) rfl, ztb_mem (List.mem_of_getElem? (i := 9) (by decide +kernel)) rfl, cd_X0_rulesOf, ⟨by decide, by decide, by decide +kernel⟩, by decide⟩
theorem lv_RX8_233 : zLV RX8 233 MX0_rulesOf 0 1 := ⟨lc_RX8_233, si_X0_rulesOf, se_X0_rulesOf, (RX0, TX0, 17), rfl, rfl⟩
theorem lc_RX8_239 : zLc RX8 239 MX7_upCount 0 := ⟨ztb_mem (List.mem_of_getElem? (i := 750) (by decide +kernel)) rfl, ztb_mem (List.mem_of_getElem? (i := 5) (by decide +kernel)) rfl, cd_X7_upCount, ⟨by decide, by decide, by decide +kernel⟩, by decide⟩
theorem lv_RX8_239 : zLV RX8 239 MX7_upCount 7 0 := ⟨lc_RX8_239, si_X7_upCount, se_X7_upCount, (RX7, TX7, 5), rfl, rfl⟩
theorem lc_RX8_242 : zLc RX8 242 MX0_seekTrial 0 := ⟨ztb_mem (List.mem_of_getElem? (i := 754) (by decide +kernel)) rfl, ztb_mem (List.mem_of_getElem? (i := 9) (by decide +kernel)) rfl, cd_X0_seekTrial, ⟨by decide, by decide, by decide +kernel⟩, by decide⟩
theorem lv_RX8_242 : zLV RX8 242 MX0_seekTrial 0 0 := ⟨lc_RX8_242, si_X0_seekTrial, se_X0_seekTrial, (RX0, TX0, 17), rfl, rfl⟩
theorem lc_RX8_254 : zLc RX8 254 MX1_measureAll 0 := ⟨ztb_mem (List.mem_of_getElem? (i := 771) (by decide +kernel)) rfl, ztb_mem (List.mem_of_getElem? (i := 7) (by decide +kernel)) rfl, cd_X1_measureAll, ⟨by decide, by decide, by decide +kernel⟩, by decide⟩
theorem lv_RX8_254 : zLV RX8 254 MX1_measureAll 1 0 := ⟨lc_RX8_254, si_X1_measureAll, se_X1_measureAll, (RX1, TX1, 15), rfl, rfl⟩
theorem lc_RX8_257 : zLc RX8 257 MX1_seek 1 := ⟨ztb_mem (List.mem_of_getElem? (i := 785) (by decide +kernel)) rfl, ztb_mem (List.mem_of_getElem? (i := 7) (by decide +kernel)) rfl, cd_X1_seek, ⟨by decide, by decide, by decide +kernel⟩, by decide⟩
theorem lv_RX8_257 : zLV RX8 257 MX1_seek 1 1 := ⟨lc_RX8_257, si_X1_seek, se_X1_seek, (RX1, TX1, 15), rfl, rfl⟩
theorem lc_RX8_272 : zLc RX8 272 MX4_aimOf 1 := ⟨ztb_mem (List.mem_of_getElem? (i := 814) (by decide +kernel)) rfl, ztb_mem (List.mem_of_getElem? (i := 8) (by decide +kernel)) rfl, cd_X4_aimOf, ⟨by decide, by decide, by decide +kernel⟩, by decide⟩
theorem lv_RX8_272 : zLV RX8 272 MX4_aimOf 4 1 := ⟨lc_RX8_272, si_X4_aimOf, se_X4_aimOf, (RX4, TX4, 8), rfl, rfl⟩
theorem lc_RX8_278 : zLc RX8 278 MX4_toChange 0 := ⟨ztb_mem (List.mem_of_getElem? (i := 822) (by decide +kernel)) rfl, ztb_mem (List.mem_of_getElem? (i := 8) (by decide +kernel)) rfl, cd_X4_toChange, ⟨by decide, by decide, by decide +kernel⟩, by decide⟩
theorem lv_RX8_278 : zLV RX8 278 MX4_toChange 4 0 := ⟨lc_RX8_278, si_X4_toChange, se_X4_toChange, (RX4, TX4, 8), rfl, rfl⟩
theorem lc_RX8_281 : zLc RX8 281 MJ6_bitCount_0f7a4 1 := ⟨ztb_mem (List.mem_of_getElem? (i := 827) (by decide +kernel)) rfl, ztb_mem (List.mem_of_getElem? (i := 12) (by decide +kernel)) rfl, cd_J6_bitCount_0f7a4, ⟨by decide, by decide, by decide +kernel⟩, by decide⟩
theorem ls_RX8_281 : zLS RX8 281 MJ6_bitCount_0f7a4 1 := ⟨lc_RX8_281, ss_J6_bitCount_0f7a4⟩
theorem lc_RX8_286 : zLc RX8 286 MX4_plan 0 := ⟨ztb_mem (List.mem_of_getElem? (i := 832) (by decide +kernel)) rfl, ztb_mem (List.mem_of_getElem? (i := 8) (by decide +kernel)) rfl, cd_X4_plan, ⟨by decide, by decide, by decide +kernel⟩, by decide⟩
theorem lv_RX8_286 : zLV RX8 286 MX4_plan 4 0 := ⟨lc_RX8_286, si_X4_plan, se_X4_plan, (RX4, TX4, 8), rfl, rfl⟩
theorem lc_RX8_298 : zLc RX8 298 MX3_allAskers 0 := ⟨ztb_mem (List.mem_of_getElem? (i := 872) (by decide +kernel)) rfl, ztb_mem (List.mem_of_getElem? (i := 2) (by decide +kernel)) rfl, cd_X3_allAskers, ⟨by decide, by decide, by decide +kernel⟩, by decide⟩
theorem lv_RX8_298 : zLV RX8 298 MX3_allAskers 3 0 := ⟨lc_RX8_298, si_X3_allAskers, se_X3_allAskers, (RX3, TX3, 7), rfl, rfl⟩
theorem lc_RX8_301 : zLc RX8 301 MX3_surelyGuessed 0 := ⟨ztb_mem (List.mem_of_getElem? (i := 876) (by decide +kernel)) rfl, ztb_mem (List.mem_of_getElem? (i := 2) (by decide +kernel)) rfl, cd_X3_surelyGuessed, ⟨by decide, by decide, by decide +kernel⟩, by decide⟩
theorem lv_RX8_301 : zLV RX8 301 MX3_surelyGuessed 3 0 := ⟨lc_RX8_301, si_X3_surelyGuessed, se_X3_surelyGuessed, (RX3, TX3, 7), rfl, rfl⟩
theorem lc_RX8_304 : zLc RX8 304 MX1_forget 0 := ⟨ztb_mem (List.mem_of_getElem? (i := 383) (by decide +kernel)) rfl, ztb_mem (List.mem_of_getElem? (i := 7) (by decide +kernel)) rfl, cd_X1_forget, ⟨by decide, by decide, by decide +kernel⟩, by decide⟩
theorem lv_RX8_304 : zLV RX8 304 MX1_forget 1 0 := ⟨lc_RX8_304, si_X1_forget, se_X1_forget, (RX1, TX1, 15), rfl, rfl⟩
theorem lc_RX8_305 : zLc RX8 305 MX2_takeLeastRules 0 := ⟨ztb_mem (List.mem_of_getElem? (i := 486) (by decide +kernel)) rfl, ztb_mem (List.mem_of_getElem? (i := 6) (by decide +kernel)) rfl, cd_X2_takeLeastRules, ⟨by decide, by decide, by decide +kernel⟩, by decide⟩
theorem lv_RX8_305 : zLV RX8 305 MX2_takeLeastRules 2 0 := ⟨lc_RX8_305, si_X2_takeLeastRules, se_X2_takeLeastRules, (RX2, TX2, 8), rfl, rfl⟩
theorem lc_RX8_308 : zLc RX8 308 MX2_settle 1 := ⟨ztb_mem (List.mem_of_getElem? (i := 498) (by decide +kernel)) rfl, ztb_mem (List.mem_of_getElem? (i := 6) (by decide +kernel)) rfl, cd_X2_settle, ⟨by decide, by decide, by decide +kernel⟩, by decide⟩
theorem lv_RX8_308 : zLV RX8 308 MX2_settle 2 1 := ⟨lc_RX8_308, si_X2_settle, se_X2_settle, (RX2, TX2, 8), rfl, rfl⟩
theorem lc_RX0_60 : zLc RX0 60 MX7_copy 1 := ⟨ztb_mem (List.mem_of_getElem? (i := 663) (by decide +kernel)) rfl, ztb_mem (List.mem_of_getElem? (i := 5) (by decide +kernel)) rfl, cd_X7_copy, ⟨by decide, by decide, by decide +kernel⟩, by decide⟩
theorem lv_RX0_60 : zLV RX0 60 MX7_copy 7 1 := ⟨lc_RX0_60, si_X7_copy, se_X7_copy, (RX7, TX7, 5), rfl, rfl⟩
theorem lc_RX0_64 : zLc RX0 64 MX3_caseCount 0 := ⟨ztb_mem (List.mem_of_getElem? (i := 690) (by decide +kernel)) rfl, ztb_mem (List.mem_of_getElem? (i := 2) (by decide +kernel)) rfl, cd_X3_caseCount, ⟨by decide, by decide, by decide +kernel⟩, by decide⟩
theorem lv_RX0_64 : zLV RX0 64 MX3_caseCount 3 0 := ⟨lc_RX0_64, si_X3_caseCount, se_X3_caseCount, (RX3, TX3, 7), rfl, rfl⟩
theorem lc_RX0_76 : zLc RX0 76 MX2_takeLeastRules 0 := ⟨ztb_mem (List.mem_of_getElem? (i := 691) (by decide +kernel)) rfl, ztb_mem (List.mem_of_getElem? (i := 6) (by decide +kernel)) rfl, cd_X2_takeLeastRules, ⟨by decide, by decide, by decide +kernel⟩, by decide⟩
theorem lv_RX0_76 : zLV RX0 76 MX2_takeLeastRules 2 0 := ⟨lc_RX0_76, si_X2_takeLeastRules, se_X2_takeLeastRules, (RX2, TX2, 8), rfl, rfl⟩
theorem lc_RX0_81 : zLc RX0 81 MX0_firstQuarrel 0 := ⟨ztb_mem (List.mem_of_getElem? (i := 692) (by decide +kernel)) rfl, ztb_mem (List.mem_of_getElem? (i := 9) (by decide +kernel)) rfl, cd_X0_firstQuarrel, ⟨by decide, by decide, by decide +kernel⟩, by decide⟩
theorem lv_RX0_81 : zLV RX0 81 MX0_firstQuarrel 0 0 := ⟨lc_RX0_81, si_X0_firstQuarrel, se_X0_firstQuarrel, (RX0, TX0, 17), rfl, rfl⟩
theorem lc_RX0_84 : zLc RX0 84 MX0_packedRules 0 := ⟨ztb_mem (List.mem_of_getElem? (i := 706) (by decide +kernel)) rfl, ztb_mem (List.mem_of_getElem? (i := 9) (by decide +kernel)) rfl, cd_X0_packedRules, ⟨by decide, by decide, by decide +kernel⟩, by decide⟩
theorem lv_RX0_84 : zLV RX0 84 MX0_packedRules 0 0 := ⟨lc_RX0_84, si_X0_packedRules, se_X0_packedRules, (RX0, TX0, 17), rfl, rfl⟩
theorem lc_RX0_87 : zLc RX0 87 MJ9_max_7cf53 2 := ⟨ztb_mem (List.mem_of_getElem? (i := 710) (by decide +kernel)) rfl, ztb_mem (List.mem_of_getElem? (i := 14) (by decide +kernel)) rfl, cd_J9_max_7cf53, ⟨by decide, by decide, by decide +kernel⟩, by decide⟩
theorem ls_RX0_87 : zLS RX0 87 MJ9_max_7cf53 2 := ⟨lc_RX0_87, ss_J9_max_7cf53⟩
theorem lc_RX0_93 : zLc RX0 93 MX0_takeNextRules 0 := ⟨ztb_mem (List.mem_of_getElem? (i := 711) (by decide +kernel)) rfl, ztb_mem (List.mem_of_getElem? (i := 9) (by decide +kernel)) rfl, cd_X0_takeNextRules, ⟨by decide, by decide, by decide +kernel⟩, by decide⟩
theorem lv_RX0_93 : zLV RX0 93 MX0_takeNextRules 0 0 := ⟨lc_RX0_93, si_X0_takeNextRules, se_X0_takeNextRules, (RX0, TX0, 17), rfl, rfl⟩
theorem lc_RX0_106 : zLc RX0 106 MJ6_numberOfTrailingZeros_0f7a4 1 := ⟨ztb_mem (List.mem_of_getElem? (i := 715) (by decide +kernel)) rfl, ztb_mem (List.mem_of_getElem? (i := 12) (by decide +kernel)) rfl, cd_J6_numberOfTrailingZeros_0f7a4, ⟨by decide, by decide, by decide +kernel⟩, by decide⟩
theorem ls_RX0_106 : zLS RX0 106 MJ6_numberOfTrailingZeros_0f7a4 1 := ⟨lc_RX0_106, ss_J6_numberOfTrailingZeros_0f7a4⟩
theorem lc_RX0_112 : zLc RX0 112 MX3_leastRule 1 := ⟨ztb_mem (List.mem_of_getElem? (i := 716) (by decide +kernel)) rfl, ztb_mem (List.mem_of_getElem? (i := 2) (by decide +kernel)) rfl, cd_X3_leastRule, ⟨by decide, by decide, by decide +kernel⟩, by decide⟩
theorem lv_RX0_112 : zLV RX0 112 MX3_leastRule 3 1 := ⟨lc_RX0_112, si_X3_leastRule, se_X3_leastRule, (RX3, TX3, 7), rfl, rfl⟩
theorem lc_RX0_115 : zLc RX0 115 MX6_isSeen 0 := ⟨ztb_mem (List.mem_of_getElem? (i := 696) (by decide +kernel)) rfl, ztb_mem (List.mem_of_getElem? (i := 10) (by decide +kernel)) rfl, cd_X6_isSeen, ⟨by decide, by decide, by decide +kernel⟩, by decide⟩
theorem lv_RX0_115 : zLV RX0 115 MX6_isSeen 6 0 := ⟨lc_RX0_115, si_X6_isSeen, se_X6_isSeen, (RX6, TX6, 2), rfl, rfl⟩
theorem lc_RX0_118 : zLc RX0 118 MX2_settle 1 := ⟨ztb_mem (List.mem_of_getElem? (i := 700) (by decide +kernel)) rfl, ztb_mem (List.mem_of_getElem? (i := 6) (by decide +kernel)) rfl, cd_X2_settle, ⟨by decide, by decide, by decide +kernel⟩, by decide⟩
theorem lv_RX0_118 : zLV RX0 118 MX2_settle 2 1 := ⟨lc_RX0_118, si_X2_settle, se_X2_settle, (RX2, TX2, 8), rfl, rfl⟩
theorem lc_RX0_122 : zLc RX0 122 MX6_isAsSeen 1 := ⟨ztb_mem (List.mem_of_getElem? (i := 701) (by decide +kernel)) rfl, ztb_mem (List.mem_of_getElem? (i := 10) (by decide +kernel)) rfl, cd_X6_isAsSeen, ⟨by decide, by decide, by decide +kernel⟩, by decide⟩
theorem lv_RX0_122 : zLV RX0 122 MX6_isAsSeen 6 1 := ⟨lc_RX0_122, si_X6_isAsSeen, se_X6_isAsSeen, (RX6, TX6, 2), rfl, rfl⟩
theorem lc_RX0_126 : zLc RX0 126 MX0_takeRules 1 := ⟨ztb_mem (List.mem_of_getElem? (i := 725) (by decide +kernel)) rfl, ztb_mem (List.mem_of_getElem? (i := 9) (by decide +kernel)) rfl, cd_X0_takeRules, ⟨by decide, by decide, by decide +kernel⟩, by decide⟩
theorem lv_RX0_126 : zLV RX0 126 MX0_takeRules 0 1 := ⟨lc_RX0_126, si_X0_takeRules, se_X0_takeRules, (RX0, TX0, 17), rfl, rfl⟩
theorem lc_RX0_130 : zLc RX0 130 MX2_comesTo 1 := ⟨ztb_mem (List.mem_of_getElem? (i := 729) (by decide +kernel)) rfl, ztb_mem (List.mem_of_getElem? (i := 6) (by decide +kernel)) rfl, cd_X2_comesTo, ⟨by decide, by decide, by decide +kernel⟩, by decide⟩
theorem lv_RX0_130 : zLV RX0 130 MX2_comesTo 2 1 := ⟨lc_RX0_130, si_X2_comesTo, se_X2_comesTo, (RX2, TX2, 8), rfl, rfl⟩
theorem lc_RX0_144 : zLc RX0 144 MX0_greatestAlike 2 := ⟨ztb_mem (List.mem_of_getElem? (i := 758) (by decide +kernel)) rfl, ztb_mem (List.mem_of_getElem? (i := 9) (by decide +kernel)) rfl, cd_X0_greatestAlike, ⟨by decide, by decide, by decide +kernel⟩, by decide⟩
theorem lv_RX0_144 : zLV RX0 144 MX0_greatestAlike 0 2 := ⟨lc_RX0_144, si_X0_greatestAlike, se_X0_greatestAlike, (RX0, TX0, 17), rfl, rfl⟩
theorem lc_RX0_156 : zLc RX0 156 MX2_outcome 0 := ⟨ztb_mem (List.mem_of_getElem? (i := 762) (by decide +kernel)) rfl, ztb_mem (List.mem_of_getElem? (i := 6) (by decide +kernel)) rfl, cd_X2_outcome, ⟨by decide, by decide, by decide +kernel⟩, by decide⟩
theorem lv_RX0_156 : zLV RX0 156 MX2_outcome 2 0 := ⟨lc_RX0_156, si_X2_outcome, se_X2_outcome, (RX2, TX2, 8), rfl, rfl⟩
theorem lc_RX0_159 : zLc RX0 159 MX0_countAlike 1 := ⟨ztb_mem (List.mem_of_getElem? (i := 763) (by decide +kernel)) rfl, ztb_mem (List.mem_of_getElem? (i := 9) (by decide +kernel)) rfl, cd_X0_countAlike, ⟨by decide, by decide, by decide +kernel⟩, by decide⟩
theorem lv_RX0_159 : zLV RX0 159 MX0_countAlike 0 1 := ⟨lc_RX0_159, si_X0_countAlike, se_X0_countAlike, (RX0, TX0, 17), rfl, rfl⟩
theorem lc_RX1_53 : zLc RX1 53 MX7_isSaid 1 := ⟨ztb_mem (List.mem_of_getElem? (i := 604) (by decide +kernel)) rfl, ztb_mem (List.mem_of_getElem? (i := 5) (by decide +kernel)) rfl, cd_X7_isSaid, ⟨by decide, by decide, by decide +kernel⟩, by decide⟩
theorem lv_RX1_53 : zLV RX1 53 MX7_isSaid 7 1 := ⟨lc_RX1_53, si_X7_isSaid, se_X7_isSaid, (RX7, TX7, 5), rfl, rfl⟩
theorem lc_RX1_60 : zLc RX1 60 MX7_has 1 := ⟨ztb_mem (List.mem_of_getElem? (i := 779) (by decide +kernel)) rfl, ztb_mem (List.mem_of_getElem? (i := 5) (by decide +kernel)) rfl, cd_X7_has, ⟨by decide, by decide, by decide +kernel⟩, by decide⟩
theorem lv_RX1_60 : zLV RX1 60 MX7_has 7 1 := ⟨lc_RX1_60, si_X7_has, se_X7_has, (RX7, TX7, 5), rfl, rfl⟩
theorem lc_RX1_71 : zLc RX1 71 MJ7_fill_53178 2 := ⟨ztb_mem (List.mem_of_getElem? (i := 609) (by decide +kernel)) rfl, ztb_mem (List.mem_of_getElem? (i := 4) (by decide +kernel)) rfl, cd_J7_fill_53178, ⟨by decide, by decide, by decide +kernel⟩, by decide⟩
theorem ls_RX1_71 : zLS RX1 71 MJ7_fill_53178 2 := ⟨lc_RX1_71, ss_J7_fill_53178⟩
theorem lc_RX1_77 : zLc RX1 77 MX1_place 0 := ⟨ztb_mem (List.mem_of_getElem? (i := 610) (by decide +kernel)) rfl, ztb_mem (List.mem_of_getElem? (i := 7) (by decide +kernel)) rfl, cd_X1_place, ⟨by decide, by decide, by decide +kernel⟩, by decide⟩
theorem lv_RX1_77 : zLV RX1 77 MX1_place 1 0 := ⟨lc_RX1_77, si_X1_place, se_X1_place, (RX1, TX1, 15), rfl, rfl⟩
theorem lc_RX1_81 : zLc RX1 81 MX7_copy 1 := ⟨ztb_mem (List.mem_of_getElem? (i := 614) (by decide +kernel)) rfl, ztb_mem (List.mem_of_getElem? (i := 5) (by decide +kernel)) rfl, cd_X7_copy, ⟨by decide, by decide, by decide +kernel⟩, by decide⟩
theorem lv_RX1_81 : zLV RX1 81 MX7_copy 7 1 := ⟨lc_RX1_81, si_X7_copy, se_X7_copy, (RX7, TX7, 5), rfl, rfl⟩
theorem lc_RX1_91 : zLc RX1 91 MX2_takeLeastRules 0 := ⟨ztb_mem (List.mem_of_getElem? (i := 621) (by decide +kernel)) rfl, ztb_mem (List.mem_of_getElem? (i := 6) (by decide +kernel)) rfl, cd_X2_takeLeastRules, ⟨by decide, by decide, by decide +kernel⟩, by decide⟩
theorem lv_RX1_91 : zLV RX1 91 MX2_takeLeastRules 2 0 := ⟨lc_RX1_91, si_X2_takeLeastRules, se_X2_takeLeastRules, (RX2, TX2, 8), rfl, rfl⟩
theorem lc_RX1_96 : zLc RX1 96 MX2_settle 1 := ⟨ztb_mem (List.mem_of_getElem? (i := 622) (by decide +kernel)) rfl, ztb_mem (List.mem_of_getElem? (i := 6) (by decide +kernel)) rfl, cd_X2_settle, ⟨by decide, by decide, by decide +kernel⟩, by decide⟩
theorem lv_RX1_96 : zLV RX1 96 MX2_settle 2 1 := ⟨lc_RX1_96, si_X2_settle, se_X2_settle, (RX2, TX2, 8), rfl, rfl⟩
theorem lc_RX1_100 : zLc RX1 100 MX1_weighRest 1 := ⟨ztb_mem (List.mem_of_getElem? (i := 623) (by decide +kernel)) rfl, ztb_mem (List.mem_of_getElem? (i := 7) (by decide +kernel)) rfl, cd_X1_weighRest, ⟨by decide, by decide, by decide +kernel⟩, by decide⟩
theorem lv_RX1_100 : zLV RX1 100 MX1_weighRest 1 1 := ⟨lc_RX1_100, si_X1_weighRest, se_X1_weighRest, (RX1, TX1, 15), rfl, rfl⟩
theorem lc_RX1_107 : zLc RX1 107 MX2_comesTo 1 := ⟨ztb_mem (List.mem_of_getElem? (i := 627) (by decide +kernel)) rfl, ztb_mem (List.mem_of_getElem? (i := 6) (by decide +kernel)) rfl, cd_X2_comesTo, ⟨by decide, by decide, by decide +kernel⟩, by decide⟩
theorem lv_RX1_107 : zLV RX1 107 MX2_comesTo 2 1 := ⟨lc_RX1_107, si_X2_comesTo, se_X2_comesTo, (RX2, TX2, 8), rfl, rfl⟩
theorem lc_RX1_122 : zLc RX1 122 MJ9_max_7cf53 2 := ⟨ztb_mem (List.mem_of_getElem? (i := 628) (by decide +kernel)) rfl, ztb_mem (List.mem_of_getElem? (i := 14) (by decide +kernel)) rfl, cd_J9_max_7cf53, ⟨by decide, by decide, by decide +kernel⟩, by decide⟩
theorem ls_RX1_122 : zLS RX1 122 MJ9_max_7cf53 2 := ⟨lc_RX1_122, ss_J9_max_7cf53⟩
theorem lc_RX1_128 : zLc RX1 128 MX1_pickFirst 0 := ⟨ztb_mem (List.mem_of_getElem? (i := 775) (by decide +kernel)) rfl, ztb_mem (List.mem_of_getElem? (i := 7) (by decide +kernel)) rfl, cd_X1_pickFirst, ⟨by decide, by decide, by decide +kernel⟩, by decide⟩
theorem lv_RX1_128 : zLV RX1 128 MX1_pickFirst 1 0 := ⟨lc_RX1_128, si_X1_pickFirst, se_X1_pickFirst, (RX1, TX1, 15), rfl, rfl⟩
theorem lc_RX1_131 : zLc RX1 131 MX1_measure 0 := ⟨ztb_mem (List.mem_of_getElem? (i := 780) (by decide +kernel)) rfl, ztb_mem (List.mem_of_getElem? (i := 7) (by decide +kernel)) rfl, cd_X1_measure, ⟨by decide, by decide, by decide +kernel⟩, by decide⟩
theorem lv_RX1_131 : zLV RX1 131 MX1_measure 1 0 := ⟨lc_RX1_131, si_X1_measure, se_X1_measure, (RX1, TX1, 15), rfl, rfl⟩
theorem lc_RX1_134 : zLc RX1 134 MX1_pickNext 0 := ⟨ztb_mem (List.mem_of_getElem? (i := 781) (by decide +kernel)) rfl, ztb_mem (List.mem_of_getElem? (i := 7) (by decide +kernel)) rfl, cd_X1_pickNext, ⟨by decide, by decide, by decide +kernel⟩, by decide⟩
theorem lv_RX1_134 : zLV RX1 134 MX1_pickNext 1 0 := ⟨lc_RX1_134, si_X1_pickNext, se_X1_pickNext, (RX1, TX1, 15), rfl, rfl⟩
theorem lc_RX1_144 : zLc RX1 144 MX1_weighPick 1 := ⟨ztb_mem (List.mem_of_getElem? (i := 789) (by decide +kernel)) rfl, ztb_mem (List.mem_of_getElem? (i := 7) (by decide +kernel)) rfl, cd_X1_weighPick, ⟨by decide, by decide, by decide +kernel⟩, by decide⟩
theorem lv_RX1_144 : zLV RX1 144 MX1_weighPick 1 1 := ⟨lc_RX1_144, si_X1_weighPick, se_X1_weighPick, (RX1, TX1, 15), rfl, rfl⟩
theorem lc_RX1_148 : zLc RX1 148 MX1_isBetter 0 := ⟨ztb_mem (List.mem_of_getElem? (i := 797) (by decide +kernel)) rfl, ztb_mem (List.mem_of_getElem? (i := 7) (by decide +kernel)) rfl, cd_X1_isBetter, ⟨by decide, by decide, by decide +kernel⟩, by decide⟩
theorem lv_RX1_148 : zLV RX1 148 MX1_isBetter 1 0 := ⟨lc_RX1_148, si_X1_isBetter, se_X1_isBetter, (RX1, TX1, 15), rfl, rfl⟩
theorem lc_RX1_157 : zLc RX1 157 MX1_weighPlace 1 := ⟨ztb_mem (List.mem_of_getElem? (i := 793) (by decide +kernel)) rfl, ztb_mem (List.mem_of_getElem? (i := 7) (by decide +kernel)) rfl, cd_X1_weighPlace, ⟨by decide, by decide, by decide +kernel⟩, by decide⟩
theorem lv_RX1_157 : zLV RX1 157 MX1_weighPlace 1 1 := ⟨lc_RX1_157, si_X1_weighPlace, se_X1_weighPlace, (RX1, TX1, 15), rfl, rfl⟩
theorem lc_RX2_50 : zLc RX2 50 MX3_leastRule 1 := ⟨ztb_mem (List.mem_of_getElem? (i := 490) (by decide +kernel)) rfl, ztb_mem (List.mem_of_getElem? (i := 2) (by decide +kernel)) rfl, cd_X3_leastRule, ⟨by decide, by decide, by decide +kernel⟩, by decide⟩
theorem lv_RX2_50 : zLV RX2 50 MX3_leastRule 3 1 := ⟨lc_RX2_50, si_X3_leastRule, se_X3_leastRule, (RX3, TX3, 7), rfl, rfl⟩
theorem lc_RX2_54 : zLc RX2 54 MJ7_fill_d0a16 2 := ⟨ztb_mem (List.mem_of_getElem? (i := 502) (by decide +kernel)) rfl, ztb_mem (List.mem_of_getElem? (i := 4) (by decide +kernel)) rfl, cd_J7_fill_d0a16, ⟨by decide, by decide, by decide +kernel⟩, by decide⟩
theorem ls_RX2_54 : zLS RX2 54 MJ7_fill_d0a16 2 := ⟨lc_RX2_54, ss_J7_fill_d0a16⟩
theorem lc_RX2_60 : zLc RX2 60 MX3_everyone 0 := ⟨ztb_mem (List.mem_of_getElem? (i := 505) (by decide +kernel)) rfl, ztb_mem (List.mem_of_getElem? (i := 2) (by decide +kernel)) rfl, cd_X3_everyone, ⟨by decide, by decide, by decide +kernel⟩, by decide⟩
theorem lv_RX2_60 : zLV RX2 60 MX3_everyone 3 0 := ⟨lc_RX2_60, si_X3_everyone, se_X3_everyone, (RX3, TX3, 7), rfl, rfl⟩
theorem lc_RX2_64 : zLc RX2 64 MX2_hear 2 := ⟨ztb_mem (List.mem_of_getElem? (i := 506) (by decide +kernel)) rfl, ztb_mem (List.mem_of_getElem? (i := 6) (by decide +kernel)) rfl, cd_X2_hear, ⟨by decide, by decide, by decide +kernel⟩, by decide⟩
theorem lv_RX2_64 : zLV RX2 64 MX2_hear 2 2 := ⟨lc_RX2_64, si_X2_hear, se_X2_hear, (RX2, TX2, 8), rfl, rfl⟩
theorem lc_RX2_68 : zLc RX2 68 MX2_pick 1 := ⟨ztb_mem (List.mem_of_getElem? (i := 535) (by decide +kernel)) rfl, ztb_mem (List.mem_of_getElem? (i := 6) (by decide +kernel)) rfl, cd_X2_pick, ⟨by decide, by decide, by decide +kernel⟩, by decide⟩
theorem lv_RX2_68 : zLV RX2 68 MX2_pick 2 1 := ⟨lc_RX2_68, si_X2_pick, se_X2_pick, (RX2, TX2, 8), rfl, rfl⟩
theorem lc_RX2_72 : zLc RX2 72 MX2_takeFresh 1 := ⟨ztb_mem (List.mem_of_getElem? (i := 546) (by decide +kernel)) rfl, ztb_mem (List.mem_of_getElem? (i := 6) (by decide +kernel)) rfl, cd_X2_takeFresh, ⟨by decide, by decide, by decide +kernel⟩, by decide⟩
theorem lv_RX2_72 : zLV RX2 72 MX2_takeFresh 2 1 := ⟨lc_RX2_72, si_X2_takeFresh, se_X2_takeFresh, (RX2, TX2, 8), rfl, rfl⟩
theorem lc_RX2_78 : zLc RX2 78 MX3_union 2 := ⟨ztb_mem (List.mem_of_getElem? (i := 550) (by decide +kernel)) rfl, ztb_mem (List.mem_of_getElem? (i := 2) (by decide +kernel)) rfl, cd_X3_union, ⟨by decide, by decide, by decide +kernel⟩, by decide⟩
theorem lv_RX2_78 : zLV RX2 78 MX3_union 3 2 := ⟨lc_RX2_78, si_X3_union, se_X3_union, (RX3, TX3, 7), rfl, rfl⟩
theorem lc_RX2_93 : zLc RX2 93 MX7_isSaid 1 := ⟨ztb_mem (List.mem_of_getElem? (i := 510) (by decide +kernel)) rfl, ztb_mem (List.mem_of_getElem? (i := 5) (by decide +kernel)) rfl, cd_X7_isSaid, ⟨by decide, by decide, by decide +kernel⟩, by decide⟩
theorem lv_RX2_93 : zLV RX2 93 MX7_isSaid 7 1 := ⟨lc_RX2_93, si_X7_isSaid, se_X7_isSaid, (RX7, TX7, 5), rfl, rfl⟩
theorem lc_RX2_100 : zLc RX2 100 MX2_ofSite 3 := ⟨ztb_mem (List.mem_of_getElem? (i := 514) (by decide +kernel)) rfl, ztb_mem (List.mem_of_getElem? (i := 6) (by decide +kernel)) rfl, cd_X2_ofSite, ⟨by decide, by decide, by decide +kernel⟩, by decide⟩
theorem ls_RX2_100 : zLS RX2 100 MX2_ofSite 3 := ⟨lc_RX2_100, ss_X2_ofSite⟩
theorem lc_RX2_104 : zLc RX2 104 MX2_passesOn 3 := ⟨ztb_mem (List.mem_of_getElem? (i := 517) (by decide +kernel)) rfl, ztb_mem (List.mem_of_getElem? (i := 6) (by decide +kernel)) rfl, cd_X2_passesOn, ⟨by decide, by decide, by decide +kernel⟩, by decide⟩
theorem lv_RX2_104 : zLV RX2 104 MX2_passesOn 2 3 := ⟨lc_RX2_104, si_X2_passesOn, se_X2_passesOn, (RX2, TX2, 8), rfl, rfl⟩
theorem lc_RX2_108 : zLc RX2 108 MX2_passedOn 2 := ⟨ztb_mem (List.mem_of_getElem? (i := 529) (by decide +kernel)) rfl, ztb_mem (List.mem_of_getElem? (i := 6) (by decide +kernel)) rfl, cd_X2_passedOn, ⟨by decide, by decide, by decide +kernel⟩, by decide⟩
theorem ls_RX2_108 : zLS RX2 108 MX2_passedOn 2 := ⟨lc_RX2_108, ss_X2_passedOn⟩
theorem lc_RX2_112 : zLc RX2 112 MX2_siteOf 1 := ⟨ztb_mem (List.mem_of_getElem? (i := 521) (by decide +kernel)) rfl, ztb_mem (List.mem_of_getElem? (i := 6) (by decide +kernel)) rfl, cd_X2_siteOf, ⟨by decide, by decide, by decide +kernel⟩, by decide⟩
theorem ls_RX2_112 : zLS RX2 112 MX2_siteOf 1 := ⟨lc_RX2_112, ss_X2_siteOf⟩
theorem lc_RX2_119 : zLc RX2 119 MX2_passedAt 2 := ⟨ztb_mem (List.mem_of_getElem? (i := 525) (by decide +kernel)) rfl, ztb_mem (List.mem_of_getElem? (i := 6) (by decide +kernel)) rfl, cd_X2_passedAt, ⟨by decide, by decide, by decide +kernel⟩, by decide⟩
theorem ls_RX2_119 : zLS RX2 119 MX2_passedAt 2 := ⟨lc_RX2_119, ss_X2_passedAt⟩
theorem lc_RX2_123 : zLc RX2 123 MX3_bond 2 := ⟨ztb_mem (List.mem_of_getElem? (i := 528) (by decide +kernel)) rfl, ztb_mem (List.mem_of_getElem? (i := 2) (by decide +kernel)) rfl, cd_X3_bond, ⟨by decide, by decide, by decide +kernel⟩, by decide⟩
theorem lv_RX2_123 : zLV RX2 123 MX3_bond 3 2 := ⟨lc_RX2_123, si_X3_bond, se_X3_bond, (RX3, TX3, 7), rfl, rfl⟩
theorem lc_RX2_131 : zLc RX2 131 MX2_rank 2 := ⟨ztb_mem (List.mem_of_getElem? (i := 539) (by decide +kernel)) rfl, ztb_mem (List.mem_of_getElem? (i := 6) (by decide +kernel)) rfl, cd_X2_rank, ⟨by decide, by decide, by decide +kernel⟩, by decide⟩
theorem lv_RX2_131 : zLV RX2 131 MX2_rank 2 2 := ⟨lc_RX2_131, si_X2_rank, se_X2_rank, (RX2, TX2, 8), rfl, rfl⟩
theorem lc_RX2_135 : zLc RX2 135 MX2_namesOf 1 := ⟨ztb_mem (List.mem_of_getElem? (i := 543) (by decide +kernel)) rfl, ztb_mem (List.mem_of_getElem? (i := 6) (by decide +kernel)) rfl, cd_X2_namesOf, ⟨by decide, by decide, by decide +kernel⟩, by decide⟩
theorem ls_RX2_135 : zLS RX2 135 MX2_namesOf 1 := ⟨lc_RX2_135, ss_X2_namesOf⟩
theorem lc_RX2_138 : zLc RX2 138 MX2_alike 2 := ⟨ztb_mem (List.mem_of_getElem? (i := 586) (by decide +kernel)) rfl, ztb_mem (List.mem_of_getElem? (i := 6) (by decide +kernel)) rfl, cd_X2_alike, ⟨by decide, by decide, by decide +kernel⟩, by decide⟩
theorem lv_RX2_138 : zLV RX2 138 MX2_alike 2 2 := ⟨lc_RX2_138, si_X2_alike, se_X2_alike, (RX2, TX2, 8), rfl, rfl⟩
theorem lc_RX3_34 : zLc RX3 34 MX3_union 2 := ⟨ztb_mem (List.mem_of_getElem? (i := 411) (by decide +kernel)) rfl, ztb_mem (List.mem_of_getElem? (i := 2) (by decide +kernel)) rfl, cd_X3_union, ⟨by decide, by decide, by decide +kernel⟩, by decide⟩
theorem lv_RX3_34 : zLV RX3 34 MX3_union 3 2 := ⟨lc_RX3_34, si_X3_union, se_X3_union, (RX3, TX3, 7), rfl, rfl⟩
theorem lc_RX3_38 : zLc RX3 38 MJ6_numberOfTrailingZeros_0f7a4 1 := ⟨ztb_mem (List.mem_of_getElem? (i := 494) (by decide +kernel)) rfl, ztb_mem (List.mem_of_getElem? (i := 12) (by decide +kernel)) rfl, cd_J6_numberOfTrailingZeros_0f7a4, ⟨by decide, by decide, by decide +kernel⟩, by decide⟩
theorem ls_RX3_38 : zLS RX3 38 MJ6_numberOfTrailingZeros_0f7a4 1 := ⟨lc_RX3_38, ss_J6_numberOfTrailingZeros_0f7a4⟩
theorem lc_RX3_44 : zLc RX3 44 MJ6_bitCount_0f7a4 1 := ⟨ztb_mem (List.mem_of_getElem? (i := 676) (by decide +kernel)) rfl, ztb_mem (List.mem_of_getElem? (i := 12) (by decide +kernel)) rfl, cd_J6_bitCount_0f7a4, ⟨by decide, by decide, by decide +kernel⟩, by decide⟩
theorem ls_RX3_44 : zLS RX3 44 MJ6_bitCount_0f7a4 1 := ⟨lc_RX3_44, ss_J6_bitCount_0f7a4⟩
theorem lc_RX4_47 : zLc RX4 47 MX4_aimOf 1 := ⟨ztb_mem (List.mem_of_getElem? (i := 826) (by decide +kernel)) rfl, ztb_mem (List.mem_of_getElem? (i := 8) (by decide +kernel)) rfl, cd_X4_aimOf, ⟨by decide, by decide, by decide +kernel⟩, by decide⟩
theorem lv_RX4_47 : zLV RX4 47 MX4_aimOf 4 1 := ⟨lc_RX4_47, si_X4_aimOf, se_X4_aimOf, (RX4, TX4, 8), rfl, rfl⟩
theorem lc_RX4_51 : zLc RX4 51 MX4_toChange 0 := ⟨ztb_mem (List.mem_of_getElem? (i := 836) (by decide +kernel)) rfl, ztb_mem (List.mem_of_getElem? (i := 8) (by decide +kernel)) rfl, cd_X4_toChange, ⟨by decide, by decide, by decide +kernel⟩, by decide⟩
theorem lv_RX4_51 : zLV RX4 51 MX4_toChange 4 0 := ⟨lc_RX4_51, si_X4_toChange, se_X4_toChange, (RX4, TX4, 8), rfl, rfl⟩
theorem lc_RX4_55 : zLc RX4 55 MX4_pickBehind 1 := ⟨ztb_mem (List.mem_of_getElem? (i := 837) (by decide +kernel)) rfl, ztb_mem (List.mem_of_getElem? (i := 8) (by decide +kernel)) rfl, cd_X4_pickBehind, ⟨by decide, by decide, by decide +kernel⟩, by decide⟩
theorem lv_RX4_55 : zLV RX4 55 MX4_pickBehind 4 1 := ⟨lc_RX4_55, si_X4_pickBehind, se_X4_pickBehind, (RX4, TX4, 8), rfl, rfl⟩
theorem lc_RX4_64 : zLc RX4 64 MX1_measure 0 := ⟨ztb_mem (List.mem_of_getElem? (i := 842) (by decide +kernel)) rfl, ztb_mem (List.mem_of_getElem? (i := 7) (by decide +kernel)) rfl, cd_X1_measure, ⟨by decide, by decide, by decide +kernel⟩, by decide⟩
theorem lv_RX4_64 : zLV RX4 64 MX1_measure 1 0 := ⟨lc_RX4_64, si_X1_measure, se_X1_measure, (RX1, TX1, 15), rfl, rfl⟩
theorem lc_RX4_68 : zLc RX4 68 MX4_leastWorst 2 := ⟨ztb_mem (List.mem_of_getElem? (i := 844) (by decide +kernel)) rfl, ztb_mem (List.mem_of_getElem? (i := 8) (by decide +kernel)) rfl, cd_X4_leastWorst, ⟨by decide, by decide, by decide +kernel⟩, by decide⟩
theorem lv_RX4_68 : zLV RX4 68 MX4_leastWorst 4 2 := ⟨lc_RX4_68, si_X4_leastWorst, se_X4_leastWorst, (RX4, TX4, 8), rfl, rfl⟩
theorem lc_RX4_78 : zLc RX4 78 MX4_firstStep 2 := ⟨ztb_mem (List.mem_of_getElem? (i := 856) (by decide +kernel)) rfl, ztb_mem (List.mem_of_getElem? (i := 8) (by decide +kernel)) rfl, cd_X4_firstStep, ⟨by decide, by decide, by decide +kernel⟩, by decide⟩
theorem lv_RX4_78 : zLV RX4 78 MX4_firstStep 4 2 := ⟨lc_RX4_78, si_X4_firstStep, se_X4_firstStep, (RX4, TX4, 8), rfl, rfl⟩
theorem lc_RX4_81 : zLc RX4 81 MX1_pickNow 0 := ⟨ztb_mem (List.mem_of_getElem? (i := 841) (by decide +kernel)) rfl, ztb_mem (List.mem_of_getElem? (i := 7) (by decide +kernel)) rfl, cd_X1_pickNow, ⟨by decide, by decide, by decide +kernel⟩, by decide⟩
theorem lv_RX4_81 : zLV RX4 81 MX1_pickNow 1 0 := ⟨lc_RX4_81, si_X1_pickNow, se_X1_pickNow, (RX1, TX1, 15), rfl, rfl⟩
theorem lc_RX4_91 : zLc RX4 91 MX4_worstBy 1 := ⟨ztb_mem (List.mem_of_getElem? (i := 848) (by decide +kernel)) rfl, ztb_mem (List.mem_of_getElem? (i := 8) (by decide +kernel)) rfl, cd_X4_worstBy, ⟨by decide, by decide, by decide +kernel⟩, by decide⟩
theorem lv_RX4_91 : zLV RX4 91 MX4_worstBy 4 1 := ⟨lc_RX4_91, si_X4_worstBy, se_X4_worstBy, (RX4, TX4, 8), rfl, rfl⟩
theorem lc_RX4_94 : zLc RX4 94 MJ9_min_7cf53 2 := ⟨ztb_mem (List.mem_of_getElem? (i := 853) (by decide +kernel)) rfl, ztb_mem (List.mem_of_getElem? (i := 14) (by decide +kernel)) rfl, cd_J9_min_7cf53, ⟨by decide, by decide, by decide +kernel⟩, by decide⟩
theorem ls_RX4_94 : zLS RX4 94 MJ9_min_7cf53 2 := ⟨lc_RX4_94, ss_J9_min_7cf53⟩
theorem lc_RX4_99 : zLc RX4 99 MJ9_max_7cf53 2 := ⟨ztb_mem (List.mem_of_getElem? (i := 852) (by decide +kernel)) rfl, ztb_mem (List.mem_of_getElem? (i := 14) (by decide +kernel)) rfl, cd_J9_max_7cf53, ⟨by decide, by decide, by decide +kernel⟩, by decide⟩
theorem ls_RX4_99 : zLS RX4 99 MJ9_max_7cf53 2 := ⟨lc_RX4_99, ss_J9_max_7cf53⟩
theorem lc_RX5_24 : zLc RX5 24 MJ7_fill_53178 2 := ⟨ztb_mem (List.mem_of_getElem? (i := 68) (by decide +kernel)) rfl, ztb_mem (List.mem_of_getElem? (i := 4) (by decide +kernel)) rfl, cd_J7_fill_53178, ⟨by decide, by decide, by decide +kernel⟩, by decide⟩
theorem ls_RX5_24 : zLS RX5 24 MJ7_fill_53178 2 := ⟨lc_RX5_24, ss_J7_fill_53178⟩
theorem lc_RX6_22 : zLc RX6 22 MJ7_fill_53178 2 := ⟨ztb_mem (List.mem_of_getElem? (i := 281) (by decide +kernel)) rfl, ztb_mem (List.mem_of_getElem? (i := 4) (by decide +kernel)) rfl, cd_J7_fill_53178, ⟨by decide, by decide, by decide +kernel⟩, by decide⟩
theorem ls_RX6_22 : zLS RX6 22 MJ7_fill_53178 2 := ⟨lc_RX6_22, ss_J7_fill_53178⟩
theorem lc_RX6_28 : zLc RX6 28 MX2_comesTo 1 := ⟨ztb_mem (List.mem_of_getElem? (i := 705) (by decide +kernel)) rfl, ztb_mem (List.mem_of_getElem? (i := 6) (by decide +kernel)) rfl, cd_X2_comesTo, ⟨by decide, by decide, by decide +kernel⟩, by decide⟩
theorem lv_RX6_28 : zLV RX6 28 MX2_comesTo 2 1 := ⟨lc_RX6_28, si_X2_comesTo, se_X2_comesTo, (RX2, TX2, 8), rfl, rfl⟩
theorem lc_RL_13 : zLc RL 13 MX8_net 1 := ⟨ztb_mem (List.mem_of_getElem? (i := 372) (by decide +kernel)) rfl, ztb_mem (List.mem_of_getElem? (i := 1) (by decide +kernel)) rfl, cd_X8_net, ⟨by decide, by decide, by decide +kernel⟩, by decide⟩
theorem lv_RL_13 : zLV RL 13 MX8_net 8 1 := ⟨lc_RL_13, si_X8_net, se_X8_net, (RX8, TX8, 7), rfl, rfl⟩
theorem lc_RL_17 : zLc RL 17 MX9_net 1 := ⟨ztb_mem (List.mem_of_getElem? (i := 1058) (by decide +kernel)) rfl, ztb_mem (List.mem_of_getElem? (i := 11) (by decide +kernel)) rfl, cd_X9_net, ⟨by decide, by decide, by decide +kernel⟩, by decide⟩
theorem lv_RL_17 : zLV RL 17 MX9_net 9 1 := ⟨lc_RL_17, si_X9_net, se_X9_net, (RX9, TX9, 57), rfl, rfl⟩
theorem lc_RL_18 : zLc RL 18 MX8_tie 3 := ⟨ztb_mem (List.mem_of_getElem? (i := 395) (by decide +kernel)) rfl, ztb_mem (List.mem_of_getElem? (i := 1) (by decide +kernel)) rfl, cd_X8_tie, ⟨by decide, by decide, by decide +kernel⟩, by decide⟩
theorem lv_RL_18 : zLV RL 18 MX8_tie 8 3 := ⟨lc_RL_18, si_X8_tie, se_X8_tie, (RX8, TX8, 7), rfl, rfl⟩
theorem lc_RL_22 : zLc RL 22 MX9_tie 3 := ⟨ztb_mem (List.mem_of_getElem? (i := 1066) (by decide +kernel)) rfl, ztb_mem (List.mem_of_getElem? (i := 11) (by decide +kernel)) rfl, cd_X9_tie, ⟨by decide, by decide, by decide +kernel⟩, by decide⟩
theorem lv_RL_22 : zLV RL 22 MX9_tie 9 3 := ⟨lc_RL_22, si_X9_tie, se_X9_tie, (RX9, TX9, 57), rfl, rfl⟩
theorem lc_RL_23 : zLc RL 23 MX8_tied 2 := ⟨ztb_mem (List.mem_of_getElem? (i := 419) (by decide +kernel)) rfl, ztb_mem (List.mem_of_getElem? (i := 1) (by decide +kernel)) rfl, cd_X8_tied, ⟨by decide, by decide, by decide +kernel⟩, by decide⟩
theorem lv_RL_23 : zLV RL 23 MX8_tied 8 2 := ⟨lc_RL_23, si_X8_tied, se_X8_tied, (RX8, TX8, 7), rfl, rfl⟩
theorem lc_RL_27 : zLc RL 27 MX9_tied 2 := ⟨ztb_mem (List.mem_of_getElem? (i := 1078) (by decide +kernel)) rfl, ztb_mem (List.mem_of_getElem? (i := 11) (by decide +kernel)) rfl, cd_X9_tied, ⟨by decide, by decide, by decide +kernel⟩, by decide⟩
theorem lv_RL_27 : zLV RL 27 MX9_tied 9 2 := ⟨lc_RL_27, si_X9_tied, se_X9_tied, (RX9, TX9, 57), rfl, rfl⟩
theorem lc_RL_28 : zLc RL 28 MX8_askers 2 := ⟨ztb_mem (List.mem_of_getElem? (i := 423) (by decide +kernel)) rfl, ztb_mem (List.mem_of_getElem? (i := 1) (by decide +kernel)) rfl, cd_X8_askers, ⟨by decide, by decide, by decide +kernel⟩, by decide⟩
theorem lv_RL_28 : zLV RL 28 MX8_askers 8 2 := ⟨lc_RL_28, si_X8_askers, se_X8_askers, (RX8, TX8, 7), rfl, rfl⟩
theorem lc_RL_31 : zLc RL 31 MX9_askers 2 := ⟨ztb_mem (List.mem_of_getElem? (i := 1082) (by decide +kernel)) rfl, ztb_mem (List.mem_of_getElem? (i := 11) (by decide +kernel)) rfl, cd_X9_askers, ⟨by decide, by decide, by decide +kernel⟩, by decide⟩
theorem lv_RL_31 : zLV RL 31 MX9_askers 9 2 := ⟨lc_RL_31, si_X9_askers, se_X9_askers, (RX9, TX9, 57), rfl, rfl⟩
theorem lc_RL_32 : zLc RL 32 MX8_guess 2 := ⟨ztb_mem (List.mem_of_getElem? (i := 430) (by decide +kernel)) rfl, ztb_mem (List.mem_of_getElem? (i := 1) (by decide +kernel)) rfl, cd_X8_guess, ⟨by decide, by decide, by decide +kernel⟩, by decide⟩
theorem lv_RL_32 : zLV RL 32 MX8_guess 8 2 := ⟨lc_RL_32, si_X8_guess, se_X8_guess, (RX8, TX8, 7), rfl, rfl⟩
theorem lc_RL_35 : zLc RL 35 MX9_guess 2 := ⟨ztb_mem (List.mem_of_getElem? (i := 1086) (by decide +kernel)) rfl, ztb_mem (List.mem_of_getElem? (i := 11) (by decide +kernel)) rfl, cd_X9_guess, ⟨by decide, by decide, by decide +kernel⟩, by decide⟩
theorem lv_RL_35 : zLV RL 35 MX9_guess 9 2 := ⟨lc_RL_35, si_X9_guess, se_X9_guess, (RX9, TX9, 57), rfl, rfl⟩
theorem lc_RL_36 : zLc RL 36 MX8_site 2 := ⟨ztb_mem (List.mem_of_getElem? (i := 434) (by decide +kernel)) rfl, ztb_mem (List.mem_of_getElem? (i := 1) (by decide +kernel)) rfl, cd_X8_site, ⟨by decide, by decide, by decide +kernel⟩, by decide⟩
theorem lv_RL_36 : zLV RL 36 MX8_site 8 2 := ⟨lc_RL_36, si_X8_site, se_X8_site, (RX8, TX8, 7), rfl, rfl⟩
theorem lc_RL_39 : zLc RL 39 MX9_site 2 := ⟨ztb_mem (List.mem_of_getElem? (i := 1091) (by decide +kernel)) rfl, ztb_mem (List.mem_of_getElem? (i := 11) (by decide +kernel)) rfl, cd_X9_site, ⟨by decide, by decide, by decide +kernel⟩, by decide⟩
theorem lv_RL_39 : zLV RL 39 MX9_site 9 2 := ⟨lc_RL_39, si_X9_site, se_X9_site, (RX9, TX9, 57), rfl, rfl⟩
theorem lc_RL_40 : zLc RL 40 MX8_room 2 := ⟨ztb_mem (List.mem_of_getElem? (i := 443) (by decide +kernel)) rfl, ztb_mem (List.mem_of_getElem? (i := 1) (by decide +kernel)) rfl, cd_X8_room, ⟨by decide, by decide, by decide +kernel⟩, by decide⟩
theorem lv_RL_40 : zLV RL 40 MX8_room 8 2 := ⟨lc_RL_40, si_X8_room, se_X8_room, (RX8, TX8, 7), rfl, rfl⟩
theorem lc_RL_43 : zLc RL 43 MX9_room 2 := ⟨ztb_mem (List.mem_of_getElem? (i := 1096) (by decide +kernel)) rfl, ztb_mem (List.mem_of_getElem? (i := 11) (by decide +kernel)) rfl, cd_X9_room, ⟨by decide, by decide, by decide +kernel⟩, by decide⟩
theorem lv_RL_43 : zLV RL 43 MX9_room 9 2 := ⟨lc_RL_43, si_X9_room, se_X9_room, (RX9, TX9, 57), rfl, rfl⟩
theorem lc_RL_44 : zLc RL 44 MX8_up 2 := ⟨ztb_mem (List.mem_of_getElem? (i := 451) (by decide +kernel)) rfl, ztb_mem (List.mem_of_getElem? (i := 1) (by decide +kernel)) rfl, cd_X8_up, ⟨by decide, by decide, by decide +kernel⟩, by decide⟩
theorem lv_RL_44 : zLV RL 44 MX8_up 8 2 := ⟨lc_RL_44, si_X8_up, se_X8_up, (RX8, TX8, 7), rfl, rfl⟩
theorem lc_RL_48 : zLc RL 48 MX9_up 2 := ⟨ztb_mem (List.mem_of_getElem? (i := 1104) (by decide +kernel)) rfl, ztb_mem (List.mem_of_getElem? (i := 11) (by decide +kernel)) rfl, cd_X9_up, ⟨by decide, by decide, by decide +kernel⟩, by decide⟩
theorem lv_RL_48 : zLV RL 48 MX9_up 9 2 := ⟨lc_RL_48, si_X9_up, se_X9_up, (RX9, TX9, 57), rfl, rfl⟩
theorem lc_RL_49 : zLc RL 49 MX8_kind 2 := ⟨ztb_mem (List.mem_of_getElem? (i := 458) (by decide +kernel)) rfl, ztb_mem (List.mem_of_getElem? (i := 1) (by decide +kernel)) rfl, cd_X8_kind, ⟨by decide, by decide, by decide +kernel⟩, by decide⟩
theorem lv_RL_49 : zLV RL 49 MX8_kind 8 2 := ⟨lc_RL_49, si_X8_kind, se_X8_kind, (RX8, TX8, 7), rfl, rfl⟩
theorem lc_RL_52 : zLc RL 52 MX9_kind 2 := ⟨ztb_mem (List.mem_of_getElem? (i := 1108) (by decide +kernel)) rfl, ztb_mem (List.mem_of_getElem? (i := 11) (by decide +kernel)) rfl, cd_X9_kind, ⟨by decide, by decide, by decide +kernel⟩, by decide⟩
theorem lv_RL_52 : zLV RL 52 MX9_kind 9 2 := ⟨lc_RL_52, si_X9_kind, se_X9_kind, (RX9, TX9, 57), rfl, rfl⟩
theorem lc_RL_53 : zLc RL 53 MX8_held 2 := ⟨ztb_mem (List.mem_of_getElem? (i := 462) (by decide +kernel)) rfl, ztb_mem (List.mem_of_getElem? (i := 1) (by decide +kernel)) rfl, cd_X8_held, ⟨by decide, by decide, by decide +kernel⟩, by decide⟩
theorem lv_RL_53 : zLV RL 53 MX8_held 8 2 := ⟨lc_RL_53, si_X8_held, se_X8_held, (RX8, TX8, 7), rfl, rfl⟩
theorem lc_RL_56 : zLc RL 56 MX9_held 2 := ⟨ztb_mem (List.mem_of_getElem? (i := 1113) (by decide +kernel)) rfl, ztb_mem (List.mem_of_getElem? (i := 11) (by decide +kernel)) rfl, cd_X9_held, ⟨by decide, by decide, by decide +kernel⟩, by decide⟩
theorem lv_RL_56 : zLV RL 56 MX9_held 9 2 := ⟨lc_RL_56, si_X9_held, se_X9_held, (RX9, TX9, 57), rfl, rfl⟩
theorem lc_RL_57 : zLc RL 57 MX8_near 2 := ⟨ztb_mem (List.mem_of_getElem? (i := 470) (by decide +kernel)) rfl, ztb_mem (List.mem_of_getElem? (i := 1) (by decide +kernel)) rfl, cd_X8_near, ⟨by decide, by decide, by decide +kernel⟩, by decide⟩
theorem lv_RL_57 : zLV RL 57 MX8_near 8 2 := ⟨lc_RL_57, si_X8_near, se_X8_near, (RX8, TX8, 7), rfl, rfl⟩
theorem lc_RL_60 : zLc RL 60 MX9_near 2 := ⟨ztb_mem (List.mem_of_getElem? (i := 1117) (by decide +kernel)) rfl, ztb_mem (List.mem_of_getElem? (i := 11) (by decide +kernel)) rfl, cd_X9_near, ⟨by decide, by decide, by decide +kernel⟩, by decide⟩
theorem lv_RL_60 : zLV RL 60 MX9_near 9 2 := ⟨lc_RL_60, si_X9_near, se_X9_near, (RX9, TX9, 57), rfl, rfl⟩
theorem lc_RL_61 : zLc RL 61 MX8_late 3 := ⟨ztb_mem (List.mem_of_getElem? (i := 474) (by decide +kernel)) rfl, ztb_mem (List.mem_of_getElem? (i := 1) (by decide +kernel)) rfl, cd_X8_late, ⟨by decide, by decide, by decide +kernel⟩, by decide⟩
theorem lv_RL_61 : zLV RL 61 MX8_late 8 3 := ⟨lc_RL_61, si_X8_late, se_X8_late, (RX8, TX8, 7), rfl, rfl⟩
theorem lc_RL_65 : zLc RL 65 MX9_late 3 := ⟨ztb_mem (List.mem_of_getElem? (i := 1121) (by decide +kernel)) rfl, ztb_mem (List.mem_of_getElem? (i := 11) (by decide +kernel)) rfl, cd_X9_late, ⟨by decide, by decide, by decide +kernel⟩, by decide⟩
theorem lv_RL_65 : zLV RL 65 MX9_late 9 3 := ⟨lc_RL_65, si_X9_late, se_X9_late, (RX9, TX9, 57), rfl, rfl⟩
theorem lc_RL_66 : zLc RL 66 MX8_rounds 0 := ⟨ztb_mem (List.mem_of_getElem? (i := 478) (by decide +kernel)) rfl, ztb_mem (List.mem_of_getElem? (i := 1) (by decide +kernel)) rfl, cd_X8_rounds, ⟨by decide, by decide, by decide +kernel⟩, by decide⟩
theorem lv_RL_66 : zLV RL 66 MX8_rounds 8 0 := ⟨lc_RL_66, si_X8_rounds, se_X8_rounds, (RX8, TX8, 7), rfl, rfl⟩
theorem lc_RL_70 : zLc RL 70 MX9_rounds 0 := ⟨ztb_mem (List.mem_of_getElem? (i := 1126) (by decide +kernel)) rfl, ztb_mem (List.mem_of_getElem? (i := 11) (by decide +kernel)) rfl, cd_X9_rounds, ⟨by decide, by decide, by decide +kernel⟩, by decide⟩
theorem lv_RL_70 : zLV RL 70 MX9_rounds 9 0 := ⟨lc_RL_70, si_X9_rounds, se_X9_rounds, (RX9, TX9, 57), rfl, rfl⟩
theorem lc_RL_71 : zLc RL 71 MX8_comes 1 := ⟨ztb_mem (List.mem_of_getElem? (i := 551) (by decide +kernel)) rfl, ztb_mem (List.mem_of_getElem? (i := 1) (by decide +kernel)) rfl, cd_X8_comes, ⟨by decide, by decide, by decide +kernel⟩, by decide⟩
theorem lv_RL_71 : zLV RL 71 MX8_comes 8 1 := ⟨lc_RL_71, si_X8_comes, se_X8_comes, (RX8, TX8, 7), rfl, rfl⟩
theorem lc_RL_74 : zLc RL 74 MX9_comes 1 := ⟨ztb_mem (List.mem_of_getElem? (i := 1176) (by decide +kernel)) rfl, ztb_mem (List.mem_of_getElem? (i := 11) (by decide +kernel)) rfl, cd_X9_comes, ⟨by decide, by decide, by decide +kernel⟩, by decide⟩
theorem lv_RL_74 : zLV RL 74 MX9_comes 9 1 := ⟨lc_RL_74, si_X9_comes, se_X9_comes, (RX9, TX9, 57), rfl, rfl⟩
theorem lc_RL_75 : zLc RL 75 MX8_names 1 := ⟨ztb_mem (List.mem_of_getElem? (i := 563) (by decide +kernel)) rfl, ztb_mem (List.mem_of_getElem? (i := 1) (by decide +kernel)) rfl, cd_X8_names, ⟨by decide, by decide, by decide +kernel⟩, by decide⟩
theorem lv_RL_75 : zLV RL 75 MX8_names 8 1 := ⟨lc_RL_75, si_X8_names, se_X8_names, (RX8, TX8, 7), rfl, rfl⟩
theorem lc_RL_78 : zLc RL 78 MX9_names 1 := ⟨ztb_mem (List.mem_of_getElem? (i := 1180) (by decide +kernel)) rfl, ztb_mem (List.mem_of_getElem? (i := 11) (by decide +kernel)) rfl, cd_X9_names, ⟨by decide, by decide, by decide +kernel⟩, by decide⟩
theorem lv_RL_78 : zLV RL 78 MX9_names 9 1 := ⟨lc_RL_78, si_X9_names, se_X9_names, (RX9, TX9, 57), rfl, rfl⟩
theorem lc_RL_79 : zLc RL 79 MX8_way 2 := ⟨ztb_mem (List.mem_of_getElem? (i := 568) (by decide +kernel)) rfl, ztb_mem (List.mem_of_getElem? (i := 1) (by decide +kernel)) rfl, cd_X8_way, ⟨by decide, by decide, by decide +kernel⟩, by decide⟩
theorem lv_RL_79 : zLV RL 79 MX8_way 8 2 := ⟨lc_RL_79, si_X8_way, se_X8_way, (RX8, TX8, 7), rfl, rfl⟩
theorem lc_RL_82 : zLc RL 82 MX9_way 2 := ⟨ztb_mem (List.mem_of_getElem? (i := 1184) (by decide +kernel)) rfl, ztb_mem (List.mem_of_getElem? (i := 11) (by decide +kernel)) rfl, cd_X9_way, ⟨by decide, by decide, by decide +kernel⟩, by decide⟩
theorem lv_RL_82 : zLV RL 82 MX9_way 9 2 := ⟨lc_RL_82, si_X9_way, se_X9_way, (RX9, TX9, 57), rfl, rfl⟩
theorem lc_RL_83 : zLc RL 83 MX8_told 1 := ⟨ztb_mem (List.mem_of_getElem? (i := 573) (by decide +kernel)) rfl, ztb_mem (List.mem_of_getElem? (i := 1) (by decide +kernel)) rfl, cd_X8_told, ⟨by decide, by decide, by decide +kernel⟩, by decide⟩
theorem lv_RL_83 : zLV RL 83 MX8_told 8 1 := ⟨lc_RL_83, si_X8_told, se_X8_told, (RX8, TX8, 7), rfl, rfl⟩
theorem lc_RL_86 : zLc RL 86 MX9_told 1 := ⟨ztb_mem (List.mem_of_getElem? (i := 1188) (by decide +kernel)) rfl, ztb_mem (List.mem_of_getElem? (i := 11) (by decide +kernel)) rfl, cd_X9_told, ⟨by decide, by decide, by decide +kernel⟩, by decide⟩
theorem lv_RL_86 : zLV RL 86 MX9_told 9 1 := ⟨lc_RL_86, si_X9_told, se_X9_told, (RX9, TX9, 57), rfl, rfl⟩
theorem lc_RL_87 : zLc RL 87 MX8_why 1 := ⟨ztb_mem (List.mem_of_getElem? (i := 578) (by decide +kernel)) rfl, ztb_mem (List.mem_of_getElem? (i := 1) (by decide +kernel)) rfl, cd_X8_why, ⟨by decide, by decide, by decide +kernel⟩, by decide⟩
theorem lv_RL_87 : zLV RL 87 MX8_why 8 1 := ⟨lc_RL_87, si_X8_why, se_X8_why, (RX8, TX8, 7), rfl, rfl⟩
theorem lc_RL_90 : zLc RL 90 MX9_why 1 := ⟨ztb_mem (List.mem_of_getElem? (i := 1196) (by decide +kernel)) rfl, ztb_mem (List.mem_of_getElem? (i := 11) (by decide +kernel)) rfl, cd_X9_why, ⟨by decide, by decide, by decide +kernel⟩, by decide⟩
theorem lv_RL_90 : zLV RL 90 MX9_why 9 1 := ⟨lc_RL_90, si_X9_why, se_X9_why, (RX9, TX9, 57), rfl, rfl⟩
theorem lc_RL_91 : zLc RL 91 MX8_load 1 := ⟨ztb_mem (List.mem_of_getElem? (i := 592) (by decide +kernel)) rfl, ztb_mem (List.mem_of_getElem? (i := 1) (by decide +kernel)) rfl, cd_X8_load, ⟨by decide, by decide, by decide +kernel⟩, by decide⟩
theorem lv_RL_91 : zLV RL 91 MX8_load 8 1 := ⟨lc_RL_91, si_X8_load, se_X8_load, (RX8, TX8, 7), rfl, rfl⟩
theorem lc_RL_94 : zLc RL 94 MX9_load 1 := ⟨ztb_mem (List.mem_of_getElem? (i := 1204) (by decide +kernel)) rfl, ztb_mem (List.mem_of_getElem? (i := 11) (by decide +kernel)) rfl, cd_X9_load, ⟨by decide, by decide, by decide +kernel⟩, by decide⟩
theorem lv_RL_94 : zLV RL 94 MX9_load 9 1 := ⟨lc_RL_94, si_X9_load, se_X9_load, (RX9, TX9, 57), rfl, rfl⟩
theorem lc_RL_95 : zLc RL 95 MX8_excess 0 := ⟨ztb_mem (List.mem_of_getElem? (i := 596) (by decide +kernel)) rfl, ztb_mem (List.mem_of_getElem? (i := 1) (by decide +kernel)) rfl, cd_X8_excess, ⟨by decide, by decide, by decide +kernel⟩, by decide⟩
theorem lv_RL_95 : zLV RL 95 MX8_excess 8 0 := ⟨lc_RL_95, si_X8_excess, se_X8_excess, (RX8, TX8, 7), rfl, rfl⟩
theorem lc_RL_98 : zLc RL 98 MX9_excess 0 := ⟨ztb_mem (List.mem_of_getElem? (i := 1212) (by decide +kernel)) rfl, ztb_mem (List.mem_of_getElem? (i := 11) (by decide +kernel)) rfl, cd_X9_excess, ⟨by decide, by decide, by decide +kernel⟩, by decide⟩
theorem lv_RL_98 : zLV RL 98 MX9_excess 9 0 := ⟨lc_RL_98, si_X9_excess, se_X9_excess, (RX9, TX9, 57), rfl, rfl⟩
theorem lc_RL_99 : zLc RL 99 MX8_sum 0 := ⟨ztb_mem (List.mem_of_getElem? (i := 634) (by decide +kernel)) rfl, ztb_mem (List.mem_of_getElem? (i := 1) (by decide +kernel)) rfl, cd_X8_sum, ⟨by decide, by decide, by decide +kernel⟩, by decide⟩
theorem lv_RL_99 : zLV RL 99 MX8_sum 8 0 := ⟨lc_RL_99, si_X8_sum, se_X8_sum, (RX8, TX8, 7), rfl, rfl⟩
theorem lc_RL_103 : zLc RL 103 MX9_sum 0 := ⟨ztb_mem (List.mem_of_getElem? (i := 1220) (by decide +kernel)) rfl, ztb_mem (List.mem_of_getElem? (i := 11) (by decide +kernel)) rfl, cd_X9_sum, ⟨by decide, by decide, by decide +kernel⟩, by decide⟩
theorem lv_RL_103 : zLV RL 103 MX9_sum 9 0 := ⟨lc_RL_103, si_X9_sum, se_X9_sum, (RX9, TX9, 57), rfl, rfl⟩
theorem lc_RL_104 : zLc RL 104 MX8_without 1 := ⟨ztb_mem (List.mem_of_getElem? (i := 639) (by decide +kernel)) rfl, ztb_mem (List.mem_of_getElem? (i := 1) (by decide +kernel)) rfl, cd_X8_without, ⟨by decide, by decide, by decide +kernel⟩, by decide⟩
theorem lv_RL_104 : zLV RL 104 MX8_without 8 1 := ⟨lc_RL_104, si_X8_without, se_X8_without, (RX8, TX8, 7), rfl, rfl⟩
theorem lc_RL_107 : zLc RL 107 MX9_without 1 := ⟨ztb_mem (List.mem_of_getElem? (i := 1229) (by decide +kernel)) rfl, ztb_mem (List.mem_of_getElem? (i := 11) (by decide +kernel)) rfl, cd_X9_without, ⟨by decide, by decide, by decide +kernel⟩, by decide⟩
theorem lv_RL_107 : zLV RL 107 MX9_without 9 1 := ⟨lc_RL_107, si_X9_without, se_X9_without, (RX9, TX9, 57), rfl, rfl⟩
theorem lc_RL_108 : zLc RL 108 MX8_moves 2 := ⟨ztb_mem (List.mem_of_getElem? (i := 643) (by decide +kernel)) rfl, ztb_mem (List.mem_of_getElem? (i := 1) (by decide +kernel)) rfl, cd_X8_moves, ⟨by decide, by decide, by decide +kernel⟩, by decide⟩
theorem lv_RL_108 : zLV RL 108 MX8_moves 8 2 := ⟨lc_RL_108, si_X8_moves, se_X8_moves, (RX8, TX8, 7), rfl, rfl⟩
theorem lc_RL_111 : zLc RL 111 MX9_moves 2 := ⟨ztb_mem (List.mem_of_getElem? (i := 1233) (by decide +kernel)) rfl, ztb_mem (List.mem_of_getElem? (i := 11) (by decide +kernel)) rfl, cd_X9_moves, ⟨by decide, by decide, by decide +kernel⟩, by decide⟩
theorem lv_RL_111 : zLV RL 111 MX9_moves 9 2 := ⟨lc_RL_111, si_X9_moves, se_X9_moves, (RX9, TX9, 57), rfl, rfl⟩
theorem lc_RL_112 : zLc RL 112 MX8_trial 0 := ⟨ztb_mem (List.mem_of_getElem? (i := 655) (by decide +kernel)) rfl, ztb_mem (List.mem_of_getElem? (i := 1) (by decide +kernel)) rfl, cd_X8_trial, ⟨by decide, by decide, by decide +kernel⟩, by decide⟩
theorem lv_RL_112 : zLV RL 112 MX8_trial 8 0 := ⟨lc_RL_112, si_X8_trial, se_X8_trial, (RX8, TX8, 7), rfl, rfl⟩
theorem lc_RL_115 : zLc RL 115 MX9_trial 0 := ⟨ztb_mem (List.mem_of_getElem? (i := 1237) (by decide +kernel)) rfl, ztb_mem (List.mem_of_getElem? (i := 11) (by decide +kernel)) rfl, cd_X9_trial, ⟨by decide, by decide, by decide +kernel⟩, by decide⟩
theorem lv_RL_115 : zLV RL 115 MX9_trial 9 0 := ⟨lc_RL_115, si_X9_trial, se_X9_trial, (RX9, TX9, 57), rfl, rfl⟩
theorem lc_RL_116 : zLc RL 116 MX8_seen 3 := ⟨ztb_mem (List.mem_of_getElem? (i := 664) (by decide +kernel)) rfl, ztb_mem (List.mem_of_getElem? (i := 1) (by decide +kernel)) rfl, cd_X8_seen, ⟨by decide, by decide, by decide +kernel⟩, by decide⟩
theorem lv_RL_116 : zLV RL 116 MX8_seen 8 3 := ⟨lc_RL_116, si_X8_seen, se_X8_seen, (RX8, TX8, 7), rfl, rfl⟩
theorem lc_RL_119 : zLc RL 119 MX9_seen 3 := ⟨ztb_mem (List.mem_of_getElem? (i := 1241) (by decide +kernel)) rfl, ztb_mem (List.mem_of_getElem? (i := 11) (by decide +kernel)) rfl, cd_X9_seen, ⟨by decide, by decide, by decide +kernel⟩, by decide⟩
theorem lv_RL_119 : zLV RL 119 MX9_seen 9 3 := ⟨lc_RL_119, si_X9_seen, se_X9_seen, (RX9, TX9, 57), rfl, rfl⟩
theorem lc_RL_120 : zLc RL 120 MX8_cases 0 := ⟨ztb_mem (List.mem_of_getElem? (i := 668) (by decide +kernel)) rfl, ztb_mem (List.mem_of_getElem? (i := 1) (by decide +kernel)) rfl, cd_X8_cases, ⟨by decide, by decide, by decide +kernel⟩, by decide⟩
theorem lv_RL_120 : zLV RL 120 MX8_cases 8 0 := ⟨lc_RL_120, si_X8_cases, se_X8_cases, (RX8, TX8, 7), rfl, rfl⟩
theorem lc_RL_123 : zLc RL 123 MX9_cases 0 := ⟨ztb_mem (List.mem_of_getElem? (i := 1245) (by decide +kernel)) rfl, ztb_mem (List.mem_of_getElem? (i := 11) (by decide +kernel)) rfl, cd_X9_cases, ⟨by decide, by decide, by decide +kernel⟩, by decide⟩
theorem lv_RL_123 : zLV RL 123 MX9_cases 9 0 := ⟨lc_RL_123, si_X9_cases, se_X9_cases, (RX9, TX9, 57), rfl, rfl⟩
theorem lc_RL_124 : zLc RL 124 MX8_agree 0 := ⟨ztb_mem (List.mem_of_getElem? (i := 682) (by decide +kernel)) rfl, ztb_mem (List.mem_of_getElem? (i := 1) (by decide +kernel)) rfl, cd_X8_agree, ⟨by decide, by decide, by decide +kernel⟩, by decide⟩
theorem lv_RL_124 : zLV RL 124 MX8_agree 8 0 := ⟨lc_RL_124, si_X8_agree, se_X8_agree, (RX8, TX8, 7), rfl, rfl⟩
theorem lc_RL_127 : zLc RL 127 MX9_agree 0 := ⟨ztb_mem (List.mem_of_getElem? (i := 1256) (by decide +kernel)) rfl, ztb_mem (List.mem_of_getElem? (i := 11) (by decide +kernel)) rfl, cd_X9_agree, ⟨by decide, by decide, by decide +kernel⟩, by decide⟩
theorem lv_RL_127 : zLV RL 127 MX9_agree 9 0 := ⟨lc_RL_127, si_X9_agree, se_X9_agree, (RX9, TX9, 57), rfl, rfl⟩
theorem lc_RL_128 : zLc RL 128 MX8_could 1 := ⟨ztb_mem (List.mem_of_getElem? (i := 717) (by decide +kernel)) rfl, ztb_mem (List.mem_of_getElem? (i := 1) (by decide +kernel)) rfl, cd_X8_could, ⟨by decide, by decide, by decide +kernel⟩, by decide⟩
theorem lv_RL_128 : zLV RL 128 MX8_could 8 1 := ⟨lc_RL_128, si_X8_could, se_X8_could, (RX8, TX8, 7), rfl, rfl⟩
theorem lc_RL_131 : zLc RL 131 MX9_could 1 := ⟨ztb_mem (List.mem_of_getElem? (i := 1276) (by decide +kernel)) rfl, ztb_mem (List.mem_of_getElem? (i := 11) (by decide +kernel)) rfl, cd_X9_could, ⟨by decide, by decide, by decide +kernel⟩, by decide⟩
theorem lv_RL_131 : zLV RL 131 MX9_could 9 1 := ⟨lc_RL_131, si_X9_could, se_X9_could, (RX9, TX9, 57), rfl, rfl⟩
theorem lc_RL_132 : zLc RL 132 MX8_rules 1 := ⟨ztb_mem (List.mem_of_getElem? (i := 730) (by decide +kernel)) rfl, ztb_mem (List.mem_of_getElem? (i := 1) (by decide +kernel)) rfl, cd_X8_rules, ⟨by decide, by decide, by decide +kernel⟩, by decide⟩
theorem lv_RL_132 : zLV RL 132 MX8_rules 8 1 := ⟨lc_RL_132, si_X8_rules, se_X8_rules, (RX8, TX8, 7), rfl, rfl⟩
theorem lc_RL_135 : zLc RL 135 MX9_rules 1 := ⟨ztb_mem (List.mem_of_getElem? (i := 1280) (by decide +kernel)) rfl, ztb_mem (List.mem_of_getElem? (i := 11) (by decide +kernel)) rfl, cd_X9_rules, ⟨by decide, by decide, by decide +kernel⟩, by decide⟩
theorem lv_RL_135 : zLV RL 135 MX9_rules 9 1 := ⟨lc_RL_135, si_X9_rules, se_X9_rules, (RX9, TX9, 57), rfl, rfl⟩
theorem lc_RL_136 : zLc RL 136 MX8_learn 0 := ⟨ztb_mem (List.mem_of_getElem? (i := 738) (by decide +kernel)) rfl, ztb_mem (List.mem_of_getElem? (i := 1) (by decide +kernel)) rfl, cd_X8_learn, ⟨by decide, by decide, by decide +kernel⟩, by decide⟩
theorem lv_RL_136 : zLV RL 136 MX8_learn 8 0 := ⟨lc_RL_136, si_X8_learn, se_X8_learn, (RX8, TX8, 7), rfl, rfl⟩
theorem lc_RL_139 : zLc RL 139 MX9_learn 0 := ⟨ztb_mem (List.mem_of_getElem? (i := 1288) (by decide +kernel)) rfl, ztb_mem (List.mem_of_getElem? (i := 11) (by decide +kernel)) rfl, cd_X9_learn, ⟨by decide, by decide, by decide +kernel⟩, by decide⟩
theorem lv_RL_139 : zLV RL 139 MX9_learn 9 0 := ⟨lc_RL_139, si_X9_learn, se_X9_learn, (RX9, TX9, 57), rfl, rfl⟩
theorem lc_RL_140 : zLc RL 140 MX8_quarrel 0 := ⟨ztb_mem (List.mem_of_getElem? (i := 742) (by decide +kernel)) rfl, ztb_mem (List.mem_of_getElem? (i := 1) (by decide +kernel)) rfl, cd_X8_quarrel, ⟨by decide, by decide, by decide +kernel⟩, by decide⟩
theorem lv_RL_140 : zLV RL 140 MX8_quarrel 8 0 := ⟨lc_RL_140, si_X8_quarrel, se_X8_quarrel, (RX8, TX8, 7), rfl, rfl⟩
theorem lc_RL_143 : zLc RL 143 MX9_quarrel 0 := ⟨ztb_mem (List.mem_of_getElem? (i := 1292) (by decide +kernel)) rfl, ztb_mem (List.mem_of_getElem? (i := 11) (by decide +kernel)) rfl, cd_X9_quarrel, ⟨by decide, by decide, by decide +kernel⟩, by decide⟩
theorem lv_RL_143 : zLV RL 143 MX9_quarrel 9 0 := ⟨lc_RL_143, si_X9_quarrel, se_X9_quarrel, (RX9, TX9, 57), rfl, rfl⟩
theorem lc_RL_144 : zLc RL 144 MX8_next 1 := ⟨ztb_mem (List.mem_of_getElem? (i := 746) (by decide +kernel)) rfl, ztb_mem (List.mem_of_getElem? (i := 1) (by decide +kernel)) rfl, cd_X8_next, ⟨by decide, by decide, by decide +kernel⟩, by decide⟩
theorem lv_RL_144 : zLV RL 144 MX8_next 8 1 := ⟨lc_RL_144, si_X8_next, se_X8_next, (RX8, TX8, 7), rfl, rfl⟩
theorem lc_RL_148 : zLc RL 148 MX9_next 1 := ⟨ztb_mem (List.mem_of_getElem? (i := 1296) (by decide +kernel)) rfl, ztb_mem (List.mem_of_getElem? (i := 11) (by decide +kernel)) rfl, cd_X9_next, ⟨by decide, by decide, by decide +kernel⟩, by decide⟩
theorem lv_RL_148 : zLV RL 148 MX9_next 9 1 := ⟨lc_RL_148, si_X9_next, se_X9_next, (RX9, TX9, 57), rfl, rfl⟩
theorem lc_RL_149 : zLc RL 149 MX8_best 1 := ⟨ztb_mem (List.mem_of_getElem? (i := 767) (by decide +kernel)) rfl, ztb_mem (List.mem_of_getElem? (i := 1) (by decide +kernel)) rfl, cd_X8_best, ⟨by decide, by decide, by decide +kernel⟩, by decide⟩
theorem lv_RL_149 : zLV RL 149 MX8_best 8 1 := ⟨lc_RL_149, si_X8_best, se_X8_best, (RX8, TX8, 7), rfl, rfl⟩
theorem lc_RL_152 : zLc RL 152 MX9_best 1 := ⟨ztb_mem (List.mem_of_getElem? (i := 1306) (by decide +kernel)) rfl, ztb_mem (List.mem_of_getElem? (i := 11) (by decide +kernel)) rfl, cd_X9_best, ⟨by decide, by decide, by decide +kernel⟩, by decide⟩
theorem lv_RL_152 : zLV RL 152 MX9_best 9 1 := ⟨lc_RL_152, si_X9_best, se_X9_best, (RX9, TX9, 57), rfl, rfl⟩
theorem lc_RL_153 : zLc RL 153 MX8_bestSum 1 := ⟨ztb_mem (List.mem_of_getElem? (i := 801) (by decide +kernel)) rfl, ztb_mem (List.mem_of_getElem? (i := 1) (by decide +kernel)) rfl, cd_X8_bestSum, ⟨by decide, by decide, by decide +kernel⟩, by decide⟩
theorem lv_RL_153 : zLV RL 153 MX8_bestSum 8 1 := ⟨lc_RL_153, si_X8_bestSum, se_X8_bestSum, (RX8, TX8, 7), rfl, rfl⟩
theorem lc_RL_157 : zLc RL 157 MX9_bestSum 1 := ⟨ztb_mem (List.mem_of_getElem? (i := 1326) (by decide +kernel)) rfl, ztb_mem (List.mem_of_getElem? (i := 11) (by decide +kernel)) rfl, cd_X9_bestSum, ⟨by decide, by decide, by decide +kernel⟩, by decide⟩
theorem lv_RL_157 : zLV RL 157 MX9_bestSum 9 1 := ⟨lc_RL_157, si_X9_bestSum, se_X9_bestSum, (RX9, TX9, 57), rfl, rfl⟩
theorem lc_RL_158 : zLc RL 158 MX8_bestKind 2 := ⟨ztb_mem (List.mem_of_getElem? (i := 806) (by decide +kernel)) rfl, ztb_mem (List.mem_of_getElem? (i := 1) (by decide +kernel)) rfl, cd_X8_bestKind, ⟨by decide, by decide, by decide +kernel⟩, by decide⟩
theorem lv_RL_158 : zLV RL 158 MX8_bestKind 8 2 := ⟨lc_RL_158, si_X8_bestKind, se_X8_bestKind, (RX8, TX8, 7), rfl, rfl⟩
theorem lc_RL_162 : zLc RL 162 MX9_bestKind 2 := ⟨ztb_mem (List.mem_of_getElem? (i := 1331) (by decide +kernel)) rfl, ztb_mem (List.mem_of_getElem? (i := 11) (by decide +kernel)) rfl, cd_X9_bestKind, ⟨by decide, by decide, by decide +kernel⟩, by decide⟩
theorem lv_RL_162 : zLV RL 162 MX9_bestKind 9 2 := ⟨lc_RL_162, si_X9_bestKind, se_X9_bestKind, (RX9, TX9, 57), rfl, rfl⟩
theorem lc_RL_163 : zLc RL 163 MX8_aim 2 := ⟨ztb_mem (List.mem_of_getElem? (i := 810) (by decide +kernel)) rfl, ztb_mem (List.mem_of_getElem? (i := 1) (by decide +kernel)) rfl, cd_X8_aim, ⟨by decide, by decide, by decide +kernel⟩, by decide⟩
theorem lv_RL_163 : zLV RL 163 MX8_aim 8 2 := ⟨lc_RL_163, si_X8_aim, se_X8_aim, (RX8, TX8, 7), rfl, rfl⟩
theorem lc_RL_166 : zLc RL 166 MX9_aim 2 := ⟨ztb_mem (List.mem_of_getElem? (i := 1335) (by decide +kernel)) rfl, ztb_mem (List.mem_of_getElem? (i := 11) (by decide +kernel)) rfl, cd_X9_aim, ⟨by decide, by decide, by decide +kernel⟩, by decide⟩
theorem lv_RL_166 : zLV RL 166 MX9_aim 9 2 := ⟨lc_RL_166, si_X9_aim, se_X9_aim, (RX9, TX9, 57), rfl, rfl⟩
theorem lc_RL_167 : zLc RL 167 MX8_steps 0 := ⟨ztb_mem (List.mem_of_getElem? (i := 818) (by decide +kernel)) rfl, ztb_mem (List.mem_of_getElem? (i := 1) (by decide +kernel)) rfl, cd_X8_steps, ⟨by decide, by decide, by decide +kernel⟩, by decide⟩
theorem lv_RL_167 : zLV RL 167 MX8_steps 8 0 := ⟨lc_RL_167, si_X8_steps, se_X8_steps, (RX8, TX8, 7), rfl, rfl⟩
theorem lc_RL_170 : zLc RL 170 MX9_steps 0 := ⟨ztb_mem (List.mem_of_getElem? (i := 1343) (by decide +kernel)) rfl, ztb_mem (List.mem_of_getElem? (i := 11) (by decide +kernel)) rfl, cd_X9_steps, ⟨by decide, by decide, by decide +kernel⟩, by decide⟩
theorem lv_RL_170 : zLV RL 170 MX9_steps 9 0 := ⟨lc_RL_170, si_X9_steps, se_X9_steps, (RX9, TX9, 57), rfl, rfl⟩
theorem lc_RL_171 : zLc RL 171 MX8_step 1 := ⟨ztb_mem (List.mem_of_getElem? (i := 828) (by decide +kernel)) rfl, ztb_mem (List.mem_of_getElem? (i := 1) (by decide +kernel)) rfl, cd_X8_step, ⟨by decide, by decide, by decide +kernel⟩, by decide⟩
theorem lv_RL_171 : zLV RL 171 MX8_step 8 1 := ⟨lc_RL_171, si_X8_step, se_X8_step, (RX8, TX8, 7), rfl, rfl⟩
theorem lc_RL_174 : zLc RL 174 MX9_step 1 := ⟨ztb_mem (List.mem_of_getElem? (i := 1351) (by decide +kernel)) rfl, ztb_mem (List.mem_of_getElem? (i := 11) (by decide +kernel)) rfl, cd_X9_step, ⟨by decide, by decide, by decide +kernel⟩, by decide⟩
theorem lv_RL_174 : zLV RL 174 MX9_step 9 1 := ⟨lc_RL_174, si_X9_step, se_X9_step, (RX9, TX9, 57), rfl, rfl⟩
theorem lc_RL_175 : zLc RL 175 MX8_stepWorst 0 := ⟨ztb_mem (List.mem_of_getElem? (i := 860) (by decide +kernel)) rfl, ztb_mem (List.mem_of_getElem? (i := 1) (by decide +kernel)) rfl, cd_X8_stepWorst, ⟨by decide, by decide, by decide +kernel⟩, by decide⟩
theorem lv_RL_175 : zLV RL 175 MX8_stepWorst 8 0 := ⟨lc_RL_175, si_X8_stepWorst, se_X8_stepWorst, (RX8, TX8, 7), rfl, rfl⟩
theorem lc_RL_178 : zLc RL 178 MX9_stepWorst 0 := ⟨ztb_mem (List.mem_of_getElem? (i := 1368) (by decide +kernel)) rfl, ztb_mem (List.mem_of_getElem? (i := 11) (by decide +kernel)) rfl, cd_X9_stepWorst, ⟨by decide, by decide, by decide +kernel⟩, by decide⟩
theorem lv_RL_178 : zLV RL 178 MX9_stepWorst 9 0 := ⟨lc_RL_178, si_X9_stepWorst, se_X9_stepWorst, (RX9, TX9, 57), rfl, rfl⟩
theorem lc_RL_179 : zLc RL 179 MX8_go 0 := ⟨ztb_mem (List.mem_of_getElem? (i := 864) (by decide +kernel)) rfl, ztb_mem (List.mem_of_getElem? (i := 1) (by decide +kernel)) rfl, cd_X8_go, ⟨by decide, by decide, by decide +kernel⟩, by decide⟩
theorem lv_RL_179 : zLV RL 179 MX8_go 8 0 := ⟨lc_RL_179, si_X8_go, se_X8_go, (RX8, TX8, 7), rfl, rfl⟩
theorem lc_RL_182 : zLc RL 182 MX9_go 0 := ⟨ztb_mem (List.mem_of_getElem? (i := 1372) (by decide +kernel)) rfl, ztb_mem (List.mem_of_getElem? (i := 11) (by decide +kernel)) rfl, cd_X9_go, ⟨by decide, by decide, by decide +kernel⟩, by decide⟩
theorem lv_RL_182 : zLV RL 182 MX9_go 9 0 := ⟨lc_RL_182, si_X9_go, se_X9_go, (RX9, TX9, 57), rfl, rfl⟩
theorem lc_RL_183 : zLc RL 183 MX8_count 1 := ⟨ztb_mem (List.mem_of_getElem? (i := 868) (by decide +kernel)) rfl, ztb_mem (List.mem_of_getElem? (i := 1) (by decide +kernel)) rfl, cd_X8_count, ⟨by decide, by decide, by decide +kernel⟩, by decide⟩
theorem lv_RL_183 : zLV RL 183 MX8_count 8 1 := ⟨lc_RL_183, si_X8_count, se_X8_count, (RX8, TX8, 7), rfl, rfl⟩
theorem lc_RL_186 : zLc RL 186 MX9_count 1 := ⟨ztb_mem (List.mem_of_getElem? (i := 1376) (by decide +kernel)) rfl, ztb_mem (List.mem_of_getElem? (i := 11) (by decide +kernel)) rfl, cd_X9_count, ⟨by decide, by decide, by decide +kernel⟩, by decide⟩
theorem lv_RL_186 : zLV RL 186 MX9_count 9 1 := ⟨lc_RL_186, si_X9_count, se_X9_count, (RX9, TX9, 57), rfl, rfl⟩
theorem lc_RX9_136 : zLc RX9 136 MX9_in 3 := ⟨ztb_mem (List.mem_of_getElem? (i := 1063) (by decide +kernel)) rfl, ztb_mem (List.mem_of_getElem? (i := 11) (by decide +kernel)) rfl, cd_X9_in, ⟨by decide, by decide, by decide +kernel⟩, by decide⟩
theorem ls_RX9_136 : zLS RX9 136 MX9_in 3 := ⟨lc_RX9_136, ss_X9_in⟩
theorem lc_RX9_145 : zLc RX9 145 MX9_isNet 1 := ⟨ztb_mem (List.mem_of_getElem? (i := 1070) (by decide +kernel)) rfl, ztb_mem (List.mem_of_getElem? (i := 11) (by decide +kernel)) rfl, cd_X9_isNet, ⟨by decide, by decide, by decide +kernel⟩, by decide⟩
theorem lv_RX9_145 : zLV RX9 145 MX9_isNet 9 1 := ⟨lc_RX9_145, si_X9_isNet, se_X9_isNet, (RX9, TX9, 57), rfl, rfl⟩
theorem lc_RX9_149 : zLc RX9 149 MX9_buysFrom 2 := ⟨ztb_mem (List.mem_of_getElem? (i := 1074) (by decide +kernel)) rfl, ztb_mem (List.mem_of_getElem? (i := 11) (by decide +kernel)) rfl, cd_X9_buysFrom, ⟨by decide, by decide, by decide +kernel⟩, by decide⟩
theorem lv_RX9_149 : zLV RX9 149 MX9_buysFrom 9 2 := ⟨lc_RX9_149, si_X9_buysFrom, se_X9_buysFrom, (RX9, TX9, 57), rfl, rfl⟩
theorem lc_RX9_160 : zLc RX9 160 MX9_isSite 1 := ⟨ztb_mem (List.mem_of_getElem? (i := 1100) (by decide +kernel)) rfl, ztb_mem (List.mem_of_getElem? (i := 11) (by decide +kernel)) rfl, cd_X9_isSite, ⟨by decide, by decide, by decide +kernel⟩, by decide⟩
theorem lv_RX9_160 : zLV RX9 160 MX9_isSite 9 1 := ⟨lc_RX9_160, si_X9_isSite, se_X9_isSite, (RX9, TX9, 57), rfl, rfl⟩
theorem lc_RX9_170 : zLc RX9 170 MX9_least 1 := ⟨ztb_mem (List.mem_of_getElem? (i := 1138) (by decide +kernel)) rfl, ztb_mem (List.mem_of_getElem? (i := 11) (by decide +kernel)) rfl, cd_X9_least, ⟨by decide, by decide, by decide +kernel⟩, by decide⟩
theorem ls_RX9_170 : zLS RX9 170 MX9_least 1 := ⟨lc_RX9_170, ss_X9_least⟩
theorem lc_RX9_174 : zLc RX9 174 MX9_thing 2 := ⟨ztb_mem (List.mem_of_getElem? (i := 1161) (by decide +kernel)) rfl, ztb_mem (List.mem_of_getElem? (i := 11) (by decide +kernel)) rfl, cd_X9_thing, ⟨by decide, by decide, by decide +kernel⟩, by decide⟩
theorem ls_RX9_174 : zLS RX9 174 MX9_thing 2 := ⟨lc_RX9_174, ss_X9_thing⟩
theorem lc_RX9_178 : zLc RX9 178 MX9_worth 3 := ⟨ztb_mem (List.mem_of_getElem? (i := 1164) (by decide +kernel)) rfl, ztb_mem (List.mem_of_getElem? (i := 11) (by decide +kernel)) rfl, cd_X9_worth, ⟨by decide, by decide, by decide +kernel⟩, by decide⟩
theorem lv_RX9_178 : zLV RX9 178 MX9_worth 9 3 := ⟨lc_RX9_178, si_X9_worth, se_X9_worth, (RX9, TX9, 57), rfl, rfl⟩
theorem lc_RX9_182 : zLc RX9 182 MX9_speaks 2 := ⟨ztb_mem (List.mem_of_getElem? (i := 1153) (by decide +kernel)) rfl, ztb_mem (List.mem_of_getElem? (i := 11) (by decide +kernel)) rfl, cd_X9_speaks, ⟨by decide, by decide, by decide +kernel⟩, by decide⟩
theorem lv_RX9_182 : zLV RX9 182 MX9_speaks 9 2 := ⟨lc_RX9_182, si_X9_speaks, se_X9_speaks, (RX9, TX9, 57), rfl, rfl⟩
theorem lc_RX9_185 : zLc RX9 185 MX9_isAhead 3 := ⟨ztb_mem (List.mem_of_getElem? (i := 1157) (by decide +kernel)) rfl, ztb_mem (List.mem_of_getElem? (i := 11) (by decide +kernel)) rfl, cd_X9_isAhead, ⟨by decide, by decide, by decide +kernel⟩, by decide⟩
theorem lv_RX9_185 : zLV RX9 185 MX9_isAhead 9 3 := ⟨lc_RX9_185, si_X9_isAhead, se_X9_isAhead, (RX9, TX9, 57), rfl, rfl⟩
theorem lc_RX9_189 : zLc RX9 189 MX9_passes 2 := ⟨ztb_mem (List.mem_of_getElem? (i := 1168) (by decide +kernel)) rfl, ztb_mem (List.mem_of_getElem? (i := 11) (by decide +kernel)) rfl, cd_X9_passes, ⟨by decide, by decide, by decide +kernel⟩, by decide⟩
theorem lv_RX9_189 : zLV RX9 189 MX9_passes 9 2 := ⟨lc_RX9_189, si_X9_passes, se_X9_passes, (RX9, TX9, 57), rfl, rfl⟩
theorem lc_RX9_192 : zLc RX9 192 MX9_choice 1 := ⟨ztb_mem (List.mem_of_getElem? (i := 1149) (by decide +kernel)) rfl, ztb_mem (List.mem_of_getElem? (i := 11) (by decide +kernel)) rfl, cd_X9_choice, ⟨by decide, by decide, by decide +kernel⟩, by decide⟩
theorem lv_RX9_192 : zLV RX9 192 MX9_choice 9 1 := ⟨lc_RX9_192, si_X9_choice, se_X9_choice, (RX9, TX9, 57), rfl, rfl⟩
theorem lc_RX9_198 : zLc RX9 198 MX9_layNext 1 := ⟨ztb_mem (List.mem_of_getElem? (i := 1145) (by decide +kernel)) rfl, ztb_mem (List.mem_of_getElem? (i := 11) (by decide +kernel)) rfl, cd_X9_layNext, ⟨by decide, by decide, by decide +kernel⟩, by decide⟩
theorem lv_RX9_198 : zLV RX9 198 MX9_layNext 9 1 := ⟨lc_RX9_198, si_X9_layNext, se_X9_layNext, (RX9, TX9, 57), rfl, rfl⟩
theorem lc_RX9_202 : zLc RX9 202 MX9_takeNext 1 := ⟨ztb_mem (List.mem_of_getElem? (i := 1172) (by decide +kernel)) rfl, ztb_mem (List.mem_of_getElem? (i := 11) (by decide +kernel)) rfl, cd_X9_takeNext, ⟨by decide, by decide, by decide +kernel⟩, by decide⟩
theorem lv_RX9_202 : zLV RX9 202 MX9_takeNext 9 1 := ⟨lc_RX9_202, si_X9_takeNext, se_X9_takeNext, (RX9, TX9, 57), rfl, rfl⟩
theorem lc_RX9_209 : zLc RX9 209 MX9_askNow 0 := ⟨ztb_mem (List.mem_of_getElem? (i := 1134) (by decide +kernel)) rfl, ztb_mem (List.mem_of_getElem? (i := 11) (by decide +kernel)) rfl, cd_X9_askNow, ⟨by decide, by decide, by decide +kernel⟩, by decide⟩
theorem lv_RX9_209 : zLV RX9 209 MX9_askNow 9 0 := ⟨lc_RX9_209, si_X9_askNow, se_X9_askNow, (RX9, TX9, 57), rfl, rfl⟩
theorem lc_RX9_212 : zLc RX9 212 MX9_settle 0 := ⟨ztb_mem (List.mem_of_getElem? (i := 1141) (by decide +kernel)) rfl, ztb_mem (List.mem_of_getElem? (i := 11) (by decide +kernel)) rfl, cd_X9_settle, ⟨by decide, by decide, by decide +kernel⟩, by decide⟩
theorem lv_RX9_212 : zLV RX9 212 MX9_settle 9 0 := ⟨lc_RX9_212, si_X9_settle, se_X9_settle, (RX9, TX9, 57), rfl, rfl⟩
theorem lc_RX9_216 : zLc RX9 216 MX9_settleNow 0 := ⟨ztb_mem (List.mem_of_getElem? (i := 1130) (by decide +kernel)) rfl, ztb_mem (List.mem_of_getElem? (i := 11) (by decide +kernel)) rfl, cd_X9_settleNow, ⟨by decide, by decide, by decide +kernel⟩, by decide⟩
theorem lv_RX9_216 : zLV RX9 216 MX9_settleNow 9 0 := ⟨lc_RX9_216, si_X9_settleNow, se_X9_settleNow, (RX9, TX9, 57), rfl, rfl⟩
theorem lc_RX9_219 : zLc RX9 219 MX9_come 1 := ⟨ztb_mem (List.mem_of_getElem? (i := 1192) (by decide +kernel)) rfl, ztb_mem (List.mem_of_getElem? (i := 11) (by decide +kernel)) rfl, cd_X9_come, ⟨by decide, by decide, by decide +kernel⟩, by decide⟩
theorem lv_RX9_219 : zLV RX9 219 MX9_come 9 1 := ⟨lc_RX9_219, si_X9_come, se_X9_come, (RX9, TX9, 57), rfl, rfl⟩
theorem lc_RX9_222 : zLc RX9 222 MX9_alike 2 := ⟨ztb_mem (List.mem_of_getElem? (i := 1200) (by decide +kernel)) rfl, ztb_mem (List.mem_of_getElem? (i := 11) (by decide +kernel)) rfl, cd_X9_alike, ⟨by decide, by decide, by decide +kernel⟩, by decide⟩
theorem lv_RX9_222 : zLV RX9 222 MX9_alike 9 2 := ⟨lc_RX9_222, si_X9_alike, se_X9_alike, (RX9, TX9, 57), rfl, rfl⟩
theorem lc_RX9_225 : zLc RX9 225 MX9_loadOf 1 := ⟨ztb_mem (List.mem_of_getElem? (i := 1208) (by decide +kernel)) rfl, ztb_mem (List.mem_of_getElem? (i := 11) (by decide +kernel)) rfl, cd_X9_loadOf, ⟨by decide, by decide, by decide +kernel⟩, by decide⟩
theorem lv_RX9_225 : zLV RX9 225 MX9_loadOf 9 1 := ⟨lc_RX9_225, si_X9_loadOf, se_X9_loadOf, (RX9, TX9, 57), rfl, rfl⟩
theorem lc_RX9_228 : zLc RX9 228 MX9_excessOf 0 := ⟨ztb_mem (List.mem_of_getElem? (i := 1216) (by decide +kernel)) rfl, ztb_mem (List.mem_of_getElem? (i := 11) (by decide +kernel)) rfl, cd_X9_excessOf, ⟨by decide, by decide, by decide +kernel⟩, by decide⟩
theorem lv_RX9_228 : zLV RX9 228 MX9_excessOf 9 0 := ⟨lc_RX9_228, si_X9_excessOf, se_X9_excessOf, (RX9, TX9, 57), rfl, rfl⟩
theorem lc_RX9_232 : zLc RX9 232 MX9_sumOf 0 := ⟨ztb_mem (List.mem_of_getElem? (i := 1224) (by decide +kernel)) rfl, ztb_mem (List.mem_of_getElem? (i := 11) (by decide +kernel)) rfl, cd_X9_sumOf, ⟨by decide, by decide, by decide +kernel⟩, by decide⟩
theorem lv_RX9_232 : zLV RX9 232 MX9_sumOf 9 0 := ⟨lc_RX9_232, si_X9_sumOf, se_X9_sumOf, (RX9, TX9, 57), rfl, rfl⟩
theorem lc_RX9_241 : zLc RX9 241 MX9_ones 1 := ⟨ztb_mem (List.mem_of_getElem? (i := 1253) (by decide +kernel)) rfl, ztb_mem (List.mem_of_getElem? (i := 11) (by decide +kernel)) rfl, cd_X9_ones, ⟨by decide, by decide, by decide +kernel⟩, by decide⟩
theorem ls_RX9_241 : zLS RX9 241 MX9_ones 1 := ⟨lc_RX9_241, ss_X9_ones⟩
theorem lc_RX9_244 : zLc RX9 244 MX9_caseMany 0 := ⟨ztb_mem (List.mem_of_getElem? (i := 1249) (by decide +kernel)) rfl, ztb_mem (List.mem_of_getElem? (i := 11) (by decide +kernel)) rfl, cd_X9_caseMany, ⟨by decide, by decide, by decide +kernel⟩, by decide⟩
theorem lv_RX9_244 : zLV RX9 244 MX9_caseMany 9 0 := ⟨lc_RX9_244, si_X9_caseMany, se_X9_caseMany, (RX9, TX9, 57), rfl, rfl⟩
theorem lc_RX9_247 : zLc RX9 247 MX9_askTrial 1 := ⟨ztb_mem (List.mem_of_getElem? (i := 1268) (by decide +kernel)) rfl, ztb_mem (List.mem_of_getElem? (i := 11) (by decide +kernel)) rfl, cd_X9_askTrial, ⟨by decide, by decide, by decide +kernel⟩, by decide⟩
theorem lv_RX9_247 : zLV RX9 247 MX9_askTrial 9 1 := ⟨lc_RX9_247, si_X9_askTrial, se_X9_askTrial, (RX9, TX9, 57), rfl, rfl⟩
theorem lc_RX9_250 : zLc RX9 250 MX9_askCase 1 := ⟨ztb_mem (List.mem_of_getElem? (i := 1272) (by decide +kernel)) rfl, ztb_mem (List.mem_of_getElem? (i := 11) (by decide +kernel)) rfl, cd_X9_askCase, ⟨by decide, by decide, by decide +kernel⟩, by decide⟩
theorem lv_RX9_250 : zLV RX9 250 MX9_askCase 9 1 := ⟨lc_RX9_250, si_X9_askCase, se_X9_askCase, (RX9, TX9, 57), rfl, rfl⟩
theorem lc_RX9_256 : zLc RX9 256 MX9_agrees 2 := ⟨ztb_mem (List.mem_of_getElem? (i := 1264) (by decide +kernel)) rfl, ztb_mem (List.mem_of_getElem? (i := 11) (by decide +kernel)) rfl, cd_X9_agrees, ⟨by decide, by decide, by decide +kernel⟩, by decide⟩
theorem lv_RX9_256 : zLV RX9 256 MX9_agrees 9 2 := ⟨lc_RX9_256, si_X9_agrees, se_X9_agrees, (RX9, TX9, 57), rfl, rfl⟩
theorem lc_RX9_259 : zLc RX9 259 MX9_layAgreed 0 := ⟨ztb_mem (List.mem_of_getElem? (i := 1260) (by decide +kernel)) rfl, ztb_mem (List.mem_of_getElem? (i := 11) (by decide +kernel)) rfl, cd_X9_layAgreed, ⟨by decide, by decide, by decide +kernel⟩, by decide⟩
theorem lv_RX9_259 : zLV RX9 259 MX9_layAgreed 9 0 := ⟨lc_RX9_259, si_X9_layAgreed, se_X9_layAgreed, (RX9, TX9, 57), rfl, rfl⟩
theorem lc_RX9_262 : zLc RX9 262 MX9_rulesLeft 1 := ⟨ztb_mem (List.mem_of_getElem? (i := 1284) (by decide +kernel)) rfl, ztb_mem (List.mem_of_getElem? (i := 11) (by decide +kernel)) rfl, cd_X9_rulesLeft, ⟨by decide, by decide, by decide +kernel⟩, by decide⟩
theorem lv_RX9_262 : zLV RX9 262 MX9_rulesLeft 9 1 := ⟨lc_RX9_262, si_X9_rulesLeft, se_X9_rulesLeft, (RX9, TX9, 57), rfl, rfl⟩
theorem lc_RX9_275 : zLc RX9 275 MX9_greatestAlike 2 := ⟨ztb_mem (List.mem_of_getElem? (i := 1300) (by decide +kernel)) rfl, ztb_mem (List.mem_of_getElem? (i := 11) (by decide +kernel)) rfl, cd_X9_greatestAlike, ⟨by decide, by decide, by decide +kernel⟩, by decide⟩
theorem lv_RX9_275 : zLV RX9 275 MX9_greatestAlike 9 2 := ⟨lc_RX9_275, si_X9_greatestAlike, se_X9_greatestAlike, (RX9, TX9, 57), rfl, rfl⟩
theorem lc_RX9_285 : zLc RX9 285 MX9_measure 1 := ⟨ztb_mem (List.mem_of_getElem? (i := 1322) (by decide +kernel)) rfl, ztb_mem (List.mem_of_getElem? (i := 11) (by decide +kernel)) rfl, cd_X9_measure, ⟨by decide, by decide, by decide +kernel⟩, by decide⟩
theorem lv_RX9_285 : zLV RX9 285 MX9_measure 9 1 := ⟨lc_RX9_285, si_X9_measure, se_X9_measure, (RX9, TX9, 57), rfl, rfl⟩
theorem lc_RX9_291 : zLc RX9 291 MX9_layChoice 1 := ⟨ztb_mem (List.mem_of_getElem? (i := 1314) (by decide +kernel)) rfl, ztb_mem (List.mem_of_getElem? (i := 11) (by decide +kernel)) rfl, cd_X9_layChoice, ⟨by decide, by decide, by decide +kernel⟩, by decide⟩
theorem lv_RX9_291 : zLV RX9 291 MX9_layChoice 9 1 := ⟨lc_RX9_291, si_X9_layChoice, se_X9_layChoice, (RX9, TX9, 57), rfl, rfl⟩
theorem lc_RX9_294 : zLc RX9 294 MX9_measureAll 1 := ⟨ztb_mem (List.mem_of_getElem? (i := 1318) (by decide +kernel)) rfl, ztb_mem (List.mem_of_getElem? (i := 11) (by decide +kernel)) rfl, cd_X9_measureAll, ⟨by decide, by decide, by decide +kernel⟩, by decide⟩
theorem lv_RX9_294 : zLV RX9 294 MX9_measureAll 9 1 := ⟨lc_RX9_294, si_X9_measureAll, se_X9_measureAll, (RX9, TX9, 57), rfl, rfl⟩
theorem lc_RX9_304 : zLc RX9 304 MX9_layBest 1 := ⟨ztb_mem (List.mem_of_getElem? (i := 1310) (by decide +kernel)) rfl, ztb_mem (List.mem_of_getElem? (i := 11) (by decide +kernel)) rfl, cd_X9_layBest, ⟨by decide, by decide, by decide +kernel⟩, by decide⟩
theorem lv_RX9_304 : zLV RX9 304 MX9_layBest 9 1 := ⟨lc_RX9_304, si_X9_layBest, se_X9_layBest, (RX9, TX9, 57), rfl, rfl⟩
theorem lc_RX9_310 : zLc RX9 310 MX9_aimOf 1 := ⟨ztb_mem (List.mem_of_getElem? (i := 1339) (by decide +kernel)) rfl, ztb_mem (List.mem_of_getElem? (i := 11) (by decide +kernel)) rfl, cd_X9_aimOf, ⟨by decide, by decide, by decide +kernel⟩, by decide⟩
theorem lv_RX9_310 : zLV RX9 310 MX9_aimOf 9 1 := ⟨lc_RX9_310, si_X9_aimOf, se_X9_aimOf, (RX9, TX9, 57), rfl, rfl⟩
theorem lc_RX9_317 : zLc RX9 317 MX9_stepCount 0 := ⟨ztb_mem (List.mem_of_getElem? (i := 1347) (by decide +kernel)) rfl, ztb_mem (List.mem_of_getElem? (i := 11) (by decide +kernel)) rfl, cd_X9_stepCount, ⟨by decide, by decide, by decide +kernel⟩, by decide⟩
theorem lv_RX9_317 : zLV RX9 317 MX9_stepCount 9 0 := ⟨lc_RX9_317, si_X9_stepCount, se_X9_stepCount, (RX9, TX9, 57), rfl, rfl⟩
theorem lc_RX9_323 : zLc RX9 323 MX9_layOrder 1 := ⟨ztb_mem (List.mem_of_getElem? (i := 1359) (by decide +kernel)) rfl, ztb_mem (List.mem_of_getElem? (i := 11) (by decide +kernel)) rfl, cd_X9_layOrder, ⟨by decide, by decide, by decide +kernel⟩, by decide⟩
theorem lv_RX9_323 : zLV RX9 323 MX9_layOrder 9 1 := ⟨lc_RX9_323, si_X9_layOrder, se_X9_layOrder, (RX9, TX9, 57), rfl, rfl⟩
theorem lc_RX9_326 : zLc RX9 326 MX9_worstOfOrder 0 := ⟨ztb_mem (List.mem_of_getElem? (i := 1363) (by decide +kernel)) rfl, ztb_mem (List.mem_of_getElem? (i := 11) (by decide +kernel)) rfl, cd_X9_worstOfOrder, ⟨by decide, by decide, by decide +kernel⟩, by decide⟩
theorem lv_RX9_326 : zLV RX9 326 MX9_worstOfOrder 9 0 := ⟨lc_RX9_326, si_X9_worstOfOrder, se_X9_worstOfOrder, (RX9, TX9, 57), rfl, rfl⟩
theorem lc_RX9_329 : zLc RX9 329 MX9_layOrders 0 := ⟨ztb_mem (List.mem_of_getElem? (i := 1355) (by decide +kernel)) rfl, ztb_mem (List.mem_of_getElem? (i := 11) (by decide +kernel)) rfl, cd_X9_layOrders, ⟨by decide, by decide, by decide +kernel⟩, by decide⟩
theorem lv_RX9_329 : zLV RX9 329 MX9_layOrders 9 0 := ⟨lc_RX9_329, si_X9_layOrders, se_X9_layOrders, (RX9, TX9, 57), rfl, rfl⟩
theorem ac_RX1_85 : Cond.methodLink RX1 85 arraycopyName ∈ ztb := ztb_mem (List.mem_of_getElem? (i := 618) (by decide +kernel)) rfl
theorem ac_1 : Cond.native arraycopyName ∈ ztb := ztb_mem (List.mem_of_getElem? (i := 620) (by decide +kernel)) rfl
theorem ac_2 : Cond.static arraycopyName ∈ ztb := ztb_mem (List.mem_of_getElem? (i := 619) (by decide +kernel)) rfl
theorem ac_3 : Cond.initialized "java/lang/System" ∈ ztb := ztb_mem (List.mem_of_getElem? (i := 13) (by decide +kernel)) rfl
theorem mm_RX0_87 : Cond.methodLink RX0 87 Lib.Math.max.name ∈ ztb := ztb_mem (List.mem_of_getElem? (i := 710) (by decide +kernel)) rfl
theorem mm_RX1_122 : Cond.methodLink RX1 122 Lib.Math.max.name ∈ ztb := ztb_mem (List.mem_of_getElem? (i := 628) (by decide +kernel)) rfl
theorem mm_RX4_99 : Cond.methodLink RX4 99 Lib.Math.max.name ∈ ztb := ztb_mem (List.mem_of_getElem? (i := 852) (by decide +kernel)) rfl
theorem mm_max1 : Cond.static Lib.Math.max.name ∈ ztb := ztb_mem (List.mem_of_getElem? (i := 629) (by decide +kernel)) rfl
theorem mm_max2 : Cond.code Lib.Math.max.name Lib.Math.max.code 2 (some .int) ∈ ztb := ztb_mem (List.mem_of_getElem? (i := 630) (by decide +kernel)) rfl
theorem mm_RX4_94 : Cond.methodLink RX4 94 Lib.Math.min.name ∈ ztb := ztb_mem (List.mem_of_getElem? (i := 853) (by decide +kernel)) rfl
theorem mm_min1 : Cond.static Lib.Math.min.name ∈ ztb := ztb_mem (List.mem_of_getElem? (i := 854) (by decide +kernel)) rfl
theorem mm_min2 : Cond.code Lib.Math.min.name Lib.Math.min.code 2 (some .int) ∈ ztb := ztb_mem (List.mem_of_getElem? (i := 855) (by decide +kernel)) rfl
theorem mm_0 : Cond.initialized "java/lang/Math" ∈ ztb := ztb_mem (List.mem_of_getElem? (i := 14) (by decide +kernel)) rfl
theorem th_RX2_141 : Cond.fieldLink RX2 141 "NearCopies$Flow" "THINGS" "[I" ∈ ztb := ztb_mem (List.mem_of_getElem? (i := 590) (by decide +kernel)) rfl
