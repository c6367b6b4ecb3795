/-! the text constants, in the order of the tables -/
def nS : Nat := 24
def sOwn : List String := ["SnowRises$Tape", "SnowRises$Tape", "SnowRisesModel", "SnowRisesModel", "SnowRisesModel", "SnowRisesModel", "SnowRisesModel", "SnowRisesModel", "SnowRisesModel", "SnowRisesModel", "SnowRisesModel", "SnowRisesModel", "SnowRisesModel", "SnowRisesModel", "SnowRisesModel", "SnowRisesModel", "SnowRisesModel", "SnowRisesModel", "SnowRisesModel", "SnowRisesModel", "SnowRisesModel", "SnowRisesModel", "SnowRisesModel", "SnowRisesModel"]
def sIdx : List Nat := [65, 58, 158, 160, 162, 164, 166, 168, 170, 135, 141, 143, 145, 147, 149, 151, 153, 155, 156, 174, 176, 177, 179, 181]
def sTx : List String := ["match lift melt when or and not temper hope other wish kin apart far snow found day on at for bare worth ", ";+-*/()<=>", "when", "or", "and", "not", "match", "lift", "melt", "temper", "hope", "other", "wish", "kin", "apart", "far", "snow", "found", "day", "on", "at", "for", "bare", "worth"]
def lenS : List Nat := [105, 10, 4, 2, 3, 3, 5, 4, 4, 6, 4, 5, 4, 3, 5, 3, 4, 5, 3, 2, 2, 3, 4, 5]
def bytS : List (List Int32) := [[109, 97, 116, 99, 104, 32, 108, 105, 102, 116, 32, 109, 101, 108, 116, 32, 119, 104, 101, 110, 32, 111, 114, 32, 97, 110, 100, 32, 110, 111, 116, 32, 116, 101, 109, 112, 101, 114, 32, 104, 111, 112, 101, 32, 111, 116, 104, 101, 114, 32, 119, 105, 115, 104, 32, 107, 105, 110, 32, 97, 112, 97, 114, 116, 32, 102, 97, 114, 32, 115, 110, 111, 119, 32, 102, 111, 117, 110, 100, 32, 100, 97, 121, 32, 111, 110, 32, 97, 116, 32, 102, 111, 114, 32, 98, 97, 114, 101, 32, 119, 111, 114, 116, 104, 32],
  [59, 43, 45, 42, 47, 40, 41, 60, 61, 62],
  [119, 104, 101, 110],
  [111, 114],
  [97, 110, 100],
  [110, 111, 116],
  [109, 97, 116, 99, 104],
  [108, 105, 102, 116],
  [109, 101, 108, 116],
  [116, 101, 109, 112, 101, 114],
  [104, 111, 112, 101],
  [111, 116, 104, 101, 114],
  [119, 105, 115, 104],
  [107, 105, 110],
  [97, 112, 97, 114, 116],
  [102, 97, 114],
  [115, 110, 111, 119],
  [102, 111, 117, 110, 100],
  [100, 97, 121],
  [111, 110],
  [97, 116],
  [102, 111, 114],
  [98, 97, 114, 101],
  [119, 111, 114, 116, 104]]
